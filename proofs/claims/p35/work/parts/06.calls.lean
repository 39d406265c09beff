/-! rows of the layer: making, calls, strings, the script -/
section XN
variable {G : xG} {mt : xM} {R : Room} {Z : xZ} {pc : Nat} {lv : List (Nat × Value)} {st : List Value} {M : xMem} {k n : Nat}
theorem xi_new {i ci idx N : Nat} {C : String} {T : u_T} {fs : List Value} {M' : xMem} (hd : decode mt.2.1 pc = .ok (.new idx, 3)) (hc : xcls[ci]? = some (C, T, N)) (ho : xok (C, T, N)) (hw : Cond.classLink mt.1.cls idx C ∈ xWall) (hin : Cond.instantiable C N ∈ xWall) (hini : Cond.initialized C ∈ xWall) (hfs : ∀ j, j < N → (parseFieldDescriptor (T j).2.2.1).map defaultValue = some (vp_V fs j)) (hfx : fs.map (xcv G) = fs) (hlen : M.length = i) (hM' : M ++ [.inr (ci, fs)] = M') (hcells : k + 1 ≤ R.cells) (hslots : n + N ≤ R.slots)
    (K : xW G mt R Z (pc + 3) lv (.ref i :: st) M' (k + 1) (n + N)) : xW G mt R Z pc lv st M k n := by
  intro p e s m args below meth c H locs ls F hR hL hl
  obtain ⟨ty0, hty⟩ := ho.2.1
  have hts := F.2.2.2.2.2.1
  have hKa := F.2.2.2.2.2.2.2.2.1
  have hKn := hKa.1 ci _ hc
  subst hlen
  subst hM'
  refine W.newcK F.1 F.2.1 F.2.2.2.2.1 (hts _ hw) (hts _ hin) (hts _ hini) rfl hd hcells hslots hKn.2.1 hR.1 fun H1 kC hkC e1 z1 o1 => ?_
  refine K p e s m args below meth c H1 locs ls F (hR.push (c := .inr (ci, fs)) ⟨_, hc, ?_⟩ (by rw [z1, hR.1]) (fun q hq => o1 q (by rw [← hR.1]; exact hq))) hL hl
  show t_OB _ _ _ _ _ (vp_V (fs.map (xcv G)))
  rw [hfx]
  refine (u_born ty0 hts ho.1 hKn hkC e1 hty).to (fun j hj => ?_)
  have h1 := hfs j hj
  have h2 := hty j hj
  dsimp only at h2
  rw [h2] at h1
  exact Option.some.inj h1
theorem xi_newI {i N : Nat} {x : Int32} {M' : xMem} (hd : decode mt.2.1 pc = .ok (.newarray .int, 2)) (hw : Cond.arrayClass .int ∈ xWall) (hx : ¬ x < 0) (hN : x.toNatClampNeg = N) (hb : N * 4 ≤ 536870912) (hlen : M.length = i) (hM' : M ++ [.inl (0, N, .inl (fun _ => 0))] = M') (hcells : k + 1 ≤ R.cells) (hslots : n + N ≤ R.slots)
    (K : xW G mt R Z (pc + 2) lv (.ref i :: st) M' (k + 1) (n + N)) : xW G mt R Z pc lv (.int x :: st) M k n := by
  intro p e s m args below meth c H locs ls F hR hL hl
  have hKa := F.2.2.2.2.2.2.2.2.1
  subst hlen
  subst hM'
  refine va_newaK (atype := .int) F.1 F.2.1 (F.2.2.2.2.2.1 _ hw) rfl hd rfl hx hN hb hcells hslots hR.1 fun H1 cA e1 z1 o1 hAr hNm => ?_
  have hcA : cA = G.2.2.1 0 := Option.some.inj (hNm.symm.trans (hKa.2 0 _ rfl).2)
  subst hcA
  exact K p e s m args below meth c H1 locs ls F (hR.push (c := .inl (0, N, .inl (fun _ => 0))) e1 (by rw [z1, hR.1]) (fun q hq => o1 q (by rw [← hR.1]; exact hq))) hL hl
theorem xi_newB {i N : Nat} {x : Int32} {M' : xMem} (hd : decode mt.2.1 pc = .ok (.newarray .byte, 2)) (hw : Cond.arrayClass .byte ∈ xWall) (hx : ¬ x < 0) (hN : x.toNatClampNeg = N) (hb : N * 1 ≤ 536870912) (hlen : M.length = i) (hM' : M ++ [.inl (1, N, .inl (fun _ => 0))] = M') (hcells : k + 1 ≤ R.cells) (hslots : n + N ≤ R.slots)
    (K : xW G mt R Z (pc + 2) lv (.ref i :: st) M' (k + 1) (n + N)) : xW G mt R Z pc lv (.int x :: st) M k n := by
  intro p e s m args below meth c H locs ls F hR hL hl
  have hKa := F.2.2.2.2.2.2.2.2.1
  subst hlen
  subst hM'
  refine va_newaK (atype := .byte) F.1 F.2.1 (F.2.2.2.2.2.1 _ hw) rfl hd rfl hx hN hb hcells hslots hR.1 fun H1 cA e1 z1 o1 hAr hNm => ?_
  have hcA : cA = G.2.2.1 1 := Option.some.inj (hNm.symm.trans (hKa.2 1 _ rfl).2)
  subst hcA
  exact K p e s m args below meth c H1 locs ls F (hR.push (c := .inl (1, N, .inl (fun _ => 0))) e1 (by rw [z1, hR.1]) (fun q hq => o1 q (by rw [← hR.1]; exact hq))) hL hl
theorem xi_newQ {i t N idx : Nat} {C : String} {x : Int32} {M' : xMem} (hd : decode mt.2.1 pc = .ok (.anewarray idx, 3)) (hw : Cond.classLink mt.1.cls idx C ∈ xWall) (hC : C ∈ xaos) (ht : (xtys G)[t]? = some (G.2.2.1 t, .object C)) (hx : ¬ x < 0) (hN : x.toNatClampNeg = N) (hb : N * 4 ≤ 536870912) (hlen : M.length = i) (hM' : M ++ [.inl (t, N, .inr (.inr (.inr (.inr (fun _ => none)))))] = M') (hcells : k + 1 ≤ R.cells) (hslots : n + N ≤ R.slots)
    (K : xW G mt R Z (pc + 3) lv (.ref i :: st) M' (k + 1) (n + N)) : xW G mt R Z pc lv (.int x :: st) M k n := by
  intro p e s m args below meth c H locs ls F hR hL hl
  have hKa := F.2.2.2.2.2.2.2.2.1
  subst hlen
  subst hM'
  subst hN
  refine W.anew F.1 F.2.1 F.2.2.2.2.1 (F.2.2.2.2.2.1 _ hw) (va_AO.use (F.2.2.2.2.2.2.2.2.2.2.1 C hC)) rfl hd rfl hx hb hcells hslots fun cA kA comp f1 f2 f3 f4 => ?_
  generalize hH1 : H.push ({ cls := cA, slots := Array.replicate x.toNatClampNeg .null, vm := .none } : Cell) = H1
  have z1 : H1.size = H.size + 1 := by rw [← hH1, Array.size_push]
  have e1 : H1[H.size]? = some (arrV cA x.toNatClampNeg (fun _ => .null)) := by rw [← hH1, Array.getElem?_push_size, ← arrV_new]
  have o1 : ∀ q : Nat, q < H.size → H1[q]? = H[q]? := fun q hq => by rw [← hH1, Array.getElem?_push, if_neg (Nat.ne_of_lt hq)]
  obtain ⟨-, -, -, -, -, g4⟩ := (hKa.2 t _ ht).2
  have hcA : cA = G.2.2.1 t := Option.some.inj (f1.symm.trans g4)
  subst hcA
  have hk := K p e s m args below meth c H1 locs ls F (hR.push (c := .inl (t, x.toNatClampNeg, .inr (.inr (.inr (.inr (fun _ => none)))))) (by show H1[_]? = _; rw [← hR.1]; exact e1) z1 o1) hL hl
  show W _ _ _ _ _ _ _ _ _ _ _ _ _ _ _ (F0 m (pc + 3) ls (.ref H.size :: xcs G st))
  rw [hR.1]
  exact hk
/-- Object's constructor -/
theorem xi_obj {i idx : Nat} (hd : decode mt.2.1 pc = .ok (.invokespecial idx, 3)) (hw : Cond.methodLink mt.1.cls idx objectInit ∈ xWall) (hi : Cond.instanceMethod objectInit ∈ xWall) (hc : Cond.code objectInit ⟨#[0xb1]⟩ 1 none ∈ xWall) (hst : (st.map fun v => v.category).sum ≤ 8) (hfr : 1 ≤ R.frames) (hlo : 20 ≤ R.locals)
    (K : xW G mt R Z (pc + 3) lv st M k n) : xW G mt R Z pc lv (.ref i :: st) M k n := by
  intro p e s m args below meth c H locs ls F hR hL hl
  have hts := F.2.2.2.2.2.1
  refine W.objInit F.1 F.2.1 F.2.2.2.2.1 (hts _ hw) (hts _ hi) (hts _ hc) rfl (by show ls.size = _; rw [hl.1, F.2.2.1]) (a := G.2.2.2.1 + i) (rest := xcs G st) rfl hd hfr ?_ (K p e s m args below meth c H locs ls F hR hL hl)
  have e : ((xcs G st).map fun v => v.category).sum = (st.map fun v => v.category).sum := by
    unfold xcs
    rw [List.map_map]
    congr 1
    exact List.map_congr_left (fun v _ => xcv_cat G v)
  show 2 * 0 + _ + 12 ≤ _
  rw [e]
  omega
/-- what a call of mt' needs of the tables -/
def xMok (mt' : xM) (na : Nat) : Prop := Cond.code mt'.1 mt'.2.1 mt'.2.2.1 mt'.2.2.2 ∈ xWall ∧ Cond.initialized mt'.1.cls ∈ xWall ∧ (mt'.1.cls ≠ "java/lang/invoke/MethodHandle" ∧ mt'.1.cls ≠ "java/lang/invoke/VarHandle" ∧ (parseMethodDescriptor mt'.1.desc).map (fun d => d.parameters.length) = some na)
theorem xgood {mt' : xM} {na : Nat} (h : xMok mt' na) : GoodIn xWall (.code mt'.1 mt'.2.1 mt'.2.2.1 mt'.2.2.2 :: xWall) := by
  intro w hw
  have hm : w ∈ xWall := by
    rcases List.mem_cons.mp hw with h1 | h1
    · rw [h1]; exact h.1
    · exact h1
  exact ⟨hm, good_of_word (xWall_good hm)⟩
theorem xblind (G : xG) (as : List Value) (M : xMem) : FrameBlind (xPc G as M) := fun a U g mk h => ⟨h.1, h.2.1, xK.same (u := U) (U := U.calling g mk a) rfl h.2.2⟩
theorem xroom (G : xG) {m : MethodId} {ls : Array Slot} {rest : List Value} (h : (rest.map fun v => v.category).sum ≤ 8) (st0 : List Value) : 2 * (F0 m pc ls st0).monitorRoom + ((xcs G rest).map fun v => v.category).sum ≤ 8 := by
  have e : ((xcs G rest).map fun v => v.category).sum = (rest.map fun v => v.category).sum := by
    unfold xcs
    rw [List.map_map]
    congr 1
    exact List.map_congr_left (fun v _ => xcv_cat G v)
  show 2 * 0 + _ ≤ 8
  rw [e]
  omega
theorem xafter {p : Program} {e : Env} {s : State} {m : MethodId} {args a : Array Value} {below : List Frame} {meth : Method} {c : Code} {H : Heap} {locs : List Loc} {ls : Array Slot} {mc ms : Nat} {st0 rest : List Value} {Q : Option Value → xMem → Prop} (hr : va_Run p G.1 e R s m args below meth c H locs k n mc ms (F0 m pc ls st0) (xcs G rest) (xQc G Q a) (fun q => G.2.2.2.1 ≤ q)) (F : xF G mt p s m args meth c) (hL : ∀ q ∈ locs, G.2.2.2.1 ≤ q.base) (hl : lv_has ls mt.2.2.1 (xcl G lv))
    (K : ∀ (v : Option Value) (M' : xMem), Q v M' → xW G mt R Z (pc + 3) lv (v.toList ++ rest) M' (k + mc) (n + ms)) : W p G.1 e R s m args below meth c H locs k n (Z below args s) (F0 m pc ls st0) := by
  intro T hT X
  obtain ⟨v, st₀, t, T', L, h0, X', hLL, e1, e2, ⟨v0, M', hv, hq, hrel⟩, hst⟩ := hr T hT X
  cases hv
  obtain ⟨t2, a1, b1⟩ := K v0 M' hq p e s m args below meth c T'.heap (locs ++ L) ls F (by rw [e1]; exact hrel) (fun q hq => (List.mem_append.mp hq).elim (hL q) (hLL q)) hl T' rfl X'
  refine ⟨t2, hst t2 ?_, b1⟩
  cases v0 with
  | none => exact a1
  | some v => exact a1
theorem xcs_rev (G : xG) (as rest : List Value) : xcs G (as.reverse ++ rest) = (xcs G as).reverse ++ xcs G rest := by
  unfold xcs
  rw [List.map_append, List.map_reverse]
theorem xi_callV {mt' : xM} {i ci idx na d mc ms : Nat} {as rest st0 fs : List Value} {r : vw_C} {Q : Option Value → xMem → Prop} (hd : decode mt.2.1 pc = .ok (.invokevirtual idx, 3)) (hC : xC G mt' d mc ms (.ref i :: as) M Q) (hm : xMok mt' na) (hi : Cond.instanceMethod mt'.1 ∈ xWall) (hs : Cond.selects mt'.1.cls mt'.1 mt'.1 ∈ xWall) (hw : Cond.methodLink mt.1.cls idx mt'.1 ∈ xWall) (hM : M[i]? = some (.inr (ci, fs))) (hc : xcls[ci]? = some r) (hcls : r.1 = mt'.1.cls) (hna : as.length = na) (hst : st0 = as.reverse ++ .ref i :: rest) (hrest : (rest.map fun v => v.category).sum ≤ 8) (hfr : d + 2 ≤ R.frames) (hlo : 8 + (mt'.2.2.1 + 11) + 64 * (d + 1) ≤ R.locals) (hce : k + mc ≤ R.cells) (hsl : n + ms ≤ R.slots)
    (K : ∀ (v : Option Value) (M' : xMem), Q v M' → xW G mt R Z (pc + 3) lv (v.toList ++ rest) M' (k + mc) (n + ms)) : xW G mt R Z pc lv st0 M k n := by
  intro p e s m args below meth c H locs ls F hR hL hl
  have hts := F.2.2.2.2.2.1
  refine xafter (va_runV (C := mt'.1.cls) (b := G.2.2.2.1 + i) (As := xcs G as) (rest := xcs G rest) ⟨F.1, F.2.1, F.2.2.1, F.2.2.2.2.1, hts⟩ hC ⟨callB_of na hts (xgood hm) rfl rfl rfl (hts _ hm.2.1) (hts _ hw) hm.2.2 ⟨hfr, hlo⟩, hts _ hi, hts _ hs⟩ ⟨xblind G _ _, ?_, fun U hU hW => ⟨rfl, by rw [hU]; exact hR, F.2.2.2.2.2.2.2.2.warm hW⟩⟩ rfl (by unfold xcs; rw [List.length_map]; exact hna) hl.1 ?_ (xroom G hrest _) hd ⟨hce, hsl⟩) F hL hl K
  · have h1 := va_recv F.2.2.2.2.2.2.2.2.1 (hR.one hM) hc (q0 := 0) rfl
    rw [hcls] at h1
    exact h1
  · show xcs G st0 = _
    rw [hst, xcs_rev]
    rfl
theorem xi_callS {mt' : xM} {idx na d mc ms : Nat} {as rest st0 : List Value} {Q : Option Value → xMem → Prop} (hd : decode mt.2.1 pc = .ok (.invokestatic idx, 3)) (hC : xC G mt' d mc ms as M Q) (hm : xMok mt' na) (hi : Cond.static mt'.1 ∈ xWall) (hw : Cond.methodLink mt.1.cls idx mt'.1 ∈ xWall) (hna : as.length = na) (hst : st0 = as.reverse ++ rest) (hrest : (rest.map fun v => v.category).sum ≤ 8) (hfr : d + 2 ≤ R.frames) (hlo : 8 + (mt'.2.2.1 + 11) + 64 * (d + 1) ≤ R.locals) (hce : k + mc ≤ R.cells) (hsl : n + ms ≤ R.slots)
    (K : ∀ (v : Option Value) (M' : xMem), Q v M' → xW G mt R Z (pc + 3) lv (v.toList ++ rest) M' (k + mc) (n + ms)) : xW G mt R Z pc lv st0 M k n := by
  intro p e s m args below meth c H locs ls F hR hL hl
  have hts := F.2.2.2.2.2.1
  refine xafter (va_runS (As := xcs G as) (rest := xcs G rest) ⟨F.1, F.2.1, F.2.2.1, F.2.2.2.2.1, hts⟩ hC ⟨callB_of na hts (xgood hm) rfl rfl rfl (hts _ hm.2.1) (hts _ hw) hm.2.2 ⟨hfr, hlo⟩, hts _ hi⟩ ⟨xblind G _ _, fun U hU hW => ⟨rfl, by rw [hU]; exact hR, F.2.2.2.2.2.2.2.2.warm hW⟩⟩ rfl (by unfold xcs; rw [List.length_map]; exact hna) hl.1 ?_ (xroom G hrest _) hd ⟨hce, hsl⟩) F hL hl K
  show xcs G st0 = _
  rw [hst, xcs_rev]
theorem xi_callI {mt' : xM} {i idx na d mc ms : Nat} {as rest st0 : List Value} {Q : Option Value → xMem → Prop} (hd : decode mt.2.1 pc = .ok (.invokespecial idx, 3)) (hC : xC G mt' d mc ms (.ref i :: as) M Q) (hm : xMok mt' na) (hi : Cond.instanceMethod mt'.1 ∈ xWall) (hw : Cond.methodLink mt.1.cls idx mt'.1 ∈ xWall) (hnm : mt'.1.name = "<init>") (hret : mt'.2.2.2 = none) (hna : as.length = na) (hst : st0 = as.reverse ++ .ref i :: rest) (hrest : (rest.map fun v => v.category).sum ≤ 8) (hfr : d + 2 ≤ R.frames) (hlo : 8 + (mt'.2.2.1 + 11) + 64 * (d + 1) ≤ R.locals) (hce : k + mc ≤ R.cells) (hsl : n + ms ≤ R.slots)
    (K : ∀ (v : Option Value) (M' : xMem), Q v M' → xW G mt R Z (pc + 3) lv (v.toList ++ rest) M' (k + mc) (n + ms)) : xW G mt R Z pc lv st0 M k n := by
  intro p e s m args below meth c H locs ls F hR hL hl
  have hts := F.2.2.2.2.2.1
  have hcb := callB_of (R := R) (own := mt.1.cls) (index := idx) (y := mt'.1) (bytes := mt'.2.1) (maxL := mt'.2.2.1) (ret := mt'.2.2.2) (rm := xrm d mc ms) (mc := mc) (ms := ms) na hts (xgood hm) rfl rfl rfl (hts _ hm.2.1) (hts _ hw) hm.2.2 ⟨hfr, hlo⟩
  rw [hret] at hcb
  have hC2 : Met G.1 mt'.1 (.code mt'.1 mt'.2.1 mt'.2.2.1 none :: xWall) (xrm d mc ms) (xPc G (.ref i :: as) M) (xQc G Q) mc ms (fun q => G.2.2.2.1 ≤ q) := by
    rw [← hret]; exact hC
  refine xafter (va_runI (b := G.2.2.2.1 + i) (As := xcs G as) (rest := xcs G rest) ⟨F.1, F.2.1, F.2.2.1, F.2.2.2.2.1, hts⟩ hC2 ⟨hcb, hnm, hts _ hi⟩ ⟨xblind G _ _, fun U hU hW => ⟨rfl, by rw [hU]; exact hR, F.2.2.2.2.2.2.2.2.warm hW⟩⟩ rfl (by unfold xcs; rw [List.length_map]; exact hna) hl.1 ?_ (xroom G hrest _) hd ⟨hce, hsl⟩) F hL hl K
  show xcs G st0 = _
  rw [hst, xcs_rev]
  rfl
/-- the constructor of a nest mate, private -/
theorem xi_callIN {mt' : xM} {host : String} {i idx na d mc ms : Nat} {as rest st0 : List Value} {Q : Option Value → xMem → Prop} (hd : decode mt.2.1 pc = .ok (.invokespecial idx, 3)) (hC : xC G mt' d mc ms (.ref i :: as) M Q) (hm : xMok mt' na) (hi : Cond.instanceMethod mt'.1 ∈ xWall) (hw : Cond.methodLinkNest mt.1.cls idx mt'.1 host ∈ xnest) (hnm : mt'.1.name = "<init>") (hret : mt'.2.2.2 = none) (hna : as.length = na) (hst : st0 = as.reverse ++ .ref i :: rest) (hrest : (rest.map fun v => v.category).sum ≤ 8) (hfr : d + 2 ≤ R.frames) (hlo : 8 + (mt'.2.2.1 + 11) + 64 * (d + 1) ≤ R.locals) (hce : k + mc ≤ R.cells) (hsl : n + ms ≤ R.slots)
    (K : ∀ (v : Option Value) (M' : xMem), Q v M' → xW G mt R Z (pc + 3) lv (v.toList ++ rest) M' (k + mc) (n + ms)) : xW G mt R Z pc lv st0 M k n := by
  intro p e s m args below meth c H locs ls F hR hL hl
  have hts := F.2.2.2.2.2.1
  have hcb := va_cnB (R := R) (own := mt.1.cls) (index := idx) (y := mt'.1) (host := host) (bytes := mt'.2.1) (maxL := mt'.2.2.1) (ret := mt'.2.2.2) (rm := xrm d mc ms) (mc := mc) (ms := ms) na hts (xgood hm) rfl rfl rfl (F.2.2.2.2.2.2.2.2.2.1 _ hw) (hts _ hm.2.1) hm.2.2 ⟨hfr, hlo⟩
  rw [hret] at hcb
  have hC2 : Met G.1 mt'.1 (.code mt'.1 mt'.2.1 mt'.2.2.1 none :: xWall) (xrm d mc ms) (xPc G (.ref i :: as) M) (xQc G Q) mc ms (fun q => G.2.2.2.1 ≤ q) := by
    rw [← hret]; exact hC
  refine xafter (va_runIN (b := G.2.2.2.1 + i) (As := xcs G as) (rest := xcs G rest) ⟨F.1, F.2.1, F.2.2.1, F.2.2.2.2.1, hts⟩ hC2 ⟨hcb, hnm, hts _ hi⟩ ⟨xblind G _ _, fun U hU hW => ⟨rfl, by rw [hU]; exact hR, F.2.2.2.2.2.2.2.2.warm hW⟩⟩ rfl (by unfold xcs; rw [List.length_map]; exact hna) hl.1 ?_ (xroom G hrest _) hd ⟨hce, hsl⟩) F hL hl K
  show xcs G st0 = _
  rw [hst, xcs_rev]
  rfl
/-- Math.max -/
theorem xi_max {idx : Nat} {x y v : Int32} (hd : decode mt.2.1 pc = .ok (.invokestatic idx, 3)) (hw : Cond.methodLink mt.1.cls idx Lib.Math.max.name ∈ xWall) (hs : Cond.static Lib.Math.max.name ∈ xWall) (hin : Cond.initialized "java/lang/Math" ∈ xWall) (hc : Cond.code Lib.Math.max.name Lib.Math.max.code 2 (some .int) ∈ xWall) (hrest : (st.map fun v => v.category).sum ≤ 8) (hfr : 1 ≤ R.frames) (hlo : 21 ≤ R.locals) (hce : k ≤ R.cells) (hsl : n ≤ R.slots) (hv : (if x < y then y else x) = v)
    (K : xW G mt R Z (pc + 3) lv (.int v :: st) M k n) : xW G mt R Z pc lv (.int y :: .int x :: st) M k n := by
  subst hv
  intro p e s m args below meth c H locs ls F hR hL hl
  have hts := F.2.2.2.2.2.1
  refine va_mmax F.1 F.2.1 (by rw [hl.1]; exact F.2.2.1) F.2.2.2.2.1 (hts _ hw) (hts _ hs) (hts _ hin) (hts _ hc) hfr ?_ hce hsl hd (K p e s m args below meth c H locs ls F hR hL hl)
  have e := xroom G (pc := pc) (m := m) (ls := ls) hrest []
  have e2 : ((xcs G st).map fun v => v.category).sum ≤ 8 := by
    have : 2 * 0 + ((xcs G st).map fun v => v.category).sum ≤ 8 := e
    omega
  exact Nat.le_trans (Nat.add_le_add_right e2 13) hlo
/-- strings -/
theorem xold_at {H : Heap} (hR : xR G M H) : ∀ a : Nat, a < G.2.2.2.2.1.size → ¬ xold G a → H[a]? = G.2.2.2.2.1[a]? := fun a _ h => hR.2.2 a (Nat.not_le.mp h)
theorem xi_ldcS {idx : Nat} {tx : String} {j : Nat} {bs : List Int32} {w : UInt32} (hd : decode mt.2.1 pc = .ok (.ldc idx, 2)) (hq : (mt.1.cls, idx, tx, j, bs) ∈ xstr) (hj : w.toNat = j)
    (K : xW G mt R Z (pc + 2) lv (.float w :: st) M k n) : xW G mt R Z pc lv st M k n := by
  subst hj
  intro p e s m args below meth c H locs ls F hR hL hl
  exact va_ldcS F.1 F.2.1 F.2.2.2.2.1 (F.2.2.2.2.2.2.2.2.2.2.2.1 _ hq).1 hd (K p e s m args below meth c H locs ls F hR hL hl)
theorem xi_getSv {idx : Nat} {q : String × Nat × String × Nat × List Int32} {w w2 : UInt32} (hd : decode mt.2.1 pc = .ok (.getfield idx, 3)) (hq : q ∈ xstr) (hj : w.toNat = q.2.2.2.1) (hj2 : w2.toNat = 100 + q.2.2.2.1) (hw : Cond.fieldLink mt.1.cls idx "java/lang/String" "value" "[B" ∈ xWall)
    (K : xW G mt R Z (pc + 3) lv (.float w2 :: st) M k n) : xW G mt R Z pc lv (.float w :: st) M k n := by
  intro p e s m args below meth c H locs ls F hR hL hl
  obtain ⟨cf, kk, fi, f, cell, h1, h2, h3, h4, h5, h6⟩ := (F.2.2.2.2.2.2.2.2.2.2.2.1 _ hq).2.2.2.1.kept (xold_at hR)
  have hk := K p e s m args below meth c H locs ls F hR hL hl
  refine W.getf (a := G.2.2.2.2.2.1 w.toNat) F.1 F.2.1 F.2.2.2.2.1 (F.2.2.2.2.2.1 _ hw) h1 h2 (by rw [hj]; exact h3) h4 (v := .ref (G.2.2.2.2.2.1 w2.toNat)) (by rw [hj2]; exact h5) rfl rfl hd hk
theorem xi_getSc {idx : Nat} {q : String × Nat × String × Nat × List Int32} {w : UInt32} (hd : decode mt.2.1 pc = .ok (.getfield idx, 3)) (hq : q ∈ xstr) (hj : w.toNat = q.2.2.2.1) (hw : Cond.fieldLink mt.1.cls idx "java/lang/String" "coder" "B" ∈ xWall)
    (K : xW G mt R Z (pc + 3) lv (.int 0 :: st) M k n) : xW G mt R Z pc lv (.float w :: st) M k n := by
  intro p e s m args below meth c H locs ls F hR hL hl
  obtain ⟨cf, kk, fi, f, cell, h1, h2, h3, h4, h5, h6⟩ := (F.2.2.2.2.2.2.2.2.2.2.2.1 _ hq).2.2.1.kept (xold_at hR)
  have hk := K p e s m args below meth c H locs ls F hR hL hl
  refine W.getf (a := G.2.2.2.2.2.1 w.toNat) F.1 F.2.1 F.2.2.2.2.1 (F.2.2.2.2.2.1 _ hw) h1 h2 (by rw [hj]; exact h3) h4 (v := .int 0) h5 rfl rfl hd hk
theorem xi_lenS {q : String × Nat × String × Nat × List Int32} {w2 : UInt32} {v : Int32} (hd : decode mt.2.1 pc = .ok (.arraylength, 1)) (hq : q ∈ xstr) (hj2 : w2.toNat = 100 + q.2.2.2.1) (hv : Int32.ofNat q.2.2.2.2.length = v)
    (K : xW G mt R Z (pc + 1) lv (.int v :: st) M k n) : xW G mt R Z pc lv (.float w2 :: st) M k n := by
  intro p e s m args below meth c H locs ls F hR hL hl
  obtain ⟨cell, h1, h2, h3, h4, h5, h6, h7⟩ := (F.2.2.2.2.2.2.2.2.2.2.2.1 _ hq).2.2.2.2.kept (xold_at hR)
  have hk := K p e s m args below meth c H locs ls F hR hL hl
  exact W.alen (a := G.2.2.2.2.2.1 w2.toNat) (n := v) F.1 F.2.1 (by rw [hj2]; exact h1) h2 (h5.trans hv) rfl rfl hd hk
theorem xi_compact {idx : Nat} (hd : decode mt.2.1 pc = .ok (.getstatic idx, 3)) (hw : Cond.fieldLink mt.1.cls idx "java/lang/String" "COMPACT_STRINGS" "Z" ∈ xWall)
    (K : xW G mt R Z (pc + 3) lv (.int 1 :: st) M k n) : xW G mt R Z pc lv st M k n := by
  intro p e s m args below meth c H locs ls F hR hL hl
  obtain ⟨cf, kf, fi, f, a, cell, h1, h2, h3, h4, h5, h6, h7, h8⟩ := F.2.2.2.2.2.2.2.2.2.2.2.2.1.1.kept (xold_at hR)
  exact W.gets F.1 F.2.1 F.2.2.2.2.1 (F.2.2.2.2.2.1 _ hw) h1 h2 h3 h4 h5 (fun e => by rw [e] at h6; cases h6) h7 rfl hd (K p e s m args below meth c H locs ls F hR hL hl)
/-- a call upon a string constant -/
theorem xi_callVS {mt' : xM} {q : String × Nat × String × Nat × List Int32} {w : UInt32} {idx na d mc ms : Nat} {as rest st0 : List Value} {Q : Option Value → xMem → Prop} (hd : decode mt.2.1 pc = .ok (.invokevirtual idx, 3)) (hC : xC G mt' d mc ms (.float w :: as) M Q) (hm : xMok mt' na) (hi : Cond.instanceMethod mt'.1 ∈ xWall) (hs : Cond.selects mt'.1.cls mt'.1 mt'.1 ∈ xWall) (hw : Cond.methodLink mt.1.cls idx mt'.1 ∈ xWall) (hq : q ∈ xstr) (hj : w.toNat = q.2.2.2.1) (hcls : mt'.1.cls = "java/lang/String") (hna : as.length = na) (hst : st0 = as.reverse ++ .float w :: rest) (hrest : (rest.map fun v => v.category).sum ≤ 8) (hfr : d + 2 ≤ R.frames) (hlo : 8 + (mt'.2.2.1 + 11) + 64 * (d + 1) ≤ R.locals) (hce : k + mc ≤ R.cells) (hsl : n + ms ≤ R.slots)
    (K : ∀ (v : Option Value) (M' : xMem), Q v M' → xW G mt R Z (pc + 3) lv (v.toList ++ rest) M' (k + mc) (n + ms)) : xW G mt R Z pc lv st0 M k n := by
  intro p e s m args below meth c H locs ls F hR hL hl
  have hts := F.2.2.2.2.2.1
  refine xafter (va_runV (C := mt'.1.cls) (b := G.2.2.2.2.2.1 w.toNat) (As := xcs G as) (rest := xcs G rest) ⟨F.1, F.2.1, F.2.2.1, F.2.2.2.2.1, hts⟩ hC ⟨callB_of na hts (xgood hm) rfl rfl rfl (hts _ hm.2.1) (hts _ hw) hm.2.2 ⟨hfr, hlo⟩, hts _ hi, hts _ hs⟩ ⟨xblind G _ _, ?_, fun U hU hW => ⟨rfl, by rw [hU]; exact hR, F.2.2.2.2.2.2.2.2.warm hW⟩⟩ rfl (by unfold xcs; rw [List.length_map]; exact hna) hl.1 ?_ (xroom G hrest _) hd ⟨hce, hsl⟩) F hL hl K
  · obtain ⟨cell, h1, h2, h3, h4⟩ := (F.2.2.2.2.2.2.2.2.2.2.2.1 _ hq).2.1.kept (xold_at hR)
    rw [hj, hcls]
    exact ⟨cell, h1, h2, h3⟩
  · show xcs G st0 = _
    rw [hst, xcs_rev]
    rfl
/-- the script -/
theorem xi_slen {v : Int32} (hd : decode mt.2.1 pc = .ok (.arraylength, 1)) (hv : Int32.ofNat G.2.2.2.2.2.2.1 = v)
    (K : xW G mt R Z (pc + 1) lv (.int v :: st) M k n) : xW G mt R Z pc lv (.float 200 :: st) M k n := by
  intro p e s m args below meth c H locs ls F hR hL hl
  obtain ⟨⟨scr, h1, h2, h3, h4, h5⟩, h6⟩ := F.2.2.2.2.2.2.2.2.2.2.2.2.2
  exact W.alen (a := G.2.2.2.2.2.1 200) (n := v) F.1 F.2.1 (by rw [hR.2.2 _ h6]; exact h1) h2 (by rw [h4]; exact hv) rfl rfl hd (K p e s m args below meth c H locs ls F hR hL hl)
theorem xi_sld {j v : Int32} (hd : decode mt.2.1 pc = .ok (.iaload, 1)) (hin : vp_in j G.2.2.2.2.2.2.1) (hv : G.2.2.2.2.2.2.2 j.toNatClampNeg = v)
    (K : xW G mt R Z (pc + 1) lv (.int v :: st) M k n) : xW G mt R Z pc lv (.int j :: .float 200 :: st) M k n := by
  subst hv
  intro p e s m args below meth c H locs ls F hR hL hl
  obtain ⟨⟨scr, h1, h2, h3, h4, h5⟩, h6⟩ := F.2.2.2.2.2.2.2.2.2.2.2.2.2
  have hlt : j.toNatClampNeg < G.2.2.2.2.2.2.1 := Nat.not_le.mp fun q => hin (Or.inr q)
  exact W.iald (a := G.2.2.2.2.2.1 200) (v := .int (G.2.2.2.2.2.2.2 j.toNatClampNeg)) F.1 F.2.1 (by rw [hR.2.2 _ h6]; exact h1) h2 h3 (by rw [h4]; exact hin) (h5 _ hlt) rfl rfl hd (K p e s m args below meth c H locs ls F hR hL hl)
end XN
