/-! rows of the layer: cells and calls -/
/-- what the tables say of a class of which objects are made -/
def xok (r : vw_C) : Prop := (∀ w ∈ u_ws r.1 r.2.1 r.2.2, w ∈ xWall) ∧ (∃ ty : Nat → FieldType, ∀ k, k < r.2.2 → parseFieldDescriptor (r.2.1 k).2.2.1 = some (ty k)) ∧ ∀ a, a < r.2.2 → ∀ b, b < r.2.2 → a ≠ b → (r.2.1 a).2.1 ≠ (r.2.1 b).2.1
theorem xws {C : String} {T : u_T} {N : Nat} (h : ∀ k, k < N → u_lay C T k ∈ xWall) : ∀ w ∈ u_ws C T N, w ∈ xWall := by
  intro w hw
  obtain ⟨k, hk, rfl⟩ := List.mem_map.mp hw
  exact h k (List.mem_range.mp hk)
section XR
variable {G : xG} {M : xMem} {H H1 : Heap}
theorem xR.lt (h : xR G M H) {i : Nat} {c : va_E} (hi : M[i]? = some c) : G.2.2.2.1 + i < H.size := by
  have := (List.getElem?_eq_some_iff.mp hi).1
  rw [h.1]; omega
theorem xR.one (h : xR G M H) {i : Nat} {c : va_E} (hi : M[i]? = some c) : va_P G.2.1 xcls [(G.2.2.2.1 + i, xce G c)] H := by
  intro k q hk
  have hz : k < 1 := (List.getElem?_eq_some_iff.mp hk).1
  have e : k = 0 := by omega
  subst e
  cases hk
  exact h.2.1 i c hi
theorem xR.set (h : xR G M H) {i : Nat} {c0 c : va_E} (hi : M[i]? = some c0) (he : va_at G.2.1 xcls (G.2.2.2.1 + i, xce G c) H1) (z : H1.size = H.size) (oq : ∀ q : Nat, q ≠ G.2.2.2.1 + i → H1[q]? = H[q]?) : xR G (M.set i c) H1 := by
  have hl := (List.getElem?_eq_some_iff.mp hi).1
  refine ⟨by rw [z, h.1, List.length_set], fun j d hj => ?_, fun q hq => ?_⟩
  · by_cases hji : j = i
    · subst hji
      rw [List.getElem?_set_self hl] at hj
      cases hj
      exact he
    · rw [List.getElem?_set_ne (Ne.symm hji)] at hj
      exact (h.2.1 j d hj).kept (oq _ (fun e => hji (by omega)))
  · rw [oq q (by omega)]
    exact h.2.2 q hq
theorem xR.push (h : xR G M H) {c : va_E} (he : va_at G.2.1 xcls (G.2.2.2.1 + M.length, xce G c) H1) (z : H1.size = H.size + 1) (o : ∀ q : Nat, q < H.size → H1[q]? = H[q]?) : xR G (M ++ [c]) H1 := by
  refine ⟨by rw [z, h.1, List.length_append]; rfl, fun j d hj => ?_, fun q hq => ?_⟩
  · by_cases hjl : j < M.length
    · rw [List.getElem?_append_left hjl] at hj
      exact (h.2.1 j d hj).kept (o _ (by have := h.lt hj; exact this))
    · rw [List.getElem?_append_right (by omega)] at hj
      have hz : j - M.length < 1 := (List.getElem?_eq_some_iff.mp hj).1
      have e : j = M.length := by omega
      subst e
      rw [Nat.sub_self] at hj
      cases hj
      exact he
  · rw [o q (by rw [h.1]; omega)]
    exact h.2.2 q hq
end XR
theorem xlocs {b : Nat} {locs : List Loc} {x : Loc} (h : ∀ q ∈ locs, b ≤ q.base) (hx : b ≤ x.base) : ∀ q ∈ locs ++ [x], b ≤ q.base := by
  intro q hq
  rcases List.mem_append.mp hq with h1 | h1
  · exact h q h1
  · rw [List.mem_singleton.mp h1]; exact hx
section XM
variable {G : xG} {mt : xM} {R : Room} {Z : xZ} {pc : Nat} {lv : List (Nat × Value)} {st : List Value} {M : xMem} {k n : Nat}
/-- a field is read -/
theorem xi_get {i ci f idx N : Nat} {C : String} {T : u_T} {fs : List Value} {v : Value} (hd : decode mt.2.1 pc = .ok (.getfield idx, 3)) (hM : M[i]? = some (.inr (ci, fs))) (hc : xcls[ci]? = some (C, T, N)) (ho : xok (C, T, N)) (hf : f < N) (hw : Cond.fieldLink mt.1.cls idx (T f).1 (T f).2.1 (T f).2.2.1 ∈ xWall) (hv : fs[f]? = some v)
    (K : xW G mt R Z (pc + 3) lv (v :: st) M k n) : xW G mt R Z pc lv (.ref i :: st) M k n := by
  intro p e s m args below meth c H locs ls F hR hL hl
  exact va_get (D := G.2.1) (cl := xcls) (tys := xtys G) (ws := [(G.2.2.2.1 + i, xce G (.inr (ci, fs)))]) (C := C) (T := T) (N := N) (ci := ci) (fs := fs.map (xcv G)) (v := xcv G v) F.1 F.2.1 F.2.2.2.2.2.1 ho.1 F.2.2.2.2.1 F.2.2.2.2.2.2.2.2.1 (hR.one hM) 0 rfl hc f hf (F.2.2.2.2.2.1 _ hw) (fun _ h => h) (by rw [List.getElem?_map, hv]; rfl) hd (K p e s m args below meth c H locs ls F hR hL hl)
theorem xfit (G : xG) {ty : FieldType} {v : Value} (hty : ∀ w, v = .float w → False) (hn : narrow ty v = v) (hf : fits ty v = true) : narrow ty (xcv G v) = xcv G v ∧ fits ty (xcv G v) = true := by
  cases v with
  | ref i => exact ⟨by cases ty <;> rfl, by cases ty <;> first | exact hf | rfl⟩
  | float w => exact (hty w rfl).elim
  | _ => exact ⟨hn, hf⟩
/-- a field is written -/
theorem xi_put {i ci f idx N : Nat} {C : String} {T : u_T} {fs : List Value} {v : Value} {ty : FieldType} {M' : xMem} (hd : decode mt.2.1 pc = .ok (.putfield idx, 3)) (hM : M[i]? = some (.inr (ci, fs))) (hc : xcls[ci]? = some (C, T, N)) (ho : xok (C, T, N)) (hf : f < N) (hw : Cond.fieldLink mt.1.cls idx (T f).1 (T f).2.1 (T f).2.2.1 ∈ xWall) (hfin : (T f).2.2.2 = false) (hp : parseFieldDescriptor (T f).2.2.1 = some ty) (hs : ∀ w, v = .float w → False) (hn : narrow ty v = v) (hfit : fits ty v = true) (hlen : f < fs.length) (hM' : M.set i (.inr (ci, fs.set f v)) = M')
    (K : xW G mt R Z (pc + 3) lv st M' k n) : xW G mt R Z pc lv (v :: .ref i :: st) M k n := by
  intro p e s m args below meth c H locs ls F hR hL hl
  obtain ⟨ty0, hty⟩ := ho.2.1
  have hts := F.2.2.2.2.2.1
  have hKa := F.2.2.2.2.2.2.2.2.1
  have hap := va_apart (own := mt.1.cls) hts ho.1 ty0 hty ho.2.2 hKa hc
  obtain ⟨r, h1, cell, q1, q2, q3, q4⟩ := (hR.one hM) 0 _ rfl
  have hr : r = (C, T, N) := Option.some.inj (h1.symm.trans hc)
  subst hr
  obtain ⟨hS, hfc, kC, hkC, hkind⟩ := hKa.1 ci _ hc
  obtain ⟨cf, kf, fi, fd, hi, hsl⟩ := hS f hf
  have hlay := hts _ (ho.1 _ (u_in_lay hf))
  unfold u_lay at hlay
  rw [if_neg (by show ¬ (T f).2.2.2 = true; rw [hfin]; decide)] at hlay
  have hst := (u_facts hfc hkC (u_lays hts ho.1 hf) hi).1
  have h6 := u_store hfc hkC hkind hlay hi hp (xfit G hs hn hfit).1 (xfit G hs hn hfit).2
  refine W.putK (a := G.2.2.2.1 + i) (v := xcv G v) F.1 F.2.1 (f := fd) ⟨F.2.2.2.2.1, hts _ hw, ⟨_, _, _, hi⟩, hst⟩ (by rw [q2]; exact h6) q1 q3 (by rw [hsl]; exact k2_hasslot (q4 f hf)) rfl rfl hd fun H' e1 e2 e3 => ?_
  rw [hsl] at e1 ⊢
  subst hM'
  refine K p e s m args below meth c H' _ ls F (hR.set (c := .inr (ci, fs.set f v)) hM ⟨_, hc, ?_⟩ e2 e3) (xlocs hL (Nat.le_add_right _ _)) hl
  have hset : (fs.set f v).map (xcv G) = (fs.map (xcv G)).set f (xcv G v) := by rw [List.map_set]
  show t_OB _ _ _ _ _ (vp_V ((fs.set f v).map (xcv G)))
  rw [hset]
  exact t_OB.to (V := updV (vp_V (fs.map (xcv G))) f (xcv G v)) ⟨_, e1, q2, q3, t_set q4 hap hf (xcv G v)⟩ (fun j _ => vp_updV_set (by rw [List.length_map]; exact hlen) (xcv G v) j)
/-- a final field is written, in the constructor -/
theorem xi_putF {i ci f idx N : Nat} {C : String} {T : u_T} {fs : List Value} {v : Value} {ty : FieldType} {M' : xMem} (hd : decode mt.2.1 pc = .ok (.putfield idx, 3)) (hM : M[i]? = some (.inr (ci, fs))) (hc : xcls[ci]? = some (C, T, N)) (ho : xok (C, T, N)) (hf : f < N) (hw : Cond.fieldLink mt.1.cls idx (T f).1 (T f).2.1 (T f).2.2.1 ∈ xWall) (hfin : (T f).2.2.2 = true) (hinit : mt.1.name = "<init>") (hdecl : (T f).1 = mt.1.cls) (hp : parseFieldDescriptor (T f).2.2.1 = some ty) (hs : ∀ w, v = .float w → False) (hn : narrow ty v = v) (hfit : fits ty v = true) (hlen : f < fs.length) (hM' : M.set i (.inr (ci, fs.set f v)) = M')
    (K : xW G mt R Z (pc + 3) lv st M' k n) : xW G mt R Z pc lv (v :: .ref i :: st) M k n := by
  intro p e s m args below meth c H locs ls F hR hL hl
  obtain ⟨ty0, hty⟩ := ho.2.1
  have hts := F.2.2.2.2.2.1
  have hKa := F.2.2.2.2.2.2.2.2.1
  have hown := F.2.2.2.2.1
  have hap := va_apart (own := mt.1.cls) hts ho.1 ty0 hty ho.2.2 hKa hc
  obtain ⟨r, h1, cell, q1, q2, q3, q4⟩ := (hR.one hM) 0 _ rfl
  have hr : r = (C, T, N) := Option.some.inj (h1.symm.trans hc)
  subst hr
  obtain ⟨hS, hfc, kC, hkC, hkind⟩ := hKa.1 ci _ hc
  obtain ⟨cf, kf, fi, fd, hi, hsl⟩ := hS f hf
  have hlay := hts _ (ho.1 _ (u_in_lay hf))
  unfold u_lay at hlay
  rw [if_pos hfin] at hlay
  have hst := (u_facts hfc hkC (u_lays hts ho.1 hf) hi).1
  have hcf : m.cls = cf := by
    obtain ⟨_, _, c', _, _, _, -, -, hf', -, -, -, hown2, -⟩ := Cond.laysFinal_spec hlay
    have e1 : c' = cf := by have := hi.symm.trans hf'; simp at this; exact this.1.symm
    rw [hdecl] at hown2
    rw [← e1]; exact Option.some.inj (hown.symm.trans hown2)
  have h6 := u_fits hfc hkC hkind (Or.inr hlay) hi hp (xfit G hs hn hfit).1 (xfit G hs hn hfit).2
  refine W.putFinK (a := G.2.2.2.1 + i) (v := xcv G v) F.1 F.2.1 hown (hts _ hw) hi hst hcf (F.2.2.2.2.2.2.2.1.trans hinit) (by rw [q2]; exact h6) q1 q3 (by rw [hsl]; exact k2_hasslot (q4 f hf)) rfl rfl hd fun H' e1 e2 e3 => ?_
  rw [hsl] at e1 ⊢
  subst hM'
  refine K p e s m args below meth c H' _ ls F (hR.set (c := .inr (ci, fs.set f v)) hM ⟨_, hc, ?_⟩ e2 e3) (xlocs hL (Nat.le_add_right _ _)) hl
  have hset : (fs.set f v).map (xcv G) = (fs.map (xcv G)).set f (xcv G v) := by rw [List.map_set]
  show t_OB _ _ _ _ _ (vp_V ((fs.set f v).map (xcv G)))
  rw [hset]
  exact t_OB.to (V := updV (vp_V (fs.map (xcv G))) f (xcv G v)) ⟨_, e1, q2, q3, t_set q4 hap hf (xcv G v)⟩ (fun j _ => vp_updV_set (by rw [List.length_map]; exact hlen) (xcv G v) j)
/-- arrays of ints -/
theorem xi_iaload {i N : Nat} {f : Nat → Int32} {j v : Int32} (hd : decode mt.2.1 pc = .ok (.iaload, 1)) (hM : M[i]? = some (.inl (0, N, .inl f))) (hin : vp_in j N) (hv : f j.toNatClampNeg = v)
    (K : xW G mt R Z (pc + 1) lv (.int v :: st) M k n) : xW G mt R Z pc lv (.int j :: .ref i :: st) M k n := by
  subst hv
  intro p e s m args below meth c H locs ls F hR hL hl
  exact va_iald (tys := xtys G) (ws := [(G.2.2.2.1 + i, xce G (.inl (0, N, .inl f)))]) F.1 F.2.1 F.2.2.2.2.2.2.2.2.1 (hR.one hM) 0 0 rfl rfl hin hd (K p e s m args below meth c H locs ls F hR hL hl)
theorem xi_baload {i N : Nat} {f : Nat → Int32} {j v : Int32} (hd : decode mt.2.1 pc = .ok (.baload, 1)) (hM : M[i]? = some (.inl (1, N, .inl f))) (hin : vp_in j N) (hv : f j.toNatClampNeg = v)
    (K : xW G mt R Z (pc + 1) lv (.int v :: st) M k n) : xW G mt R Z pc lv (.int j :: .ref i :: st) M k n := by
  subst hv
  intro p e s m args below meth c H locs ls F hR hL hl
  exact va_bald (tys := xtys G) (ws := [(G.2.2.2.1 + i, xce G (.inl (1, N, .inl f)))]) F.1 F.2.1 F.2.2.2.2.2.2.2.2.1 (hR.one hM) 0 1 rfl rfl hin hd (K p e s m args below meth c H locs ls F hR hL hl)
theorem xi_alen {i t N : Nat} {f : Nat → Int32} {v : Int32} {ty : FieldType} (hd : decode mt.2.1 pc = .ok (.arraylength, 1)) (hM : M[i]? = some (.inl (t, N, .inl f))) (ht : (xtys G)[t]? = some (G.2.2.1 t, ty)) (hv : Int32.ofNat N = v)
    (K : xW G mt R Z (pc + 1) lv (.int v :: st) M k n) : xW G mt R Z pc lv (.ref i :: st) M k n := by
  intro p e s m args below meth c H locs ls F hR hL hl
  exact va_alen (tys := xtys G) (ws := [(G.2.2.2.1 + i, xce G (.inl (t, N, .inl f)))]) F.1 F.2.1 F.2.2.2.2.2.2.2.2.1 (hR.one hM) 0 t rfl ht hv hd (K p e s m args below meth c H locs ls F hR hL hl)
theorem xi_aaload {i t N : Nat} {C : String} {f : Nat → Option Nat} {j : Int32} {v : Value} (hd : decode mt.2.1 pc = .ok (.aaload, 1)) (hM : M[i]? = some (.inl (t, N, .inr (.inr (.inr (.inr f)))))) (ht : (xtys G)[t]? = some (G.2.2.1 t, .object C)) (hin : vp_in j N) (hv : va_rf (f j.toNatClampNeg) = v)
    (K : xW G mt R Z (pc + 1) lv (v :: st) M k n) : xW G mt R Z pc lv (.int j :: .ref i :: st) M k n := by
  subst hv
  intro p e s m args below meth c H locs ls F hR hL hl
  refine va_aldq (tys := xtys G) (ws := [(G.2.2.2.1 + i, xce G (.inl (t, N, .inr (.inr (.inr (.inr f)))))) ]) F.1 F.2.1 F.2.2.2.2.2.2.2.2.1 (hR.one hM) 0 t rfl ht hin hd ?_
  have hk := K p e s m args below meth c H locs ls F hR hL hl
  have e : xcs G (va_rf (f j.toNatClampNeg) :: st) = va_rf ((f j.toNatClampNeg).map (fun q => G.2.2.2.1 + q)) :: xcs G st := by
    cases f j.toNatClampNeg <;> rfl
  rw [e] at hk
  exact hk
theorem xi_iastore {i N : Nat} {f : Nat → Int32} {j x : Int32} {M' : xMem} (hd : decode mt.2.1 pc = .ok (.iastore, 1)) (hM : M[i]? = some (.inl (0, N, .inl f))) (hin : vp_in j N) (hM' : M.set i (.inl (0, N, .inl (upd f j.toNatClampNeg x))) = M')
    (K : xW G mt R Z (pc + 1) lv st M' k n) : xW G mt R Z pc lv (.int x :: .int j :: .ref i :: st) M k n := by
  intro p e s m args below meth c H locs ls F hR hL hl
  have hKa := F.2.2.2.2.2.2.2.2.1
  subst hM'
  refine W.iast (a := G.2.2.2.1 + i) F.1 F.2.1 (hR.2.1 i _ hM) ((hKa.2 0 _ rfl).1 N (fun j => .int (f j))) (fun q => by cases q) (by show ¬ (j < 0 ∨ (arrV _ _ _).slots.size ≤ _); rw [arrV_size]; exact hin) rfl rfl hd fun H1 e1 z oq => ?_
  refine K p e s m args below meth c H1 _ ls F (hR.set (c := .inl (0, N, .inl (upd f j.toNatClampNeg x))) hM ?_ z oq) (xlocs hL (Nat.le_add_right _ _)) hl
  show H1[G.2.2.2.1 + i]? = some (vp_cell _ _)
  rw [e1]
  show some ((arrV _ _ _).setSlot _ _) = _
  rw [vp_cell_i, arrV_store]
  congr 2
  funext q
  by_cases hq : q = j.toNatClampNeg
  · subst hq
    simp [updV, upd]
  · simp [updV, upd, hq]
theorem xi_bastore {i N : Nat} {f : Nat → Int32} {j x : Int32} {M' : xMem} (hd : decode mt.2.1 pc = .ok (.bastore, 1)) (hM : M[i]? = some (.inl (1, N, .inl f))) (hin : vp_in j N) (hM' : M.set i (.inl (1, N, .inl (upd f j.toNatClampNeg x.toInt8.toInt32))) = M')
    (K : xW G mt R Z (pc + 1) lv st M' k n) : xW G mt R Z pc lv (.int x :: .int j :: .ref i :: st) M k n := by
  intro p e s m args below meth c H locs ls F hR hL hl
  have hKa := F.2.2.2.2.2.2.2.2.1
  subst hM'
  refine W.bast (a := G.2.2.2.1 + i) F.1 F.2.1 (hR.2.1 i _ hM) ((hKa.2 1 _ rfl).1 N (fun j => .int (f j))) (fun q => by cases q) (by show ¬ (j < 0 ∨ (arrV _ _ _).slots.size ≤ _); rw [arrV_size]; exact hin) rfl rfl hd fun H1 e1 z oq => ?_
  refine K p e s m args below meth c H1 _ ls F (hR.set (c := .inl (1, N, .inl (upd f j.toNatClampNeg x.toInt8.toInt32))) hM ?_ z oq) (xlocs hL (Nat.le_add_right _ _)) hl
  show H1[G.2.2.2.1 + i]? = some (vp_cell _ _)
  rw [e1]
  show some ((arrV _ _ _).setSlot _ _) = _
  rw [vp_cell_i, arrV_store]
  congr 2
  funext q
  by_cases hq : q = j.toNatClampNeg
  · subst hq
    simp [updV, upd, narrow_byte]
  · simp [updV, upd, hq]
theorem xi_aastore {i t N x ci : Nat} {r : vw_C} {vs : List Value} {f : Nat → Option Nat} {j : Int32} {M' : xMem} (hd : decode mt.2.1 pc = .ok (.aastore, 1)) (hM : M[i]? = some (.inl (t, N, .inr (.inr (.inr (.inr f)))))) (ht : (xtys G)[t]? = some (G.2.2.1 t, .object r.1)) (hv : M[x]? = some (.inr (ci, vs))) (hc : xcls[ci]? = some r) (hin : vp_in j N) (hM' : M.set i (.inl (t, N, .inr (.inr (.inr (.inr (va_up f j.toNatClampNeg (some x))))))) = M')
    (K : xW G mt R Z (pc + 1) lv st M' k n) : xW G mt R Z pc lv (.ref x :: .int j :: .ref i :: st) M k n := by
  intro p e s m args below meth c H locs ls F hR hL hl
  have hKa := F.2.2.2.2.2.2.2.2.1
  subst hM'
  have hlt : j.toNatClampNeg < N := Nat.not_le.mp fun q => hin (Or.inr q)
  have h0 : ¬ j < 0 := fun q => hin (Or.inl q)
  obtain ⟨r', hr', cellV, g1, g2, g3, -⟩ := hR.2.1 x _ hv
  have hcls := (hKa.1 ci r hc).2
  obtain ⟨kA, comp, k1, k2, k3, -⟩ := (hKa.2 t _ ht).2
  have hcomp : comp = G.2.1.1 ci := Option.some.inj (k3.symm.trans hcls.1)
  subst hcomp
  obtain ⟨kC, hkC, -⟩ := hcls.2
  refine W.aast (a := G.2.2.2.1 + i) (v := G.2.2.2.1 + x) F.1 F.2.1 (hR.2.1 i _ hM) (fun q h => by cases h) (fun h => by cases h) k1 k2 rfl hkC ⟨h0, by show _ < (arrV _ _ _).slots.size; rw [arrV_size]; exact hlt⟩ g1 (fun q h => by rw [g3] at h; cases h) (by rw [g2]; exact hkC) (by rw [g2]; exact va_assign hcls) rfl rfl hd fun H1 e1 z oq => ?_
  refine K p e s m args below meth c H1 _ ls F (hR.set (c := .inl (t, N, .inr (.inr (.inr (.inr (va_up f j.toNatClampNeg (some x))))))) hM ?_ z oq) (xlocs hL (Nat.le_add_right _ _)) hl
  show H1[G.2.2.2.1 + i]? = some (vp_cell _ _)
  rw [e1]
  show some ((arrV _ _ _).setSlot _ _) = _
  rw [vp_cell_q, arrV_store]
  congr 2
  funext q
  by_cases hq : q = j.toNatClampNeg
  · subst hq
    simp [updV, va_up, va_rf]
  · simp [updV, va_up, hq]
end XM
