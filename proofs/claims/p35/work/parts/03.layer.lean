/-! A second layer over the kit's rows: a memory that is a list of cells (place i stands at the address base + i), one judgement xW for a method's body, one contract xC for a call. -/
/-- the classes of which objects are made; their numbers -/
def xcls : List vw_C := [(RX0, TX0, 4), (RX1, TX1, 2), (RX2, TX2, 5), (RX3, TX3, 2), (RX4, TX4, 4), (RX5, TX5, 5), (RX7, TX7, 8), (RX9, TX9, 5), (RX11, TX11, 10), (RX12, TX12, 26)]
/-- launch, (classes, slots), classes of arrays, base, the heap at the start, addresses of what lies there (strings, from 100 on their bytes, 200: the script), the script's length and ints -/
abbrev xG : Type := Launch × va_G × (Nat → ClassId) × Nat × Heap × (Nat → Nat) × Nat × (Nat → Int32)
/-- a method: name, bytes, locals, type of the answer -/
abbrev xM : Type := MethodName × ByteArray × Nat × Option FieldType
abbrev xMem : Type := List va_E
def xWall : List Cond := lw_tbl.filter goodWord
theorem xw {w : Cond} (i : Nat) (h : lw_tbl[i]? = some w) (g : goodWord w = true) : w ∈ xWall := List.mem_filter.mpr ⟨List.mem_of_getElem? h, g⟩
theorem xWall_good {w : Cond} (h : w ∈ xWall) : goodWord w = true := (List.mem_filter.mp h).2
def xcv (G : xG) : Value → Value
  | .ref i => .ref (G.2.2.2.1 + i)
  | .float w => .ref (G.2.2.2.2.2.1 w.toNat)
  | v => v
theorem xcv_cat (G : xG) (v : Value) : (xcv G v).category = v.category := by cases v <;> rfl
def xcs (G : xG) (st : List Value) : List Value := st.map (xcv G)
def xcl (G : xG) (lv : List (Nat × Value)) : List (Nat × Value) := lv.map (fun q => (q.1, xcv G q.2))
def xce (G : xG) : va_E → va_E
  | .inl (t, n, .inr (.inr (.inr (.inr f)))) => .inl (G.2.2.1 t, n, .inr (.inr (.inr (.inr (fun j => (f j).map (fun i => G.2.2.2.1 + i))))))
  | .inl (t, n, .inl f) => .inl (G.2.2.1 t, n, .inl f)
  | .inl (t, n, x) => .inl (G.2.2.1 t, n, x)
  | .inr (ci, fs) => .inr (ci, fs.map (xcv G))
/-- the kinds of arrays -/
def xtys (G : xG) : List (ClassId × FieldType) := [(G.2.2.1 0, .int), (G.2.2.1 1, .byte), (G.2.2.1 2, .object RX5), (G.2.2.1 3, .object RX3), (G.2.2.1 4, .object RX2)]
def xR (G : xG) (M : xMem) (H : Heap) : Prop := H.size = G.2.2.2.1 + M.length ∧ (∀ (i : Nat) (c : va_E), M[i]? = some c → va_at G.2.1 xcls (G.2.2.2.1 + i, xce G c) H) ∧ ∀ q : Nat, q < G.2.2.2.1 → H[q]? = G.2.2.2.2.1[q]?
/-- words that hold at every state, but aren't kept as the others are: nest mates, arrays of objects -/
def xnest : List Cond := lw_tbl.filter (fun w => match w with | .methodLinkNest .. => true | _ => false)
def xaos : List String := [RX5, RX3, RX2]
/-- the strings: class, entry, text, number, bytes -/
def xstr : List (String × Nat × String × Nat × List Int32) := [(RX7, 45, "net", 0, [110, 101, 116]), (RX7, 96, "row", 1, [114, 111, 119]), (RX11, 311, "net ", 2, [110, 101, 116, 32]), (RX11, 326, "row ", 3, [114, 111, 119, 32]), (RX12, 173, "net", 4, [110, 101, 116]), (RX12, 182, "row", 5, [114, 111, 119]), (RX12, 335, "net ", 6, [110, 101, 116, 32]), (RX12, 341, ",", 7, [44]), (RX12, 343, ":", 8, [58]), (RX12, 345, "-", 9, [45]), (RX12, 347, "=", 10, [61]), (RX12, 349, ";row ", 11, [59, 114, 111, 119, 32]), (RX12, 351, ";", 12, [59]), (RX12, 356, "", 13, []), (RX12, 358, " ", 14, [32])]
def xold (G : xG) : Nat → Prop := fun q => G.2.2.2.1 ≤ q
def xS (G : xG) (s : State) : Prop := (∀ q ∈ xstr, vk_R q.1 q.2.1 q.2.2.1 (G.2.2.2.2.2.1 q.2.2.2.1) s ∧ va_O "java/lang/String" (G.2.2.2.2.2.1 q.2.2.2.1) (xold G) s G.2.2.2.2.1 ∧ va_OF "java/lang/String" "coder" "B" (.int 0) (G.2.2.2.2.2.1 q.2.2.2.1) (xold G) s G.2.2.2.2.1 ∧ va_OF "java/lang/String" "value" "[B" (.ref (G.2.2.2.2.2.1 (100 + q.2.2.2.1))) (G.2.2.2.2.2.1 q.2.2.2.1) (xold G) s G.2.2.2.2.1 ∧ va_T .byte (G.2.2.2.2.2.1 (100 + q.2.2.2.1)) q.2.2.2.2.length (fun j => .int (q.2.2.2.2.getD j 0)) (xold G) s G.2.2.2.2.1) ∧ (va_Z "java/lang/String" "COMPACT_STRINGS" "Z" (.int 1) (xold G) s G.2.2.2.2.1 ∧ (va_Z "jdk/internal/util/Preconditions" "SIOOBE_FORMATTER" "Ljava/util/function/BiFunction;" .null (xold G) s G.2.2.2.2.1 ∨ va_Z "jdk/internal/util/Preconditions" "SIOOBE_FORMATTER" "Ljava/util/function/BiFunction;" (.ref (G.2.2.2.2.2.1 201)) (xold G) s G.2.2.2.2.1)) ∧ va_X (G.2.2.2.2.2.1 200) G.2.2.2.2.2.2.1 G.2.2.2.2.2.2.2 s G.2.2.2.2.1 ∧ G.2.2.2.2.2.1 200 < G.2.2.2.1
def xK (G : xG) (s : State) : Prop := va_K G.2.1 xcls (xtys G) s ∧ (∀ w ∈ xnest, va_Nw w s) ∧ (∀ C ∈ xaos, va_AO C s) ∧ xS G s
theorem xS.same {G : xG} {u U : State} (hv : u.vm = U.vm) (h : xS G u) : xS G U := by
  have ha : u.vm.Alike U.vm := by rw [hv]; exact Vm.Alike.refl U.vm
  exact ⟨fun q hq => ⟨vk_R.same hv.symm (h.1 q hq).1, va_O.moved ha (h.1 q hq).2.1, va_OF.moved ha (h.1 q hq).2.2.1, va_OF.moved ha (h.1 q hq).2.2.2.1, va_T.moved ha (h.1 q hq).2.2.2.2⟩, ⟨va_Z.moved ha h.2.1.1, h.2.1.2.imp (va_Z.moved ha) (va_Z.moved ha)⟩, va_X.moved ha h.2.2.1, h.2.2.2⟩
theorem xS.warm {G : xG} {s U : State} (hW : s.WarmedH U.vm) (h : xS G s) : xS G U :=
  ⟨fun q hq => ⟨vk_R.warm hW (h.1 q hq).1, va_O.moved hW.alike (h.1 q hq).2.1, va_OF.moved hW.alike (h.1 q hq).2.2.1, va_OF.moved hW.alike (h.1 q hq).2.2.2.1, va_T.moved hW.alike (h.1 q hq).2.2.2.2⟩, ⟨va_Z.moved hW.alike h.2.1.1, h.2.1.2.imp (va_Z.moved hW.alike) (va_Z.moved hW.alike)⟩, va_X.moved hW.alike h.2.2.1, h.2.2.2⟩
theorem xK.same {G : xG} {u U : State} (hv : u.vm = U.vm) (h : xK G u) : xK G U := by
  have ha : u.vm.Alike U.vm := by rw [hv]; exact Vm.Alike.refl U.vm
  refine ⟨va_K.moved ha h.1, fun w hw => ?_, fun C hC => va_AO.moved ha (h.2.2.1 C hC), h.2.2.2.same hv⟩
  have h1 : w.onTables = true := by
    have := (List.mem_filter.mp hw).2
    cases w <;> first | rfl | cases this
  exact va_Nw.same h1 hv (h.2.1 w hw)
theorem xK.warm {G : xG} {s U : State} (hW : s.WarmedH U.vm) (h : xK G s) : xK G U := by
  refine ⟨va_K.moved hW.alike h.1, fun w hw => ?_, fun C hC => va_AO.moved hW.alike (h.2.2.1 C hC), h.2.2.2.warm hW⟩
  have h2 := h.2.1 w hw
  have := (List.mem_filter.mp hw).2
  cases w <;> first | (cases this; done) | exact va_Nw.warmM hW h2
/-- what a body's frame stands on -/
def xF (G : xG) (mt : xM) (p : Program) (s : State) (m : MethodId) (args : Array Value) (meth : Method) (c : Code) : Prop :=
  p.tables.exec = Jvm.exec ∧ c.code = mt.2.1 ∧ c.maxLocals = mt.2.2.1 ∧ meth.sig.returnType = mt.2.2.2 ∧ s.vm.findClass mt.1.cls = some m.cls ∧ (∀ w ∈ xWall, w.before args s = true) ∧ meth.locks = false ∧ meth.name = mt.1.name ∧ xK G s
abbrev xZ : Type := List Frame → Array Value → State → State → Prop
/-- the body of mt, at pc with locals lv, stack st, memory M; k cells, n slots are made so far: it comes to Z -/
def xW (G : xG) (mt : xM) (R : Room) (Z : xZ) (pc : Nat) (lv : List (Nat × Value)) (st : List Value) (M : xMem) (k n : Nat) : Prop :=
  ∀ (p : Program) (e : Env) (s : State) (m : MethodId) (args : Array Value) (below : List Frame) (meth : Method) (c : Code) (H : Heap) (locs : List Loc) (ls : Array Slot),
    xF G mt p s m args meth c → xR G M H → (∀ q ∈ locs, G.2.2.2.1 ≤ q.base) → lv_has ls mt.2.2.1 (xcl G lv) → W p G.1 e R s m args below meth c H locs k n (Z below args s) (F0 m pc ls (xcs G st))
def xrm (d mc ms : Nat) : Room := { frames := d + 1, cells := mc, slots := ms, locals := 64 * (d + 1) }
def xQc (G : xG) (Q : Option Value → xMem → Prop) : Array Value → State → Outcome → State → Prop := fun _ _ o t => ∃ (v : Option Value) (M' : xMem), o = .returned (v.map (xcv G)) ∧ Q v M' ∧ xR G M' t.heap
def xQ (G : xG) (Q : Option Value → xMem → Prop) (mc ms : Nat) : xZ := fun below args s => MQ below (xQc G Q) args s mc ms (fun q => G.2.2.2.1 ≤ q)
def xPc (G : xG) (as : List Value) (M : xMem) : Array Value → State → Prop := fun a U => a = (xcs G as).toArray ∧ xR G M U.heap ∧ xK G U
/-- the contract: called with as in M, the method answers as Q says; d frames deep, mc cells of ms slots -/
def xC (G : xG) (mt : xM) (d mc ms : Nat) (as : List Value) (M : xMem) (Q : Option Value → xMem → Prop) : Prop :=
  Met G.1 mt.1 (.code mt.1 mt.2.1 mt.2.2.1 mt.2.2.2 :: xWall) (xrm d mc ms) (xPc G as M) (xQc G Q) mc ms (fun q => G.2.2.2.1 ≤ q)
theorem xcl_args (G : xG) (as : List Value) : ∀ i : Nat, lv_args i (xcs G as) = xcl G (lv_args i as) := by
  induction as with
  | nil => intro i; rfl
  | cons v vs ih =>
    intro i
    show (i, xcv G v) :: lv_args (if (xcv G v).category = 2 then i + 2 else i + 1) (xcs G vs) = (i, xcv G v) :: xcl G (lv_args (if v.category = 2 then i + 2 else i + 1) vs)
    rw [xcv_cat, ih]
theorem xsl_len (G : xG) (as : List Value) : (lg_sl (xcs G as)).length = (lg_sl as).length := by
  induction as with
  | nil => rfl
  | cons v vs ih =>
    have e1 : lg_sl (xcs G (v :: vs)) = (if (xcv G v).category = 2 then [.val (xcv G v), .second] else [.val (xcv G v)]) ++ lg_sl (xcs G vs) := rfl
    have e2 : lg_sl (v :: vs) = (if v.category = 2 then [.val v, .second] else [.val v]) ++ lg_sl vs := rfl
    rw [e1, e2, List.length_append, List.length_append, ih, xcv_cat]
    by_cases h : v.category = 2
    · rw [if_pos h, if_pos h]; rfl
    · rw [if_neg h, if_neg h]; rfl
/-- a contract out of its body -/
theorem xC.of {G : xG} {mt : xM} {d mc ms : Nat} {as : List Value} {M : xMem} {Q : Option Value → xMem → Prop} (hp : plainName mt.1.cls = true) (hl : (lg_sl as).length ≤ mt.2.2.1)
    (K : xW G mt (xrm d mc ms) (xQ G Q mc ms) 0 (lv_args 0 as) [] M 0 0) : xC G mt d mc ms as M Q := by
  refine Met.ofW (cc := mt.2.1) (maxL := mt.2.2.1) (ret := mt.2.2.2) hp rfl ?_
  intro p e s m args below meth c s₁ B hml hv
  obtain ⟨rfl, hR, hK⟩ := hv
  have hts := atoms_spec (ws := .code mt.1 mt.2.1 mt.2.2.1 mt.2.2.2 :: xWall) B.pre
  have hown : s.vm.findClass mt.1.cls = some m.cls := findClass_of_methodNamed B.named
  have hn : meth.name = mt.1.name := (name_of_methodNamed B.named B.method).1
  have hle := lv_entry (xcs G as) (n := mt.2.2.1) (by rw [xsl_len]; exact hl)
  rw [xcl_args] at hle
  rw [lg_entry_eq]
  exact K p e s m _ below meth c s.heap [] _ ⟨B.exec, B.bytes, hml, B.returns, hown, fun w hw => hts w (List.mem_cons_of_mem _ hw), B.notSynchronized, hn, hK⟩ hR (fun q hq => by cases hq) hle
