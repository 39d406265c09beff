/-! THE CLAIM OUT OF ONE WALK OF THE LAW'S BODY. Your part is whole_start (and what it stands on); all else here is the same for every law, but numbers. -/
def R_law : String := "ThinRowLaw"
def lw_P (b : Addr) (xs : List Int32) (args : Array Value) (s : State) : Prop := args = #[.ref b] ∧ s.IntsAt b xs ∧ xs.length ≤ 6 ∧ (Jvm.Cond.and given_1 narrow_1).before args s = true
def lw_Q (_ : Array Value) (s : State) (o : Outcome) (t : State) : Prop := o = .returned (some (.int 1)) ∧ Framed s o t [] 600000 7302250
def lw_Z (below : List Frame) (a : Array Value) (s : State) : State → Prop := fun t => ∃ o, t.status = .running ∧ Ended t below o ∧ lw_Q a s o t
/-- the law's own end, with 1 on the stack, nothing written that was there before, its room as the claim has it -/
theorem lw_ret {p : Program} {l : Launch} {e : Env} {s : State} {m : MethodId} {below : List Frame} {meth : Method} {c : Code} {b : Nat} (hx : p.tables.exec = Jvm.exec) (hb : c.code = code) (hr : meth.sig.returnType = ret) (hlocks : meth.locks = false) {pc : Nat} {H : Heap} {ls : Array Slot} (hdg : decode code pc = .ok (.ireturn, 1)) : W p l e room_1 s m #[Value.ref b] below meth c H [] 600000 7302250 (lw_Z below #[Value.ref b] s) (F0 m pc ls [.int 1]) := by
  intro T hT X
  obtain ⟨fs, hret, hrun, hended, hW, hframe⟩ := X.leave (v := some (.int 1)) (hlocks := hlocks) (fun h => by rw [hr] at h; cases h)
  have hmeth' : T.vm.method? m = some meth := X.method'
  refine ⟨T.setFrames fs, ?_, .returned (some (.int 1)), hrun, hended, rfl, ⟨_, rfl⟩, hW, hframe⟩
  jvm_step X.here [X.here.top, hx, hb, hdg, hmeth', hr, ret, narrow_b1]
  (try refine ⟨rfl, ?_⟩); (try refine ⟨rfl, ?_⟩)
  first | (intro acts; rw [hret _ acts rfl rfl rfl]) | rw [hret _ _ rfl rfl rfl]
  exact Steps.refl _
/-- what holds at the law's entry: the machine, the code, the tables' words (any of lw_tbl by 'hts w (by decide +kernel)'), the script of L ints xs at the cell b, what the Statement gives of the start (any of its parts by flat_of_before) -/
def lw_At (p : Program) (s : State) (m : MethodId) (meth : Method) (c : Code) (b L : Nat) (xs : Nat → Int32) : Prop :=
  p.tables.exec = Jvm.exec ∧ c.code = code ∧ meth.sig.returnType = ret ∧ c.maxLocals = 4 ∧ s.vm.findClass R_law = some m.cls ∧ (∀ w ∈ lw_tbl, w.before #[Value.ref b] s = true) ∧ va_X b L xs s s.heap ∧ b < s.heap.size ∧ meth.locks = false ∧ (Jvm.Cond.and given_1 narrow_1).before #[Value.ref b] s = true
abbrev mL (nm : String) : xM := (⟨RL, nm, "([I)Z"⟩, code, 4, ret)
/-- the law's end: as lw_Z says, if the heap that it began with ends at the base -/
def xLZ (G : xG) : xZ := fun below args s t => s.heap.size = G.2.2.2.1 → lw_Z below args s t
theorem xi_lret {nm : String} {G : xG} {pc : Nat} {lv : List (Nat × Value)} {M : xMem} {k n : Nat} (hdg : decode code pc = .ok (.ireturn, 1)) (hk : k ≤ 600000) (hn : n ≤ 7302250) : xW G (mL nm) room_1 (xLZ G) pc lv [.int 1] M k n := by
  intro p e s m args below meth c H locs ls F hR hL hl
  by_cases hs : s.heap.size = G.2.2.2.1
  · refine va_forget (fun q hq => by rw [hs]; exact hL q hq) ?_
    refine W.widen hk hn ?_
    have hx := F.1
    have hb : c.code = code := F.2.1
    have hr : meth.sig.returnType = ret := F.2.2.2.1
    intro T hT X
    obtain ⟨fs, hret, hrun, hended, hW, hframe⟩ := X.leave (v := some (.int 1)) (hlocks := F.2.2.2.2.2.2.1) (fun h => by rw [hr] at h; cases h)
    have hmeth' : T.vm.method? m = some meth := X.method'
    refine ⟨T.setFrames fs, ?_, fun _ => ⟨.returned (some (.int 1)), hrun, hended, rfl, ⟨_, rfl⟩, hW, hframe⟩⟩
    show Steps p.tables e below (T.setTop (F0 m pc ls [.int 1])) _
    jvm_step X.here [X.here.top, hx, hb, hdg, hmeth', hr, ret, narrow_b1]
    (try refine ⟨rfl, ?_⟩); (try refine ⟨rfl, ?_⟩)
    first | (intro acts; rw [hret _ acts rfl rfl rfl]) | rw [hret _ _ rfl rfl rfl]
    exact Steps.refl _
  · intro T hT X
    exact ⟨_, Steps.refl _, fun h => absurd h hs⟩
theorem sl2 (x : Int32) : x = 0 ∨ (x < 0 ∨ 0 < x) := by
  by_cases h : x < 0
  · exact Or.inr (Or.inl h)
  · by_cases h2 : 0 < x
    · exact Or.inr (Or.inr h2)
    · exact Or.inl (Int32.le_antisymm (Int32.not_lt.mp h2) (Int32.not_lt.mp h))
set_option maxHeartbeats 4000000 in
set_option maxRecDepth 100000 in
theorem law_tail {nm : String} (G : xG) (hL : G.2.2.2.2.2.2.1 = 6) (M : xMem) (k n : Nat) (hk : k ≤ 600000) (hn : n ≤ 7302250) : xW G (mL nm) room_1 (xLZ G) 1719 [(3, .int 0), (2, .ref 149), (1, .ref 0), (0, .float 200)] [] M k n := by
  refine xi_iinc (v := 6) (lv' := [(3, .int 6), (2, .ref 149), (1, .ref 0), (0, .float 200)]) 0 dL_law_1719 rfl (by decide) (Nat.le_of_ble_eq_true rfl) rfl ?_
  refine xi_goto (tgt := 18) dL_law_1722 (by decide) ?_
  refine xi_iload_n 0 dL_law_18 rfl ?_
  refine xi_aload_nS 3 dL_law_19 rfl ?_
  refine xi_slen (v := 6) dL_law_20 (by rw [hL]; decide) ?_
  refine xi_bipush (v := 6) dL_law_21 (by decide) ?_
  refine xi_isub (v := 0) dL_law_23 (by decide) ?_
  refine xi_icmp_gt_t (tgt := 1725) dL_law_24 (by decide) (by decide) ?_
  refine xi_iconst (v := 1) dL_law_1725 (by decide) ?_
  exact xi_lret dL_law_1726 hk hn
set_option maxHeartbeats 4000000 in
set_option maxRecDepth 100000 in
theorem law_short_0 {nm : String} (G : xG) (hL : G.2.2.2.2.2.2.1 = 0) : xW G (mL nm) room_1 (xLZ G) 18 [(3, .int 0), (2, .ref 149), (1, .ref 0), (0, .float 200)] [] M0 163 36018 := by
  refine xi_iload_n 0 dL_law_18 rfl ?_
  refine xi_aload_nS 3 dL_law_19 rfl ?_
  refine xi_slen (v := 0) dL_law_20 (by rw [hL]; decide) ?_
  refine xi_bipush (v := 6) dL_law_21 (by decide) ?_
  refine xi_isub (v := (-6)) dL_law_23 (by decide) ?_
  refine xi_icmp_gt_t (tgt := 1725) dL_law_24 (by decide) (by decide) ?_
  refine xi_iconst (v := 1) dL_law_1725 (by decide) ?_
  exact xi_lret dL_law_1726 (Nat.le_of_ble_eq_true rfl) (Nat.le_of_ble_eq_true rfl)
set_option maxHeartbeats 4000000 in
set_option maxRecDepth 100000 in
theorem law_short_1 {nm : String} (G : xG) (hL : G.2.2.2.2.2.2.1 = 1) : xW G (mL nm) room_1 (xLZ G) 18 [(3, .int 0), (2, .ref 149), (1, .ref 0), (0, .float 200)] [] M0 163 36018 := by
  refine xi_iload_n 0 dL_law_18 rfl ?_
  refine xi_aload_nS 3 dL_law_19 rfl ?_
  refine xi_slen (v := 1) dL_law_20 (by rw [hL]; decide) ?_
  refine xi_bipush (v := 6) dL_law_21 (by decide) ?_
  refine xi_isub (v := (-5)) dL_law_23 (by decide) ?_
  refine xi_icmp_gt_t (tgt := 1725) dL_law_24 (by decide) (by decide) ?_
  refine xi_iconst (v := 1) dL_law_1725 (by decide) ?_
  exact xi_lret dL_law_1726 (Nat.le_of_ble_eq_true rfl) (Nat.le_of_ble_eq_true rfl)
set_option maxHeartbeats 4000000 in
set_option maxRecDepth 100000 in
theorem law_short_2 {nm : String} (G : xG) (hL : G.2.2.2.2.2.2.1 = 2) : xW G (mL nm) room_1 (xLZ G) 18 [(3, .int 0), (2, .ref 149), (1, .ref 0), (0, .float 200)] [] M0 163 36018 := by
  refine xi_iload_n 0 dL_law_18 rfl ?_
  refine xi_aload_nS 3 dL_law_19 rfl ?_
  refine xi_slen (v := 2) dL_law_20 (by rw [hL]; decide) ?_
  refine xi_bipush (v := 6) dL_law_21 (by decide) ?_
  refine xi_isub (v := (-4)) dL_law_23 (by decide) ?_
  refine xi_icmp_gt_t (tgt := 1725) dL_law_24 (by decide) (by decide) ?_
  refine xi_iconst (v := 1) dL_law_1725 (by decide) ?_
  exact xi_lret dL_law_1726 (Nat.le_of_ble_eq_true rfl) (Nat.le_of_ble_eq_true rfl)
set_option maxHeartbeats 4000000 in
set_option maxRecDepth 100000 in
theorem law_short_3 {nm : String} (G : xG) (hL : G.2.2.2.2.2.2.1 = 3) : xW G (mL nm) room_1 (xLZ G) 18 [(3, .int 0), (2, .ref 149), (1, .ref 0), (0, .float 200)] [] M0 163 36018 := by
  refine xi_iload_n 0 dL_law_18 rfl ?_
  refine xi_aload_nS 3 dL_law_19 rfl ?_
  refine xi_slen (v := 3) dL_law_20 (by rw [hL]; decide) ?_
  refine xi_bipush (v := 6) dL_law_21 (by decide) ?_
  refine xi_isub (v := (-3)) dL_law_23 (by decide) ?_
  refine xi_icmp_gt_t (tgt := 1725) dL_law_24 (by decide) (by decide) ?_
  refine xi_iconst (v := 1) dL_law_1725 (by decide) ?_
  exact xi_lret dL_law_1726 (Nat.le_of_ble_eq_true rfl) (Nat.le_of_ble_eq_true rfl)
set_option maxHeartbeats 4000000 in
set_option maxRecDepth 100000 in
theorem law_short_4 {nm : String} (G : xG) (hL : G.2.2.2.2.2.2.1 = 4) : xW G (mL nm) room_1 (xLZ G) 18 [(3, .int 0), (2, .ref 149), (1, .ref 0), (0, .float 200)] [] M0 163 36018 := by
  refine xi_iload_n 0 dL_law_18 rfl ?_
  refine xi_aload_nS 3 dL_law_19 rfl ?_
  refine xi_slen (v := 4) dL_law_20 (by rw [hL]; decide) ?_
  refine xi_bipush (v := 6) dL_law_21 (by decide) ?_
  refine xi_isub (v := (-2)) dL_law_23 (by decide) ?_
  refine xi_icmp_gt_t (tgt := 1725) dL_law_24 (by decide) (by decide) ?_
  refine xi_iconst (v := 1) dL_law_1725 (by decide) ?_
  exact xi_lret dL_law_1726 (Nat.le_of_ble_eq_true rfl) (Nat.le_of_ble_eq_true rfl)
set_option maxHeartbeats 4000000 in
set_option maxRecDepth 100000 in
theorem law_short_5 {nm : String} (G : xG) (hL : G.2.2.2.2.2.2.1 = 5) : xW G (mL nm) room_1 (xLZ G) 18 [(3, .int 0), (2, .ref 149), (1, .ref 0), (0, .float 200)] [] M0 163 36018 := by
  refine xi_iload_n 0 dL_law_18 rfl ?_
  refine xi_aload_nS 3 dL_law_19 rfl ?_
  refine xi_slen (v := 5) dL_law_20 (by rw [hL]; decide) ?_
  refine xi_bipush (v := 6) dL_law_21 (by decide) ?_
  refine xi_isub (v := (-1)) dL_law_23 (by decide) ?_
  refine xi_icmp_gt_t (tgt := 1725) dL_law_24 (by decide) (by decide) ?_
  refine xi_iconst (v := 1) dL_law_1725 (by decide) ?_
  exact xi_lret dL_law_1726 (Nat.le_of_ble_eq_true rfl) (Nat.le_of_ble_eq_true rfl)
set_option maxHeartbeats 4000000 in
set_option maxRecDepth 100000 in
theorem law_0 {nm : String} (G : xG) (hL : G.2.2.2.2.2.2.1 = 6) (x1 x2 x3 x4 x5 : Int32) (e1 : G.2.2.2.2.2.2.2 1 = x1) (e2 : G.2.2.2.2.2.2.2 2 = x2) (e3 : G.2.2.2.2.2.2.2 3 = x3) (e4 : G.2.2.2.2.2.2.2 4 = x4) (e5 : G.2.2.2.2.2.2.2 5 = x5) : xW G (mL nm) room_1 (xLZ G) 220 [(3, .int 0), (2, .ref 149), (1, .ref 0), (0, .float 200)] [] M0 163 36018 := by
  refine xi_aload_n 2 dL_law_220 rfl ?_
  refine xi_aload_nS 3 dL_law_221 rfl ?_
  refine xi_iload_n 0 dL_law_222 rfl ?_
  refine xi_iconst (v := 1) dL_law_223 (by decide) ?_
  refine xi_iadd (v := 1) dL_law_224 (by decide) ?_
  refine xi_sld (v := x1) dL_law_225 (by rw [hL]; unfold vp_in; decide) e1 ?_
  refine xi_aload_nS 3 dL_law_226 rfl ?_
  refine xi_iload_n 0 dL_law_227 rfl ?_
  refine xi_iconst (v := 2) dL_law_228 (by decide) ?_
  refine xi_iadd (v := 2) dL_law_229 (by decide) ?_
  refine xi_sld (v := x2) dL_law_230 (by rw [hL]; unfold vp_in; decide) e2 ?_
  refine xi_aload_nS 3 dL_law_231 rfl ?_
  refine xi_iload_n 0 dL_law_232 rfl ?_
  refine xi_iconst (v := 3) dL_law_233 (by decide) ?_
  refine xi_iadd (v := 3) dL_law_234 (by decide) ?_
  refine xi_sld (v := x3) dL_law_235 (by rw [hL]; unfold vp_in; decide) e3 ?_
  refine xi_aload_nS 3 dL_law_236 rfl ?_
  refine xi_iload_n 0 dL_law_237 rfl ?_
  refine xi_iconst (v := 4) dL_law_238 (by decide) ?_
  refine xi_iadd (v := 4) dL_law_239 (by decide) ?_
  refine xi_sld (v := x4) dL_law_240 (by rw [hL]; unfold vp_in; decide) e4 ?_
  refine xi_aload_nS 3 dL_law_241 rfl ?_
  refine xi_iload_n 0 dL_law_242 rfl ?_
  refine xi_iconst (v := 5) dL_law_243 (by decide) ?_
  refine xi_iadd (v := 5) dL_law_244 (by decide) ?_
  refine xi_sld (v := x5) dL_law_245 (by rw [hL]; unfold vp_in; decide) e5 ?_
  refine xi_callV (as := [.int x1, .int x2, .int x3, .int x4, .int x5]) (rest := []) dL_law_246 (fx_feed G x1 x2 x3 x4 x5) mkX11_feed w_274 w_275 w_273 rfl rfl rfl rfl rfl (Nat.le_of_ble_eq_true rfl) (Nat.le_of_ble_eq_true rfl) (Nat.le_of_ble_eq_true rfl) (Nat.le_of_ble_eq_true rfl) (Nat.le_of_ble_eq_true rfl) ?_
  intro v M2 hq
  obtain ⟨rfl, f, rfl⟩ := hq
  show xW _ _ _ _ 249 _ [.int 20] (MX 20 f rd0 mo0 (fun _ => 0) (fun _ => 0) (fun _ => 0)) _ _
  refine xi_aload_n 1 dL_law_249 rfl ?_
  refine xi_aload_nS 3 dL_law_250 rfl ?_
  refine xi_iload_n 0 dL_law_251 rfl ?_
  refine xi_iconst (v := 1) dL_law_252 (by decide) ?_
  refine xi_iadd (v := 1) dL_law_253 (by decide) ?_
  refine xi_sld (v := x1) dL_law_254 (by rw [hL]; unfold vp_in; decide) e1 ?_
  refine xi_aload_nS 3 dL_law_255 rfl ?_
  refine xi_iload_n 0 dL_law_256 rfl ?_
  refine xi_iconst (v := 2) dL_law_257 (by decide) ?_
  refine xi_iadd (v := 2) dL_law_258 (by decide) ?_
  refine xi_sld (v := x2) dL_law_259 (by rw [hL]; unfold vp_in; decide) e2 ?_
  refine xi_aload_nS 3 dL_law_260 rfl ?_
  refine xi_iload_n 0 dL_law_261 rfl ?_
  refine xi_iconst (v := 3) dL_law_262 (by decide) ?_
  refine xi_iadd (v := 3) dL_law_263 (by decide) ?_
  refine xi_sld (v := x3) dL_law_264 (by rw [hL]; unfold vp_in; decide) e3 ?_
  refine xi_aload_nS 3 dL_law_265 rfl ?_
  refine xi_iload_n 0 dL_law_266 rfl ?_
  refine xi_iconst (v := 4) dL_law_267 (by decide) ?_
  refine xi_iadd (v := 4) dL_law_268 (by decide) ?_
  refine xi_sld (v := x4) dL_law_269 (by rw [hL]; unfold vp_in; decide) e4 ?_
  refine xi_aload_nS 3 dL_law_270 rfl ?_
  refine xi_iload_n 0 dL_law_271 rfl ?_
  refine xi_iconst (v := 5) dL_law_272 (by decide) ?_
  refine xi_iadd (v := 5) dL_law_273 (by decide) ?_
  refine xi_sld (v := x5) dL_law_274 (by rw [hL]; unfold vp_in; decide) e5 ?_
  refine xi_callV (as := [.int x1, .int x2, .int x3, .int x4, .int x5]) (rest := [.int 20]) dL_law_275 (fm_feed G f x1 x2 x3 x4 x5) mkX12_feed w_1123 w_1124 w_1122 rfl rfl rfl rfl rfl (Nat.le_of_ble_eq_true rfl) (Nat.le_of_ble_eq_true rfl) (Nat.le_of_ble_eq_true rfl) (Nat.le_of_ble_eq_true rfl) (Nat.le_of_ble_eq_true rfl) ?_
  intro v M2 hq
  obtain ⟨rfl, -⟩ := hq
  show xW _ _ _ _ 278 _ [.int 20, .int 20] M2 _ _
  refine xi_icmp_eq_t (tgt := 1719) dL_law_278 (by decide) (by decide) ?_
  exact law_tail G hL _ _ _ (Nat.le_of_ble_eq_true rfl) (Nat.le_of_ble_eq_true rfl)
set_option maxHeartbeats 4000000 in
set_option maxRecDepth 100000 in
theorem law_1 {nm : String} (G : xG) (hL : G.2.2.2.2.2.2.1 = 6) (x1 x2 x3 x4 x5 : Int32) (e1 : G.2.2.2.2.2.2.2 1 = x1) (e2 : G.2.2.2.2.2.2.2 2 = x2) (e3 : G.2.2.2.2.2.2.2 3 = x3) (e4 : G.2.2.2.2.2.2.2 4 = x4) (e5 : G.2.2.2.2.2.2.2 5 = x5) : xW G (mL nm) room_1 (xLZ G) 283 [(3, .int 0), (2, .ref 149), (1, .ref 0), (0, .float 200)] [] M0 163 36018 := by
  rcases sl2 x1 with rfl | h
  · refine xi_aload_n 2 dL_law_283 rfl ?_
    refine xi_aload_nS 3 dL_law_284 rfl ?_
    refine xi_iload_n 0 dL_law_285 rfl ?_
    refine xi_iconst (v := 1) dL_law_286 (by decide) ?_
    refine xi_iadd (v := 1) dL_law_287 (by decide) ?_
    refine xi_sld (v := 0) dL_law_288 (by rw [hL]; unfold vp_in; decide) e1 ?_
    refine xi_callV (as := [.int 0]) (rest := []) dL_law_289 (fx_end_0 G) mkX11_end w_291 w_292 w_290 rfl rfl rfl rfl rfl (Nat.le_of_ble_eq_true rfl) (Nat.le_of_ble_eq_true rfl) (Nat.le_of_ble_eq_true rfl) (Nat.le_of_ble_eq_true rfl) (Nat.le_of_ble_eq_true rfl) ?_
    intro v M2 hq
    obtain ⟨rfl, rfl⟩ := hq
    show xW _ _ _ _ 292 _ [.int 0] (MX 0 (fun _ => 0) rd0 mo0 (fun _ => 0) (fun _ => 0) (fun _ => 0)) _ _
    refine xi_aload_n 1 dL_law_292 rfl ?_
    refine xi_aload_nS 3 dL_law_293 rfl ?_
    refine xi_iload_n 0 dL_law_294 rfl ?_
    refine xi_iconst (v := 1) dL_law_295 (by decide) ?_
    refine xi_iadd (v := 1) dL_law_296 (by decide) ?_
    refine xi_sld (v := 0) dL_law_297 (by rw [hL]; unfold vp_in; decide) e1 ?_
    refine xi_callV (as := [.int 0]) (rest := [.int 0]) dL_law_298 (fm_end_0 G) mkX12_end w_1127 w_1128 w_1126 rfl rfl rfl rfl rfl (Nat.le_of_ble_eq_true rfl) (Nat.le_of_ble_eq_true rfl) (Nat.le_of_ble_eq_true rfl) (Nat.le_of_ble_eq_true rfl) (Nat.le_of_ble_eq_true rfl) ?_
    intro v M2 hq
    obtain ⟨rfl, rfl⟩ := hq
    show xW _ _ _ _ 301 _ [.int 0, .int 0] (MX 0 (fun _ => 0) rd0 mo0 (fun _ => 0) (fun _ => 0) (fun _ => 0)) _ _
    refine xi_icmp_eq_t (tgt := 1719) dL_law_301 (by decide) (by decide) ?_
    exact law_tail G hL _ _ _ (Nat.le_of_ble_eq_true rfl) (Nat.le_of_ble_eq_true rfl)
  · refine xi_aload_n 2 dL_law_283 rfl ?_
    refine xi_aload_nS 3 dL_law_284 rfl ?_
    refine xi_iload_n 0 dL_law_285 rfl ?_
    refine xi_iconst (v := 1) dL_law_286 (by decide) ?_
    refine xi_iadd (v := 1) dL_law_287 (by decide) ?_
    refine xi_sld (v := x1) dL_law_288 (by rw [hL]; unfold vp_in; decide) e1 ?_
    refine xi_callV (as := [.int x1]) (rest := []) dL_law_289 (fx_end_out G x1 h) mkX11_end w_291 w_292 w_290 rfl rfl rfl rfl rfl (Nat.le_of_ble_eq_true rfl) (Nat.le_of_ble_eq_true rfl) (Nat.le_of_ble_eq_true rfl) (Nat.le_of_ble_eq_true rfl) (Nat.le_of_ble_eq_true rfl) ?_
    intro v M2 hq
    obtain ⟨rfl, rfl⟩ := hq
    show xW _ _ _ _ 292 _ [.int (-1)] (MX 0 (fun _ => 0) rd0 mo0 (fun _ => 0) (fun _ => 0) (fun _ => 0)) _ _
    refine xi_aload_n 1 dL_law_292 rfl ?_
    refine xi_aload_nS 3 dL_law_293 rfl ?_
    refine xi_iload_n 0 dL_law_294 rfl ?_
    refine xi_iconst (v := 1) dL_law_295 (by decide) ?_
    refine xi_iadd (v := 1) dL_law_296 (by decide) ?_
    refine xi_sld (v := x1) dL_law_297 (by rw [hL]; unfold vp_in; decide) e1 ?_
    refine xi_callV (as := [.int x1]) (rest := [.int (-1)]) dL_law_298 (fm_end_out G x1 h) mkX12_end w_1127 w_1128 w_1126 rfl rfl rfl rfl rfl (Nat.le_of_ble_eq_true rfl) (Nat.le_of_ble_eq_true rfl) (Nat.le_of_ble_eq_true rfl) (Nat.le_of_ble_eq_true rfl) (Nat.le_of_ble_eq_true rfl) ?_
    intro v M2 hq
    obtain ⟨rfl, rfl⟩ := hq
    show xW _ _ _ _ 301 _ [.int (-1), .int (-1)] (MX 0 (fun _ => 0) rd0 mo0 (fun _ => 0) (fun _ => 0) (fun _ => 0)) _ _
    refine xi_icmp_eq_t (tgt := 1719) dL_law_301 (by decide) (by decide) ?_
    exact law_tail G hL _ _ _ (Nat.le_of_ble_eq_true rfl) (Nat.le_of_ble_eq_true rfl)
set_option maxHeartbeats 4000000 in
set_option maxRecDepth 100000 in
theorem law_2 {nm : String} (G : xG) (hL : G.2.2.2.2.2.2.1 = 6) (x1 x2 x3 x4 x5 : Int32) (e1 : G.2.2.2.2.2.2.2 1 = x1) (e2 : G.2.2.2.2.2.2.2 2 = x2) (e3 : G.2.2.2.2.2.2.2 3 = x3) (e4 : G.2.2.2.2.2.2.2 4 = x4) (e5 : G.2.2.2.2.2.2.2 5 = x5) : xW G (mL nm) room_1 (xLZ G) 306 [(3, .int 0), (2, .ref 149), (1, .ref 0), (0, .float 200)] [] M0 163 36018 := by
  rcases sl4 x1 with rfl | rfl | rfl | h
  · refine xi_aload_n 2 dL_law_306 rfl ?_
    refine xi_aload_nS 3 dL_law_307 rfl ?_
    refine xi_iload_n 0 dL_law_308 rfl ?_
    refine xi_iconst (v := 1) dL_law_309 (by decide) ?_
    refine xi_iadd (v := 1) dL_law_310 (by decide) ?_
    refine xi_sld (v := 0) dL_law_311 (by rw [hL]; unfold vp_in; decide) e1 ?_
    refine xi_callV (as := [.int 0]) (rest := []) dL_law_312 (fx_told_0 G) mkX11_told w_295 w_296 w_294 rfl rfl rfl rfl rfl (Nat.le_of_ble_eq_true rfl) (Nat.le_of_ble_eq_true rfl) (Nat.le_of_ble_eq_true rfl) (Nat.le_of_ble_eq_true rfl) (Nat.le_of_ble_eq_true rfl) ?_
    intro v M2 hq
    obtain ⟨rfl, rfl⟩ := hq
    show xW _ _ _ _ 315 _ [.int (-4)] (MX 0 (fun _ => 0) (.inr (6, [.ref 6, .int 1, .int 0, .ref 1, .int 0, .int 0, .int 0, .int 0])) mo0 (fun _ => 0) (fun _ => 0) (fun _ => 0)) _ _
    refine xi_aload_n 1 dL_law_315 rfl ?_
    refine xi_aload_nS 3 dL_law_316 rfl ?_
    refine xi_iload_n 0 dL_law_317 rfl ?_
    refine xi_iconst (v := 1) dL_law_318 (by decide) ?_
    refine xi_iadd (v := 1) dL_law_319 (by decide) ?_
    refine xi_sld (v := 0) dL_law_320 (by rw [hL]; unfold vp_in; decide) e1 ?_
    refine xi_callV (as := [.int 0]) (rest := [.int (-4)]) dL_law_321 (fm_told_0 G) mkX12_told w_1131 w_1132 w_1130 rfl rfl rfl rfl rfl (Nat.le_of_ble_eq_true rfl) (Nat.le_of_ble_eq_true rfl) (Nat.le_of_ble_eq_true rfl) (Nat.le_of_ble_eq_true rfl) (Nat.le_of_ble_eq_true rfl) ?_
    intro v M2 hq
    obtain ⟨rfl, -⟩ := hq
    show xW _ _ _ _ 324 _ [.int (-4), .int (-4)] M2 _ _
    refine xi_icmp_eq_t (tgt := 1719) dL_law_324 (by decide) (by decide) ?_
    exact law_tail G hL _ _ _ (Nat.le_of_ble_eq_true rfl) (Nat.le_of_ble_eq_true rfl)
  · refine xi_aload_n 2 dL_law_306 rfl ?_
    refine xi_aload_nS 3 dL_law_307 rfl ?_
    refine xi_iload_n 0 dL_law_308 rfl ?_
    refine xi_iconst (v := 1) dL_law_309 (by decide) ?_
    refine xi_iadd (v := 1) dL_law_310 (by decide) ?_
    refine xi_sld (v := 1) dL_law_311 (by rw [hL]; unfold vp_in; decide) e1 ?_
    refine xi_callV (as := [.int 1]) (rest := []) dL_law_312 (fx_told_1 G) mkX11_told w_295 w_296 w_294 rfl rfl rfl rfl rfl (Nat.le_of_ble_eq_true rfl) (Nat.le_of_ble_eq_true rfl) (Nat.le_of_ble_eq_true rfl) (Nat.le_of_ble_eq_true rfl) (Nat.le_of_ble_eq_true rfl) ?_
    intro v M2 hq
    obtain ⟨rfl, rfl⟩ := hq
    show xW _ _ _ _ 315 _ [.int (-4)] (MX 0 (fun _ => 0) (.inr (6, [.ref 6, .int 1, .int 0, .ref 1, .int 0, .int 0, .int 0, .int 0])) mo0 (fun _ => 0) (fun _ => 0) (fun _ => 0)) _ _
    refine xi_aload_n 1 dL_law_315 rfl ?_
    refine xi_aload_nS 3 dL_law_316 rfl ?_
    refine xi_iload_n 0 dL_law_317 rfl ?_
    refine xi_iconst (v := 1) dL_law_318 (by decide) ?_
    refine xi_iadd (v := 1) dL_law_319 (by decide) ?_
    refine xi_sld (v := 1) dL_law_320 (by rw [hL]; unfold vp_in; decide) e1 ?_
    refine xi_callV (as := [.int 1]) (rest := [.int (-4)]) dL_law_321 (fm_told_1 G) mkX12_told w_1131 w_1132 w_1130 rfl rfl rfl rfl rfl (Nat.le_of_ble_eq_true rfl) (Nat.le_of_ble_eq_true rfl) (Nat.le_of_ble_eq_true rfl) (Nat.le_of_ble_eq_true rfl) (Nat.le_of_ble_eq_true rfl) ?_
    intro v M2 hq
    obtain ⟨rfl, -⟩ := hq
    show xW _ _ _ _ 324 _ [.int (-4), .int (-4)] M2 _ _
    refine xi_icmp_eq_t (tgt := 1719) dL_law_324 (by decide) (by decide) ?_
    exact law_tail G hL _ _ _ (Nat.le_of_ble_eq_true rfl) (Nat.le_of_ble_eq_true rfl)
  · refine xi_aload_n 2 dL_law_306 rfl ?_
    refine xi_aload_nS 3 dL_law_307 rfl ?_
    refine xi_iload_n 0 dL_law_308 rfl ?_
    refine xi_iconst (v := 1) dL_law_309 (by decide) ?_
    refine xi_iadd (v := 1) dL_law_310 (by decide) ?_
    refine xi_sld (v := 2) dL_law_311 (by rw [hL]; unfold vp_in; decide) e1 ?_
    refine xi_callV (as := [.int 2]) (rest := []) dL_law_312 (fx_told_2 G) mkX11_told w_295 w_296 w_294 rfl rfl rfl rfl rfl (Nat.le_of_ble_eq_true rfl) (Nat.le_of_ble_eq_true rfl) (Nat.le_of_ble_eq_true rfl) (Nat.le_of_ble_eq_true rfl) (Nat.le_of_ble_eq_true rfl) ?_
    intro v M2 hq
    obtain ⟨rfl, rfl⟩ := hq
    show xW _ _ _ _ 315 _ [.int (-4)] (MX 0 (fun _ => 0) (.inr (6, [.ref 6, .int 1, .int 0, .ref 1, .int 0, .int 0, .int 0, .int 0])) mo0 (fun _ => 0) (fun _ => 0) (fun _ => 0)) _ _
    refine xi_aload_n 1 dL_law_315 rfl ?_
    refine xi_aload_nS 3 dL_law_316 rfl ?_
    refine xi_iload_n 0 dL_law_317 rfl ?_
    refine xi_iconst (v := 1) dL_law_318 (by decide) ?_
    refine xi_iadd (v := 1) dL_law_319 (by decide) ?_
    refine xi_sld (v := 2) dL_law_320 (by rw [hL]; unfold vp_in; decide) e1 ?_
    refine xi_callV (as := [.int 2]) (rest := [.int (-4)]) dL_law_321 (fm_told_2 G) mkX12_told w_1131 w_1132 w_1130 rfl rfl rfl rfl rfl (Nat.le_of_ble_eq_true rfl) (Nat.le_of_ble_eq_true rfl) (Nat.le_of_ble_eq_true rfl) (Nat.le_of_ble_eq_true rfl) (Nat.le_of_ble_eq_true rfl) ?_
    intro v M2 hq
    obtain ⟨rfl, -⟩ := hq
    show xW _ _ _ _ 324 _ [.int (-4), .int (-4)] M2 _ _
    refine xi_icmp_eq_t (tgt := 1719) dL_law_324 (by decide) (by decide) ?_
    exact law_tail G hL _ _ _ (Nat.le_of_ble_eq_true rfl) (Nat.le_of_ble_eq_true rfl)
  · refine xi_aload_n 2 dL_law_306 rfl ?_
    refine xi_aload_nS 3 dL_law_307 rfl ?_
    refine xi_iload_n 0 dL_law_308 rfl ?_
    refine xi_iconst (v := 1) dL_law_309 (by decide) ?_
    refine xi_iadd (v := 1) dL_law_310 (by decide) ?_
    refine xi_sld (v := x1) dL_law_311 (by rw [hL]; unfold vp_in; decide) e1 ?_
    refine xi_callV (as := [.int x1]) (rest := []) dL_law_312 (fx_told_out G x1 h) mkX11_told w_295 w_296 w_294 rfl rfl rfl rfl rfl (Nat.le_of_ble_eq_true rfl) (Nat.le_of_ble_eq_true rfl) (Nat.le_of_ble_eq_true rfl) (Nat.le_of_ble_eq_true rfl) (Nat.le_of_ble_eq_true rfl) ?_
    intro v M2 hq
    obtain ⟨rfl, rfl⟩ := hq
    show xW _ _ _ _ 315 _ [.int (-2)] (MX 0 (fun _ => 0) rd0 mo0 (fun _ => 0) (fun _ => 0) (fun _ => 0)) _ _
    refine xi_aload_n 1 dL_law_315 rfl ?_
    refine xi_aload_nS 3 dL_law_316 rfl ?_
    refine xi_iload_n 0 dL_law_317 rfl ?_
    refine xi_iconst (v := 1) dL_law_318 (by decide) ?_
    refine xi_iadd (v := 1) dL_law_319 (by decide) ?_
    refine xi_sld (v := x1) dL_law_320 (by rw [hL]; unfold vp_in; decide) e1 ?_
    refine xi_callV (as := [.int x1]) (rest := [.int (-2)]) dL_law_321 (fm_told_out G x1 h) mkX12_told w_1131 w_1132 w_1130 rfl rfl rfl rfl rfl (Nat.le_of_ble_eq_true rfl) (Nat.le_of_ble_eq_true rfl) (Nat.le_of_ble_eq_true rfl) (Nat.le_of_ble_eq_true rfl) (Nat.le_of_ble_eq_true rfl) ?_
    intro v M2 hq
    obtain ⟨rfl, rfl⟩ := hq
    show xW _ _ _ _ 324 _ [.int (-2), .int (-2)] (MX 0 (fun _ => 0) rd0 mo0 (fun _ => 0) (fun _ => 0) (fun _ => 0)) _ _
    refine xi_icmp_eq_t (tgt := 1719) dL_law_324 (by decide) (by decide) ?_
    exact law_tail G hL _ _ _ (Nat.le_of_ble_eq_true rfl) (Nat.le_of_ble_eq_true rfl)
set_option maxHeartbeats 4000000 in
set_option maxRecDepth 100000 in
theorem law_3 {nm : String} (G : xG) (hL : G.2.2.2.2.2.2.1 = 6) (x1 x2 x3 x4 x5 : Int32) (e1 : G.2.2.2.2.2.2.2 1 = x1) (e2 : G.2.2.2.2.2.2.2 2 = x2) (e3 : G.2.2.2.2.2.2.2 3 = x3) (e4 : G.2.2.2.2.2.2.2 4 = x4) (e5 : G.2.2.2.2.2.2.2 5 = x5) : xW G (mL nm) room_1 (xLZ G) 329 [(3, .int 0), (2, .ref 149), (1, .ref 0), (0, .float 200)] [] M0 163 36018 := by
  refine xi_aload_n 2 dL_law_329 rfl ?_
  refine xi_aload_nS 3 dL_law_330 rfl ?_
  refine xi_iload_n 0 dL_law_331 rfl ?_
  refine xi_iconst (v := 1) dL_law_332 (by decide) ?_
  refine xi_iadd (v := 1) dL_law_333 (by decide) ?_
  refine xi_sld (v := x1) dL_law_334 (by rw [hL]; unfold vp_in; decide) e1 ?_
  refine xi_callV (as := [.int x1]) (rest := []) dL_law_335 (fx_fault G x1) mkX11_fault w_474 w_475 w_473 rfl rfl rfl rfl rfl (Nat.le_of_ble_eq_true rfl) (Nat.le_of_ble_eq_true rfl) (Nat.le_of_ble_eq_true rfl) (Nat.le_of_ble_eq_true rfl) (Nat.le_of_ble_eq_true rfl) ?_
  intro v M2 hq
  obtain ⟨rfl, rfl⟩ := hq
  show xW _ _ _ _ 338 _ [.int (if x1 = 0 then 0 else (-1))] (MX 0 (fun _ => 0) rd0 mo0 (fun _ => 0) (fun _ => 0) (fun _ => 0)) _ _
  refine xi_aload_n 1 dL_law_338 rfl ?_
  refine xi_aload_nS 3 dL_law_339 rfl ?_
  refine xi_iload_n 0 dL_law_340 rfl ?_
  refine xi_iconst (v := 1) dL_law_341 (by decide) ?_
  refine xi_iadd (v := 1) dL_law_342 (by decide) ?_
  refine xi_sld (v := x1) dL_law_343 (by rw [hL]; unfold vp_in; decide) e1 ?_
  refine xi_callV (as := [.int x1]) (rest := [.int (if x1 = 0 then 0 else (-1))]) dL_law_344 (fm_fault G x1) mkX12_fault w_1214 w_1215 w_1213 rfl rfl rfl rfl rfl (Nat.le_of_ble_eq_true rfl) (Nat.le_of_ble_eq_true rfl) (Nat.le_of_ble_eq_true rfl) (Nat.le_of_ble_eq_true rfl) (Nat.le_of_ble_eq_true rfl) ?_
  intro v M2 hq
  obtain ⟨rfl, rfl⟩ := hq
  show xW _ _ _ _ 347 _ [.int (if x1 = 0 then 0 else (-1)), .int (if x1 = 0 then 0 else (-1))] (MX 0 (fun _ => 0) rd0 mo0 (fun _ => 0) (fun _ => 0) (fun _ => 0)) _ _
  refine xi_icmp_eq_t (tgt := 1719) dL_law_347 (by decide) rfl ?_
  exact law_tail G hL _ _ _ (Nat.le_of_ble_eq_true rfl) (Nat.le_of_ble_eq_true rfl)
set_option maxHeartbeats 4000000 in
set_option maxRecDepth 100000 in
theorem law_4 {nm : String} (G : xG) (hL : G.2.2.2.2.2.2.1 = 6) (x1 x2 x3 x4 x5 : Int32) (e1 : G.2.2.2.2.2.2.2 1 = x1) (e2 : G.2.2.2.2.2.2.2 2 = x2) (e3 : G.2.2.2.2.2.2.2 3 = x3) (e4 : G.2.2.2.2.2.2.2 4 = x4) (e5 : G.2.2.2.2.2.2.2 5 = x5) : xW G (mL nm) room_1 (xLZ G) 352 [(3, .int 0), (2, .ref 149), (1, .ref 0), (0, .float 200)] [] M0 163 36018 := by
  rcases sl5 x1 with rfl | rfl | rfl | rfl | h
  · refine xi_aload_n 2 dL_law_352 rfl ?_
    refine xi_aload_nS 3 dL_law_353 rfl ?_
    refine xi_iload_n 0 dL_law_354 rfl ?_
    refine xi_iconst (v := 1) dL_law_355 (by decide) ?_
    refine xi_iadd (v := 1) dL_law_356 (by decide) ?_
    refine xi_sld (v := 0) dL_law_357 (by rw [hL]; unfold vp_in; decide) e1 ?_
    refine xi_callV (as := [.int 0]) (rest := []) dL_law_358 (fx_count_0 G) mkX11_count w_478 w_479 w_477 rfl rfl rfl rfl rfl (Nat.le_of_ble_eq_true rfl) (Nat.le_of_ble_eq_true rfl) (Nat.le_of_ble_eq_true rfl) (Nat.le_of_ble_eq_true rfl) (Nat.le_of_ble_eq_true rfl) ?_
    intro v M2 hq
    obtain ⟨rfl, rfl⟩ := hq
    show xW _ _ _ _ 361 _ [.int 0] (MX 0 (fun _ => 0) rd0 mo0 (fun _ => 0) (fun _ => 0) (fun _ => 0)) _ _
    refine xi_aload_n 1 dL_law_361 rfl ?_
    refine xi_aload_nS 3 dL_law_362 rfl ?_
    refine xi_iload_n 0 dL_law_363 rfl ?_
    refine xi_iconst (v := 1) dL_law_364 (by decide) ?_
    refine xi_iadd (v := 1) dL_law_365 (by decide) ?_
    refine xi_sld (v := 0) dL_law_366 (by rw [hL]; unfold vp_in; decide) e1 ?_
    refine xi_callV (as := [.int 0]) (rest := [.int 0]) dL_law_367 (fm_count_0 G) mkX12_count w_1218 w_1219 w_1217 rfl rfl rfl rfl rfl (Nat.le_of_ble_eq_true rfl) (Nat.le_of_ble_eq_true rfl) (Nat.le_of_ble_eq_true rfl) (Nat.le_of_ble_eq_true rfl) (Nat.le_of_ble_eq_true rfl) ?_
    intro v M2 hq
    obtain ⟨rfl, rfl⟩ := hq
    show xW _ _ _ _ 370 _ [.int 0, .int 0] (MX 0 (fun _ => 0) rd0 mo0 (fun _ => 0) (fun _ => 0) (fun _ => 0)) _ _
    refine xi_icmp_eq_t (tgt := 1719) dL_law_370 (by decide) (by decide) ?_
    exact law_tail G hL _ _ _ (Nat.le_of_ble_eq_true rfl) (Nat.le_of_ble_eq_true rfl)
  · refine xi_aload_n 2 dL_law_352 rfl ?_
    refine xi_aload_nS 3 dL_law_353 rfl ?_
    refine xi_iload_n 0 dL_law_354 rfl ?_
    refine xi_iconst (v := 1) dL_law_355 (by decide) ?_
    refine xi_iadd (v := 1) dL_law_356 (by decide) ?_
    refine xi_sld (v := 1) dL_law_357 (by rw [hL]; unfold vp_in; decide) e1 ?_
    refine xi_callV (as := [.int 1]) (rest := []) dL_law_358 (fx_count_1 G) mkX11_count w_478 w_479 w_477 rfl rfl rfl rfl rfl (Nat.le_of_ble_eq_true rfl) (Nat.le_of_ble_eq_true rfl) (Nat.le_of_ble_eq_true rfl) (Nat.le_of_ble_eq_true rfl) (Nat.le_of_ble_eq_true rfl) ?_
    intro v M2 hq
    obtain ⟨rfl, rfl⟩ := hq
    show xW _ _ _ _ 361 _ [.int 0] (MX 0 (fun _ => 0) rd0 mo0 (fun _ => 0) (fun _ => 0) (fun _ => 0)) _ _
    refine xi_aload_n 1 dL_law_361 rfl ?_
    refine xi_aload_nS 3 dL_law_362 rfl ?_
    refine xi_iload_n 0 dL_law_363 rfl ?_
    refine xi_iconst (v := 1) dL_law_364 (by decide) ?_
    refine xi_iadd (v := 1) dL_law_365 (by decide) ?_
    refine xi_sld (v := 1) dL_law_366 (by rw [hL]; unfold vp_in; decide) e1 ?_
    refine xi_callV (as := [.int 1]) (rest := [.int 0]) dL_law_367 (fm_count_1 G) mkX12_count w_1218 w_1219 w_1217 rfl rfl rfl rfl rfl (Nat.le_of_ble_eq_true rfl) (Nat.le_of_ble_eq_true rfl) (Nat.le_of_ble_eq_true rfl) (Nat.le_of_ble_eq_true rfl) (Nat.le_of_ble_eq_true rfl) ?_
    intro v M2 hq
    obtain ⟨rfl, rfl⟩ := hq
    show xW _ _ _ _ 370 _ [.int 0, .int 0] (MX 0 (fun _ => 0) rd0 mo0 (fun _ => 0) (fun _ => 0) (fun _ => 0)) _ _
    refine xi_icmp_eq_t (tgt := 1719) dL_law_370 (by decide) (by decide) ?_
    exact law_tail G hL _ _ _ (Nat.le_of_ble_eq_true rfl) (Nat.le_of_ble_eq_true rfl)
  · refine xi_aload_n 2 dL_law_352 rfl ?_
    refine xi_aload_nS 3 dL_law_353 rfl ?_
    refine xi_iload_n 0 dL_law_354 rfl ?_
    refine xi_iconst (v := 1) dL_law_355 (by decide) ?_
    refine xi_iadd (v := 1) dL_law_356 (by decide) ?_
    refine xi_sld (v := 2) dL_law_357 (by rw [hL]; unfold vp_in; decide) e1 ?_
    refine xi_callV (as := [.int 2]) (rest := []) dL_law_358 (fx_count_2 G) mkX11_count w_478 w_479 w_477 rfl rfl rfl rfl rfl (Nat.le_of_ble_eq_true rfl) (Nat.le_of_ble_eq_true rfl) (Nat.le_of_ble_eq_true rfl) (Nat.le_of_ble_eq_true rfl) (Nat.le_of_ble_eq_true rfl) ?_
    intro v M2 hq
    obtain ⟨rfl, rfl⟩ := hq
    show xW _ _ _ _ 361 _ [.int 0] (MX 0 (fun _ => 0) rd0 mo0 (fun _ => 0) (fun _ => 0) (fun _ => 0)) _ _
    refine xi_aload_n 1 dL_law_361 rfl ?_
    refine xi_aload_nS 3 dL_law_362 rfl ?_
    refine xi_iload_n 0 dL_law_363 rfl ?_
    refine xi_iconst (v := 1) dL_law_364 (by decide) ?_
    refine xi_iadd (v := 1) dL_law_365 (by decide) ?_
    refine xi_sld (v := 2) dL_law_366 (by rw [hL]; unfold vp_in; decide) e1 ?_
    refine xi_callV (as := [.int 2]) (rest := [.int 0]) dL_law_367 (fm_count_2 G) mkX12_count w_1218 w_1219 w_1217 rfl rfl rfl rfl rfl (Nat.le_of_ble_eq_true rfl) (Nat.le_of_ble_eq_true rfl) (Nat.le_of_ble_eq_true rfl) (Nat.le_of_ble_eq_true rfl) (Nat.le_of_ble_eq_true rfl) ?_
    intro v M2 hq
    obtain ⟨rfl, rfl⟩ := hq
    show xW _ _ _ _ 370 _ [.int 0, .int 0] (MX 0 (fun _ => 0) rd0 mo0 (fun _ => 0) (fun _ => 0) (fun _ => 0)) _ _
    refine xi_icmp_eq_t (tgt := 1719) dL_law_370 (by decide) (by decide) ?_
    exact law_tail G hL _ _ _ (Nat.le_of_ble_eq_true rfl) (Nat.le_of_ble_eq_true rfl)
  · refine xi_aload_n 2 dL_law_352 rfl ?_
    refine xi_aload_nS 3 dL_law_353 rfl ?_
    refine xi_iload_n 0 dL_law_354 rfl ?_
    refine xi_iconst (v := 1) dL_law_355 (by decide) ?_
    refine xi_iadd (v := 1) dL_law_356 (by decide) ?_
    refine xi_sld (v := 3) dL_law_357 (by rw [hL]; unfold vp_in; decide) e1 ?_
    refine xi_callV (as := [.int 3]) (rest := []) dL_law_358 (fx_count_3 G) mkX11_count w_478 w_479 w_477 rfl rfl rfl rfl rfl (Nat.le_of_ble_eq_true rfl) (Nat.le_of_ble_eq_true rfl) (Nat.le_of_ble_eq_true rfl) (Nat.le_of_ble_eq_true rfl) (Nat.le_of_ble_eq_true rfl) ?_
    intro v M2 hq
    obtain ⟨rfl, rfl⟩ := hq
    show xW _ _ _ _ 361 _ [.int 0] (MX 0 (fun _ => 0) rd0 mo0 (fun _ => 0) (fun _ => 0) (fun _ => 0)) _ _
    refine xi_aload_n 1 dL_law_361 rfl ?_
    refine xi_aload_nS 3 dL_law_362 rfl ?_
    refine xi_iload_n 0 dL_law_363 rfl ?_
    refine xi_iconst (v := 1) dL_law_364 (by decide) ?_
    refine xi_iadd (v := 1) dL_law_365 (by decide) ?_
    refine xi_sld (v := 3) dL_law_366 (by rw [hL]; unfold vp_in; decide) e1 ?_
    refine xi_callV (as := [.int 3]) (rest := [.int 0]) dL_law_367 (fm_count_3 G) mkX12_count w_1218 w_1219 w_1217 rfl rfl rfl rfl rfl (Nat.le_of_ble_eq_true rfl) (Nat.le_of_ble_eq_true rfl) (Nat.le_of_ble_eq_true rfl) (Nat.le_of_ble_eq_true rfl) (Nat.le_of_ble_eq_true rfl) ?_
    intro v M2 hq
    obtain ⟨rfl, rfl⟩ := hq
    show xW _ _ _ _ 370 _ [.int 0, .int 0] (MX 0 (fun _ => 0) rd0 mo0 (fun _ => 0) (fun _ => 0) (fun _ => 0)) _ _
    refine xi_icmp_eq_t (tgt := 1719) dL_law_370 (by decide) (by decide) ?_
    exact law_tail G hL _ _ _ (Nat.le_of_ble_eq_true rfl) (Nat.le_of_ble_eq_true rfl)
  · refine xi_aload_n 2 dL_law_352 rfl ?_
    refine xi_aload_nS 3 dL_law_353 rfl ?_
    refine xi_iload_n 0 dL_law_354 rfl ?_
    refine xi_iconst (v := 1) dL_law_355 (by decide) ?_
    refine xi_iadd (v := 1) dL_law_356 (by decide) ?_
    refine xi_sld (v := x1) dL_law_357 (by rw [hL]; unfold vp_in; decide) e1 ?_
    refine xi_callV (as := [.int x1]) (rest := []) dL_law_358 (fx_count_out G x1 h) mkX11_count w_478 w_479 w_477 rfl rfl rfl rfl rfl (Nat.le_of_ble_eq_true rfl) (Nat.le_of_ble_eq_true rfl) (Nat.le_of_ble_eq_true rfl) (Nat.le_of_ble_eq_true rfl) (Nat.le_of_ble_eq_true rfl) ?_
    intro v M2 hq
    obtain ⟨rfl, rfl⟩ := hq
    show xW _ _ _ _ 361 _ [.int (-1)] (MX 0 (fun _ => 0) rd0 mo0 (fun _ => 0) (fun _ => 0) (fun _ => 0)) _ _
    refine xi_aload_n 1 dL_law_361 rfl ?_
    refine xi_aload_nS 3 dL_law_362 rfl ?_
    refine xi_iload_n 0 dL_law_363 rfl ?_
    refine xi_iconst (v := 1) dL_law_364 (by decide) ?_
    refine xi_iadd (v := 1) dL_law_365 (by decide) ?_
    refine xi_sld (v := x1) dL_law_366 (by rw [hL]; unfold vp_in; decide) e1 ?_
    refine xi_callV (as := [.int x1]) (rest := [.int (-1)]) dL_law_367 (fm_count_out G x1 h) mkX12_count w_1218 w_1219 w_1217 rfl rfl rfl rfl rfl (Nat.le_of_ble_eq_true rfl) (Nat.le_of_ble_eq_true rfl) (Nat.le_of_ble_eq_true rfl) (Nat.le_of_ble_eq_true rfl) (Nat.le_of_ble_eq_true rfl) ?_
    intro v M2 hq
    obtain ⟨rfl, rfl⟩ := hq
    show xW _ _ _ _ 370 _ [.int (-1), .int (-1)] (MX 0 (fun _ => 0) rd0 mo0 (fun _ => 0) (fun _ => 0) (fun _ => 0)) _ _
    refine xi_icmp_eq_t (tgt := 1719) dL_law_370 (by decide) (by decide) ?_
    exact law_tail G hL _ _ _ (Nat.le_of_ble_eq_true rfl) (Nat.le_of_ble_eq_true rfl)
set_option maxHeartbeats 4000000 in
set_option maxRecDepth 100000 in
theorem law_5 {nm : String} (G : xG) (hL : G.2.2.2.2.2.2.1 = 6) (x1 x2 x3 x4 x5 : Int32) (e1 : G.2.2.2.2.2.2.2 1 = x1) (e2 : G.2.2.2.2.2.2.2 2 = x2) (e3 : G.2.2.2.2.2.2.2 3 = x3) (e4 : G.2.2.2.2.2.2.2 4 = x4) (e5 : G.2.2.2.2.2.2.2 5 = x5) : xW G (mL nm) room_1 (xLZ G) 375 [(3, .int 0), (2, .ref 149), (1, .ref 0), (0, .float 200)] [] M0 163 36018 := by
  refine xi_aload_n 2 dL_law_375 rfl ?_
  refine xi_aload_nS 3 dL_law_376 rfl ?_
  refine xi_iload_n 0 dL_law_377 rfl ?_
  refine xi_iconst (v := 1) dL_law_378 (by decide) ?_
  refine xi_iadd (v := 1) dL_law_379 (by decide) ?_
  refine xi_sld (v := x1) dL_law_380 (by rw [hL]; unfold vp_in; decide) e1 ?_
  refine xi_aload_nS 3 dL_law_381 rfl ?_
  refine xi_iload_n 0 dL_law_382 rfl ?_
  refine xi_iconst (v := 2) dL_law_383 (by decide) ?_
  refine xi_iadd (v := 2) dL_law_384 (by decide) ?_
  refine xi_sld (v := x2) dL_law_385 (by rw [hL]; unfold vp_in; decide) e2 ?_
  refine xi_callV (as := [.int x1, .int x2]) (rest := []) dL_law_386 (fx_look G x1 x2) mkX11_look w_486 w_487 w_485 rfl rfl rfl rfl rfl (Nat.le_of_ble_eq_true rfl) (Nat.le_of_ble_eq_true rfl) (Nat.le_of_ble_eq_true rfl) (Nat.le_of_ble_eq_true rfl) (Nat.le_of_ble_eq_true rfl) ?_
  intro v M2 hq
  obtain ⟨rfl, rfl⟩ := hq
  show xW _ _ _ _ 389 _ [.int (-2)] (MX 0 (fun _ => 0) rd0 mo0 (fun _ => 0) (fun _ => 0) (fun _ => 0)) _ _
  refine xi_aload_n 1 dL_law_389 rfl ?_
  refine xi_aload_nS 3 dL_law_390 rfl ?_
  refine xi_iload_n 0 dL_law_391 rfl ?_
  refine xi_iconst (v := 1) dL_law_392 (by decide) ?_
  refine xi_iadd (v := 1) dL_law_393 (by decide) ?_
  refine xi_sld (v := x1) dL_law_394 (by rw [hL]; unfold vp_in; decide) e1 ?_
  refine xi_aload_nS 3 dL_law_395 rfl ?_
  refine xi_iload_n 0 dL_law_396 rfl ?_
  refine xi_iconst (v := 2) dL_law_397 (by decide) ?_
  refine xi_iadd (v := 2) dL_law_398 (by decide) ?_
  refine xi_sld (v := x2) dL_law_399 (by rw [hL]; unfold vp_in; decide) e2 ?_
  refine xi_callV (as := [.int x1, .int x2]) (rest := [.int (-2)]) dL_law_400 (fm_look G x1 x2) mkX12_look w_1222 w_1223 w_1221 rfl rfl rfl rfl rfl (Nat.le_of_ble_eq_true rfl) (Nat.le_of_ble_eq_true rfl) (Nat.le_of_ble_eq_true rfl) (Nat.le_of_ble_eq_true rfl) (Nat.le_of_ble_eq_true rfl) ?_
  intro v M2 hq
  obtain ⟨rfl, rfl⟩ := hq
  show xW _ _ _ _ 403 _ [.int (-2), .int (-2)] (MX 0 (fun _ => 0) rd0 mo0 (fun _ => 0) (fun _ => 0) (fun _ => 0)) _ _
  refine xi_icmp_eq_t (tgt := 1719) dL_law_403 (by decide) (by decide) ?_
  exact law_tail G hL _ _ _ (Nat.le_of_ble_eq_true rfl) (Nat.le_of_ble_eq_true rfl)
set_option maxHeartbeats 4000000 in
set_option maxRecDepth 100000 in
theorem law_6 {nm : String} (G : xG) (hL : G.2.2.2.2.2.2.1 = 6) (x1 x2 x3 x4 x5 : Int32) (e1 : G.2.2.2.2.2.2.2 1 = x1) (e2 : G.2.2.2.2.2.2.2 2 = x2) (e3 : G.2.2.2.2.2.2.2 3 = x3) (e4 : G.2.2.2.2.2.2.2 4 = x4) (e5 : G.2.2.2.2.2.2.2 5 = x5) : xW G (mL nm) room_1 (xLZ G) 408 [(3, .int 0), (2, .ref 149), (1, .ref 0), (0, .float 200)] [] M0 163 36018 := by
  refine xi_aload_n 2 dL_law_408 rfl ?_
  refine xi_aload_nS 3 dL_law_409 rfl ?_
  refine xi_iload_n 0 dL_law_410 rfl ?_
  refine xi_iconst (v := 1) dL_law_411 (by decide) ?_
  refine xi_iadd (v := 1) dL_law_412 (by decide) ?_
  refine xi_sld (v := x1) dL_law_413 (by rw [hL]; unfold vp_in; decide) e1 ?_
  refine xi_aload_nS 3 dL_law_414 rfl ?_
  refine xi_iload_n 0 dL_law_415 rfl ?_
  refine xi_iconst (v := 2) dL_law_416 (by decide) ?_
  refine xi_iadd (v := 2) dL_law_417 (by decide) ?_
  refine xi_sld (v := x2) dL_law_418 (by rw [hL]; unfold vp_in; decide) e2 ?_
  refine xi_callV (as := [.int x1, .int x2]) (rest := []) dL_law_419 (fx_near G x1 x2) mkX11_near w_538 w_539 w_537 rfl rfl rfl rfl rfl (Nat.le_of_ble_eq_true rfl) (Nat.le_of_ble_eq_true rfl) (Nat.le_of_ble_eq_true rfl) (Nat.le_of_ble_eq_true rfl) (Nat.le_of_ble_eq_true rfl) ?_
  intro v M2 hq
  obtain ⟨rfl, rfl⟩ := hq
  show xW _ _ _ _ 422 _ [.int (-2)] (MX 0 (fun _ => 0) rd0 mo0 (fun _ => 0) (fun _ => 0) (fun _ => 0)) _ _
  refine xi_aload_n 1 dL_law_422 rfl ?_
  refine xi_aload_nS 3 dL_law_423 rfl ?_
  refine xi_iload_n 0 dL_law_424 rfl ?_
  refine xi_iconst (v := 1) dL_law_425 (by decide) ?_
  refine xi_iadd (v := 1) dL_law_426 (by decide) ?_
  refine xi_sld (v := x1) dL_law_427 (by rw [hL]; unfold vp_in; decide) e1 ?_
  refine xi_aload_nS 3 dL_law_428 rfl ?_
  refine xi_iload_n 0 dL_law_429 rfl ?_
  refine xi_iconst (v := 2) dL_law_430 (by decide) ?_
  refine xi_iadd (v := 2) dL_law_431 (by decide) ?_
  refine xi_sld (v := x2) dL_law_432 (by rw [hL]; unfold vp_in; decide) e2 ?_
  refine xi_callV (as := [.int x1, .int x2]) (rest := [.int (-2)]) dL_law_433 (fm_near G x1 x2) mkX12_near w_1252 w_1253 w_1251 rfl rfl rfl rfl rfl (Nat.le_of_ble_eq_true rfl) (Nat.le_of_ble_eq_true rfl) (Nat.le_of_ble_eq_true rfl) (Nat.le_of_ble_eq_true rfl) (Nat.le_of_ble_eq_true rfl) ?_
  intro v M2 hq
  obtain ⟨rfl, rfl⟩ := hq
  show xW _ _ _ _ 436 _ [.int (-2), .int (-2)] (MX 0 (fun _ => 0) rd0 mo0 (fun _ => 0) (fun _ => 0) (fun _ => 0)) _ _
  refine xi_icmp_eq_t (tgt := 1719) dL_law_436 (by decide) (by decide) ?_
  exact law_tail G hL _ _ _ (Nat.le_of_ble_eq_true rfl) (Nat.le_of_ble_eq_true rfl)
set_option maxHeartbeats 4000000 in
set_option maxRecDepth 100000 in
theorem law_7 {nm : String} (G : xG) (hL : G.2.2.2.2.2.2.1 = 6) (x1 x2 x3 x4 x5 : Int32) (e1 : G.2.2.2.2.2.2.2 1 = x1) (e2 : G.2.2.2.2.2.2.2 2 = x2) (e3 : G.2.2.2.2.2.2.2 3 = x3) (e4 : G.2.2.2.2.2.2.2 4 = x4) (e5 : G.2.2.2.2.2.2.2 5 = x5) : xW G (mL nm) room_1 (xLZ G) 441 [(3, .int 0), (2, .ref 149), (1, .ref 0), (0, .float 200)] [] M0 163 36018 := by
  refine xi_aload_n 2 dL_law_441 rfl ?_
  refine xi_aload_nS 3 dL_law_442 rfl ?_
  refine xi_iload_n 0 dL_law_443 rfl ?_
  refine xi_iconst (v := 1) dL_law_444 (by decide) ?_
  refine xi_iadd (v := 1) dL_law_445 (by decide) ?_
  refine xi_sld (v := x1) dL_law_446 (by rw [hL]; unfold vp_in; decide) e1 ?_
  refine xi_aload_nS 3 dL_law_447 rfl ?_
  refine xi_iload_n 0 dL_law_448 rfl ?_
  refine xi_iconst (v := 2) dL_law_449 (by decide) ?_
  refine xi_iadd (v := 2) dL_law_450 (by decide) ?_
  refine xi_sld (v := x2) dL_law_451 (by rw [hL]; unfold vp_in; decide) e2 ?_
  refine xi_aload_nS 3 dL_law_452 rfl ?_
  refine xi_iload_n 0 dL_law_453 rfl ?_
  refine xi_iconst (v := 3) dL_law_454 (by decide) ?_
  refine xi_iadd (v := 3) dL_law_455 (by decide) ?_
  refine xi_sld (v := x3) dL_law_456 (by rw [hL]; unfold vp_in; decide) e3 ?_
  refine xi_callV (as := [.int x1, .int x2, .int x3]) (rest := []) dL_law_457 (fx_line G x1 x2 x3) mkX11_line w_543 w_544 w_542 rfl rfl rfl rfl rfl (Nat.le_of_ble_eq_true rfl) (Nat.le_of_ble_eq_true rfl) (Nat.le_of_ble_eq_true rfl) (Nat.le_of_ble_eq_true rfl) (Nat.le_of_ble_eq_true rfl) ?_
  intro v M2 hq
  obtain ⟨rfl, rfl⟩ := hq
  show xW _ _ _ _ 460 _ [.int (-2)] (MX 0 (fun _ => 0) rd0 mo0 (fun _ => 0) (fun _ => 0) (fun _ => 0)) _ _
  refine xi_aload_n 1 dL_law_460 rfl ?_
  refine xi_aload_nS 3 dL_law_461 rfl ?_
  refine xi_iload_n 0 dL_law_462 rfl ?_
  refine xi_iconst (v := 1) dL_law_463 (by decide) ?_
  refine xi_iadd (v := 1) dL_law_464 (by decide) ?_
  refine xi_sld (v := x1) dL_law_465 (by rw [hL]; unfold vp_in; decide) e1 ?_
  refine xi_aload_nS 3 dL_law_466 rfl ?_
  refine xi_iload_n 0 dL_law_467 rfl ?_
  refine xi_iconst (v := 2) dL_law_468 (by decide) ?_
  refine xi_iadd (v := 2) dL_law_469 (by decide) ?_
  refine xi_sld (v := x2) dL_law_470 (by rw [hL]; unfold vp_in; decide) e2 ?_
  refine xi_aload_nS 3 dL_law_471 rfl ?_
  refine xi_iload_n 0 dL_law_472 rfl ?_
  refine xi_iconst (v := 3) dL_law_473 (by decide) ?_
  refine xi_iadd (v := 3) dL_law_474 (by decide) ?_
  refine xi_sld (v := x3) dL_law_475 (by rw [hL]; unfold vp_in; decide) e3 ?_
  refine xi_callV (as := [.int x1, .int x2, .int x3]) (rest := [.int (-2)]) dL_law_476 (fm_line G x1 x2 x3) mkX12_line w_1260 w_1261 w_1259 rfl rfl rfl rfl rfl (Nat.le_of_ble_eq_true rfl) (Nat.le_of_ble_eq_true rfl) (Nat.le_of_ble_eq_true rfl) (Nat.le_of_ble_eq_true rfl) (Nat.le_of_ble_eq_true rfl) ?_
  intro v M2 hq
  obtain ⟨rfl, rfl⟩ := hq
  show xW _ _ _ _ 479 _ [.int (-2), .int (-2)] (MX 0 (fun _ => 0) rd0 mo0 (fun _ => 0) (fun _ => 0) (fun _ => 0)) _ _
  refine xi_icmp_eq_t (tgt := 1719) dL_law_479 (by decide) (by decide) ?_
  exact law_tail G hL _ _ _ (Nat.le_of_ble_eq_true rfl) (Nat.le_of_ble_eq_true rfl)
set_option maxHeartbeats 4000000 in
set_option maxRecDepth 100000 in
theorem law_8 {nm : String} (G : xG) (hL : G.2.2.2.2.2.2.1 = 6) (x1 x2 x3 x4 x5 : Int32) (e1 : G.2.2.2.2.2.2.2 1 = x1) (e2 : G.2.2.2.2.2.2.2 2 = x2) (e3 : G.2.2.2.2.2.2.2 3 = x3) (e4 : G.2.2.2.2.2.2.2 4 = x4) (e5 : G.2.2.2.2.2.2.2 5 = x5) : xW G (mL nm) room_1 (xLZ G) 484 [(3, .int 0), (2, .ref 149), (1, .ref 0), (0, .float 200)] [] M0 163 36018 := by
  refine xi_aload_n 2 dL_law_484 rfl ?_
  refine xi_aload_nS 3 dL_law_485 rfl ?_
  refine xi_iload_n 0 dL_law_486 rfl ?_
  refine xi_iconst (v := 1) dL_law_487 (by decide) ?_
  refine xi_iadd (v := 1) dL_law_488 (by decide) ?_
  refine xi_sld (v := x1) dL_law_489 (by rw [hL]; unfold vp_in; decide) e1 ?_
  refine xi_aload_nS 3 dL_law_490 rfl ?_
  refine xi_iload_n 0 dL_law_491 rfl ?_
  refine xi_iconst (v := 2) dL_law_492 (by decide) ?_
  refine xi_iadd (v := 2) dL_law_493 (by decide) ?_
  refine xi_sld (v := x2) dL_law_494 (by rw [hL]; unfold vp_in; decide) e2 ?_
  refine xi_aload_nS 3 dL_law_495 rfl ?_
  refine xi_iload_n 0 dL_law_496 rfl ?_
  refine xi_iconst (v := 3) dL_law_497 (by decide) ?_
  refine xi_iadd (v := 3) dL_law_498 (by decide) ?_
  refine xi_sld (v := x3) dL_law_499 (by rw [hL]; unfold vp_in; decide) e3 ?_
  refine xi_callV (as := [.int x1, .int x2, .int x3]) (rest := []) dL_law_500 (fx_far G x1 x2 x3) mkX11_far w_548 w_549 w_547 rfl rfl rfl rfl rfl (Nat.le_of_ble_eq_true rfl) (Nat.le_of_ble_eq_true rfl) (Nat.le_of_ble_eq_true rfl) (Nat.le_of_ble_eq_true rfl) (Nat.le_of_ble_eq_true rfl) ?_
  intro v M2 hq
  obtain ⟨rfl, rfl⟩ := hq
  show xW _ _ _ _ 503 _ [.int (-2)] (MX 0 (fun _ => 0) rd0 mo0 (fun _ => 0) (fun _ => 0) (fun _ => 0)) _ _
  refine xi_aload_n 1 dL_law_503 rfl ?_
  refine xi_aload_nS 3 dL_law_504 rfl ?_
  refine xi_iload_n 0 dL_law_505 rfl ?_
  refine xi_iconst (v := 1) dL_law_506 (by decide) ?_
  refine xi_iadd (v := 1) dL_law_507 (by decide) ?_
  refine xi_sld (v := x1) dL_law_508 (by rw [hL]; unfold vp_in; decide) e1 ?_
  refine xi_aload_nS 3 dL_law_509 rfl ?_
  refine xi_iload_n 0 dL_law_510 rfl ?_
  refine xi_iconst (v := 2) dL_law_511 (by decide) ?_
  refine xi_iadd (v := 2) dL_law_512 (by decide) ?_
  refine xi_sld (v := x2) dL_law_513 (by rw [hL]; unfold vp_in; decide) e2 ?_
  refine xi_aload_nS 3 dL_law_514 rfl ?_
  refine xi_iload_n 0 dL_law_515 rfl ?_
  refine xi_iconst (v := 3) dL_law_516 (by decide) ?_
  refine xi_iadd (v := 3) dL_law_517 (by decide) ?_
  refine xi_sld (v := x3) dL_law_518 (by rw [hL]; unfold vp_in; decide) e3 ?_
  refine xi_callV (as := [.int x1, .int x2, .int x3]) (rest := [.int (-2)]) dL_law_519 (fm_far G x1 x2 x3) mkX12_far w_1264 w_1265 w_1263 rfl rfl rfl rfl rfl (Nat.le_of_ble_eq_true rfl) (Nat.le_of_ble_eq_true rfl) (Nat.le_of_ble_eq_true rfl) (Nat.le_of_ble_eq_true rfl) (Nat.le_of_ble_eq_true rfl) ?_
  intro v M2 hq
  obtain ⟨rfl, rfl⟩ := hq
  show xW _ _ _ _ 522 _ [.int (-2), .int (-2)] (MX 0 (fun _ => 0) rd0 mo0 (fun _ => 0) (fun _ => 0) (fun _ => 0)) _ _
  refine xi_icmp_eq_t (tgt := 1719) dL_law_522 (by decide) (by decide) ?_
  exact law_tail G hL _ _ _ (Nat.le_of_ble_eq_true rfl) (Nat.le_of_ble_eq_true rfl)
set_option maxHeartbeats 4000000 in
set_option maxRecDepth 100000 in
theorem law_9 {nm : String} (G : xG) (hL : G.2.2.2.2.2.2.1 = 6) (x1 x2 x3 x4 x5 : Int32) (e1 : G.2.2.2.2.2.2.2 1 = x1) (e2 : G.2.2.2.2.2.2.2 2 = x2) (e3 : G.2.2.2.2.2.2.2 3 = x3) (e4 : G.2.2.2.2.2.2.2 4 = x4) (e5 : G.2.2.2.2.2.2.2 5 = x5) : xW G (mL nm) room_1 (xLZ G) 527 [(3, .int 0), (2, .ref 149), (1, .ref 0), (0, .float 200)] [] M0 163 36018 := by
  refine xi_aload_n 2 dL_law_527 rfl ?_
  refine xi_aload_nS 3 dL_law_528 rfl ?_
  refine xi_iload_n 0 dL_law_529 rfl ?_
  refine xi_iconst (v := 1) dL_law_530 (by decide) ?_
  refine xi_iadd (v := 1) dL_law_531 (by decide) ?_
  refine xi_sld (v := x1) dL_law_532 (by rw [hL]; unfold vp_in; decide) e1 ?_
  refine xi_aload_nS 3 dL_law_533 rfl ?_
  refine xi_iload_n 0 dL_law_534 rfl ?_
  refine xi_iconst (v := 2) dL_law_535 (by decide) ?_
  refine xi_iadd (v := 2) dL_law_536 (by decide) ?_
  refine xi_sld (v := x2) dL_law_537 (by rw [hL]; unfold vp_in; decide) e2 ?_
  refine xi_callV (as := [.int x1, .int x2]) (rest := []) dL_law_538 (fx_row G x1 x2) mkX11_row w_553 w_554 w_552 rfl rfl rfl rfl rfl (Nat.le_of_ble_eq_true rfl) (Nat.le_of_ble_eq_true rfl) (Nat.le_of_ble_eq_true rfl) (Nat.le_of_ble_eq_true rfl) (Nat.le_of_ble_eq_true rfl) ?_
  intro v M2 hq
  obtain ⟨rfl, rfl⟩ := hq
  show xW _ _ _ _ 541 _ [.int (-2)] (MX 0 (fun _ => 0) rd0 mo0 (fun _ => 0) (fun _ => 0) (fun _ => 0)) _ _
  refine xi_aload_n 1 dL_law_541 rfl ?_
  refine xi_aload_nS 3 dL_law_542 rfl ?_
  refine xi_iload_n 0 dL_law_543 rfl ?_
  refine xi_iconst (v := 1) dL_law_544 (by decide) ?_
  refine xi_iadd (v := 1) dL_law_545 (by decide) ?_
  refine xi_sld (v := x1) dL_law_546 (by rw [hL]; unfold vp_in; decide) e1 ?_
  refine xi_aload_nS 3 dL_law_547 rfl ?_
  refine xi_iload_n 0 dL_law_548 rfl ?_
  refine xi_iconst (v := 2) dL_law_549 (by decide) ?_
  refine xi_iadd (v := 2) dL_law_550 (by decide) ?_
  refine xi_sld (v := x2) dL_law_551 (by rw [hL]; unfold vp_in; decide) e2 ?_
  refine xi_callV (as := [.int x1, .int x2]) (rest := [.int (-2)]) dL_law_552 (fm_row G x1 x2) mkX12_row w_1268 w_1269 w_1267 rfl rfl rfl rfl rfl (Nat.le_of_ble_eq_true rfl) (Nat.le_of_ble_eq_true rfl) (Nat.le_of_ble_eq_true rfl) (Nat.le_of_ble_eq_true rfl) (Nat.le_of_ble_eq_true rfl) ?_
  intro v M2 hq
  obtain ⟨rfl, rfl⟩ := hq
  show xW _ _ _ _ 555 _ [.int (-2), .int (-2)] (MX 0 (fun _ => 0) rd0 mo0 (fun _ => 0) (fun _ => 0) (fun _ => 0)) _ _
  refine xi_icmp_eq_t (tgt := 1719) dL_law_555 (by decide) (by decide) ?_
  exact law_tail G hL _ _ _ (Nat.le_of_ble_eq_true rfl) (Nat.le_of_ble_eq_true rfl)
set_option maxHeartbeats 4000000 in
set_option maxRecDepth 100000 in
theorem law_10 {nm : String} (G : xG) (hL : G.2.2.2.2.2.2.1 = 6) (x1 x2 x3 x4 x5 : Int32) (e1 : G.2.2.2.2.2.2.2 1 = x1) (e2 : G.2.2.2.2.2.2.2 2 = x2) (e3 : G.2.2.2.2.2.2.2 3 = x3) (e4 : G.2.2.2.2.2.2.2 4 = x4) (e5 : G.2.2.2.2.2.2.2 5 = x5) : xW G (mL nm) room_1 (xLZ G) 560 [(3, .int 0), (2, .ref 149), (1, .ref 0), (0, .float 200)] [] M0 163 36018 := by
  refine xi_aload_n 2 dL_law_560 rfl ?_
  refine xi_aload_nS 3 dL_law_561 rfl ?_
  refine xi_iload_n 0 dL_law_562 rfl ?_
  refine xi_iconst (v := 1) dL_law_563 (by decide) ?_
  refine xi_iadd (v := 1) dL_law_564 (by decide) ?_
  refine xi_sld (v := x1) dL_law_565 (by rw [hL]; unfold vp_in; decide) e1 ?_
  refine xi_aload_nS 3 dL_law_566 rfl ?_
  refine xi_iload_n 0 dL_law_567 rfl ?_
  refine xi_iconst (v := 2) dL_law_568 (by decide) ?_
  refine xi_iadd (v := 2) dL_law_569 (by decide) ?_
  refine xi_sld (v := x2) dL_law_570 (by rw [hL]; unfold vp_in; decide) e2 ?_
  refine xi_callV (as := [.int x1, .int x2]) (rest := []) dL_law_571 (fx_place G x1 x2) mkX11_place w_557 w_558 w_556 rfl rfl rfl rfl rfl (Nat.le_of_ble_eq_true rfl) (Nat.le_of_ble_eq_true rfl) (Nat.le_of_ble_eq_true rfl) (Nat.le_of_ble_eq_true rfl) (Nat.le_of_ble_eq_true rfl) ?_
  intro v M2 hq
  obtain ⟨rfl, rfl⟩ := hq
  show xW _ _ _ _ 574 _ [.int (-2)] (MX 0 (fun _ => 0) rd0 mo0 (fun _ => 0) (fun _ => 0) (fun _ => 0)) _ _
  refine xi_aload_n 1 dL_law_574 rfl ?_
  refine xi_aload_nS 3 dL_law_575 rfl ?_
  refine xi_iload_n 0 dL_law_576 rfl ?_
  refine xi_iconst (v := 1) dL_law_577 (by decide) ?_
  refine xi_iadd (v := 1) dL_law_578 (by decide) ?_
  refine xi_sld (v := x1) dL_law_579 (by rw [hL]; unfold vp_in; decide) e1 ?_
  refine xi_aload_nS 3 dL_law_580 rfl ?_
  refine xi_iload_n 0 dL_law_581 rfl ?_
  refine xi_iconst (v := 2) dL_law_582 (by decide) ?_
  refine xi_iadd (v := 2) dL_law_583 (by decide) ?_
  refine xi_sld (v := x2) dL_law_584 (by rw [hL]; unfold vp_in; decide) e2 ?_
  refine xi_callV (as := [.int x1, .int x2]) (rest := [.int (-2)]) dL_law_585 (fm_place G x1 x2) mkX12_place w_1276 w_1277 w_1275 rfl rfl rfl rfl rfl (Nat.le_of_ble_eq_true rfl) (Nat.le_of_ble_eq_true rfl) (Nat.le_of_ble_eq_true rfl) (Nat.le_of_ble_eq_true rfl) (Nat.le_of_ble_eq_true rfl) ?_
  intro v M2 hq
  obtain ⟨rfl, rfl⟩ := hq
  show xW _ _ _ _ 588 _ [.int (-2), .int (-2)] (MX 0 (fun _ => 0) rd0 mo0 (fun _ => 0) (fun _ => 0) (fun _ => 0)) _ _
  refine xi_icmp_eq_t (tgt := 1719) dL_law_588 (by decide) (by decide) ?_
  exact law_tail G hL _ _ _ (Nat.le_of_ble_eq_true rfl) (Nat.le_of_ble_eq_true rfl)
set_option maxHeartbeats 4000000 in
set_option maxRecDepth 100000 in
theorem law_11 {nm : String} (G : xG) (hL : G.2.2.2.2.2.2.1 = 6) (x1 x2 x3 x4 x5 : Int32) (e1 : G.2.2.2.2.2.2.2 1 = x1) (e2 : G.2.2.2.2.2.2.2 2 = x2) (e3 : G.2.2.2.2.2.2.2 3 = x3) (e4 : G.2.2.2.2.2.2.2 4 = x4) (e5 : G.2.2.2.2.2.2.2 5 = x5) : xW G (mL nm) room_1 (xLZ G) 593 [(3, .int 0), (2, .ref 149), (1, .ref 0), (0, .float 200)] [] M0 163 36018 := by
  refine xi_aload_n 2 dL_law_593 rfl ?_
  refine xi_aload_nS 3 dL_law_594 rfl ?_
  refine xi_iload_n 0 dL_law_595 rfl ?_
  refine xi_iconst (v := 1) dL_law_596 (by decide) ?_
  refine xi_iadd (v := 1) dL_law_597 (by decide) ?_
  refine xi_sld (v := x1) dL_law_598 (by rw [hL]; unfold vp_in; decide) e1 ?_
  refine xi_aload_nS 3 dL_law_599 rfl ?_
  refine xi_iload_n 0 dL_law_600 rfl ?_
  refine xi_iconst (v := 2) dL_law_601 (by decide) ?_
  refine xi_iadd (v := 2) dL_law_602 (by decide) ?_
  refine xi_sld (v := x2) dL_law_603 (by rw [hL]; unfold vp_in; decide) e2 ?_
  refine xi_callV (as := [.int x1, .int x2]) (rest := []) dL_law_604 (fx_value G x1 x2) mkX11_value w_565 w_566 w_564 rfl rfl rfl rfl rfl (Nat.le_of_ble_eq_true rfl) (Nat.le_of_ble_eq_true rfl) (Nat.le_of_ble_eq_true rfl) (Nat.le_of_ble_eq_true rfl) (Nat.le_of_ble_eq_true rfl) ?_
  intro v M2 hq
  obtain ⟨rfl, rfl⟩ := hq
  show xW _ _ _ _ 607 _ [.int (-2)] (MX 0 (fun _ => 0) rd0 mo0 (fun _ => 0) (fun _ => 0) (fun _ => 0)) _ _
  refine xi_aload_n 1 dL_law_607 rfl ?_
  refine xi_aload_nS 3 dL_law_608 rfl ?_
  refine xi_iload_n 0 dL_law_609 rfl ?_
  refine xi_iconst (v := 1) dL_law_610 (by decide) ?_
  refine xi_iadd (v := 1) dL_law_611 (by decide) ?_
  refine xi_sld (v := x1) dL_law_612 (by rw [hL]; unfold vp_in; decide) e1 ?_
  refine xi_aload_nS 3 dL_law_613 rfl ?_
  refine xi_iload_n 0 dL_law_614 rfl ?_
  refine xi_iconst (v := 2) dL_law_615 (by decide) ?_
  refine xi_iadd (v := 2) dL_law_616 (by decide) ?_
  refine xi_sld (v := x2) dL_law_617 (by rw [hL]; unfold vp_in; decide) e2 ?_
  refine xi_callV (as := [.int x1, .int x2]) (rest := [.int (-2)]) dL_law_618 (fm_value G x1 x2) mkX12_value w_1284 w_1285 w_1283 rfl rfl rfl rfl rfl (Nat.le_of_ble_eq_true rfl) (Nat.le_of_ble_eq_true rfl) (Nat.le_of_ble_eq_true rfl) (Nat.le_of_ble_eq_true rfl) (Nat.le_of_ble_eq_true rfl) ?_
  intro v M2 hq
  obtain ⟨rfl, rfl⟩ := hq
  show xW _ _ _ _ 621 _ [.int (-2), .int (-2)] (MX 0 (fun _ => 0) rd0 mo0 (fun _ => 0) (fun _ => 0) (fun _ => 0)) _ _
  refine xi_icmp_eq_t (tgt := 1719) dL_law_621 (by decide) (by decide) ?_
  exact law_tail G hL _ _ _ (Nat.le_of_ble_eq_true rfl) (Nat.le_of_ble_eq_true rfl)
set_option maxHeartbeats 4000000 in
set_option maxRecDepth 100000 in
theorem law_12 {nm : String} (G : xG) (hL : G.2.2.2.2.2.2.1 = 6) (x1 x2 x3 x4 x5 : Int32) (e1 : G.2.2.2.2.2.2.2 1 = x1) (e2 : G.2.2.2.2.2.2.2 2 = x2) (e3 : G.2.2.2.2.2.2.2 3 = x3) (e4 : G.2.2.2.2.2.2.2 4 = x4) (e5 : G.2.2.2.2.2.2.2 5 = x5) : xW G (mL nm) room_1 (xLZ G) 626 [(3, .int 0), (2, .ref 149), (1, .ref 0), (0, .float 200)] [] M0 163 36018 := by
  refine xi_aload_n 2 dL_law_626 rfl ?_
  refine xi_aload_nS 3 dL_law_627 rfl ?_
  refine xi_iload_n 0 dL_law_628 rfl ?_
  refine xi_iconst (v := 1) dL_law_629 (by decide) ?_
  refine xi_iadd (v := 1) dL_law_630 (by decide) ?_
  refine xi_sld (v := x1) dL_law_631 (by rw [hL]; unfold vp_in; decide) e1 ?_
  refine xi_aload_nS 3 dL_law_632 rfl ?_
  refine xi_iload_n 0 dL_law_633 rfl ?_
  refine xi_iconst (v := 2) dL_law_634 (by decide) ?_
  refine xi_iadd (v := 2) dL_law_635 (by decide) ?_
  refine xi_sld (v := x2) dL_law_636 (by rw [hL]; unfold vp_in; decide) e2 ?_
  refine xi_aload_nS 3 dL_law_637 rfl ?_
  refine xi_iload_n 0 dL_law_638 rfl ?_
  refine xi_iconst (v := 3) dL_law_639 (by decide) ?_
  refine xi_iadd (v := 3) dL_law_640 (by decide) ?_
  refine xi_sld (v := x3) dL_law_641 (by rw [hL]; unfold vp_in; decide) e3 ?_
  refine xi_callV (as := [.int x1, .int x2, .int x3]) (rest := []) dL_law_642 (fx_price G x1 x2 x3) mkX11_price w_616 w_617 w_615 rfl rfl rfl rfl rfl (Nat.le_of_ble_eq_true rfl) (Nat.le_of_ble_eq_true rfl) (Nat.le_of_ble_eq_true rfl) (Nat.le_of_ble_eq_true rfl) (Nat.le_of_ble_eq_true rfl) ?_
  intro v M2 hq
  obtain ⟨rfl, rfl⟩ := hq
  show xW _ _ _ _ 645 _ [.int (-2)] (MX 0 (fun _ => 0) rd0 mo0 (fun _ => 0) (fun _ => 0) (fun _ => 0)) _ _
  refine xi_aload_n 1 dL_law_645 rfl ?_
  refine xi_aload_nS 3 dL_law_646 rfl ?_
  refine xi_iload_n 0 dL_law_647 rfl ?_
  refine xi_iconst (v := 1) dL_law_648 (by decide) ?_
  refine xi_iadd (v := 1) dL_law_649 (by decide) ?_
  refine xi_sld (v := x1) dL_law_650 (by rw [hL]; unfold vp_in; decide) e1 ?_
  refine xi_aload_nS 3 dL_law_651 rfl ?_
  refine xi_iload_n 0 dL_law_652 rfl ?_
  refine xi_iconst (v := 2) dL_law_653 (by decide) ?_
  refine xi_iadd (v := 2) dL_law_654 (by decide) ?_
  refine xi_sld (v := x2) dL_law_655 (by rw [hL]; unfold vp_in; decide) e2 ?_
  refine xi_aload_nS 3 dL_law_656 rfl ?_
  refine xi_iload_n 0 dL_law_657 rfl ?_
  refine xi_iconst (v := 3) dL_law_658 (by decide) ?_
  refine xi_iadd (v := 3) dL_law_659 (by decide) ?_
  refine xi_sld (v := x3) dL_law_660 (by rw [hL]; unfold vp_in; decide) e3 ?_
  refine xi_callV (as := [.int x1, .int x2, .int x3]) (rest := [.int (-2)]) dL_law_661 (fm_price G x1 x2 x3) mkX12_price w_1325 w_1326 w_1324 rfl rfl rfl rfl rfl (Nat.le_of_ble_eq_true rfl) (Nat.le_of_ble_eq_true rfl) (Nat.le_of_ble_eq_true rfl) (Nat.le_of_ble_eq_true rfl) (Nat.le_of_ble_eq_true rfl) ?_
  intro v M2 hq
  obtain ⟨rfl, rfl⟩ := hq
  show xW _ _ _ _ 664 _ [.int (-2), .int (-2)] (MX 0 (fun _ => 0) rd0 mo0 (fun _ => 0) (fun _ => 0) (fun _ => 0)) _ _
  refine xi_icmp_eq_t (tgt := 1719) dL_law_664 (by decide) (by decide) ?_
  exact law_tail G hL _ _ _ (Nat.le_of_ble_eq_true rfl) (Nat.le_of_ble_eq_true rfl)
set_option maxHeartbeats 4000000 in
set_option maxRecDepth 100000 in
theorem law_13 {nm : String} (G : xG) (hL : G.2.2.2.2.2.2.1 = 6) (x1 x2 x3 x4 x5 : Int32) (e1 : G.2.2.2.2.2.2.2 1 = x1) (e2 : G.2.2.2.2.2.2.2 2 = x2) (e3 : G.2.2.2.2.2.2.2 3 = x3) (e4 : G.2.2.2.2.2.2.2 4 = x4) (e5 : G.2.2.2.2.2.2.2 5 = x5) : xW G (mL nm) room_1 (xLZ G) 669 [(3, .int 0), (2, .ref 149), (1, .ref 0), (0, .float 200)] [] M0 163 36018 := by
  refine xi_aload_n 2 dL_law_669 rfl ?_
  refine xi_aload_nS 3 dL_law_670 rfl ?_
  refine xi_iload_n 0 dL_law_671 rfl ?_
  refine xi_iconst (v := 1) dL_law_672 (by decide) ?_
  refine xi_iadd (v := 1) dL_law_673 (by decide) ?_
  refine xi_sld (v := x1) dL_law_674 (by rw [hL]; unfold vp_in; decide) e1 ?_
  refine xi_aload_nS 3 dL_law_675 rfl ?_
  refine xi_iload_n 0 dL_law_676 rfl ?_
  refine xi_iconst (v := 2) dL_law_677 (by decide) ?_
  refine xi_iadd (v := 2) dL_law_678 (by decide) ?_
  refine xi_sld (v := x2) dL_law_679 (by rw [hL]; unfold vp_in; decide) e2 ?_
  refine xi_callV (as := [.int x1, .int x2]) (rest := []) dL_law_680 (fx_worst G x1 x2) mkX11_worst w_634 w_635 w_633 rfl rfl rfl rfl rfl (Nat.le_of_ble_eq_true rfl) (Nat.le_of_ble_eq_true rfl) (Nat.le_of_ble_eq_true rfl) (Nat.le_of_ble_eq_true rfl) (Nat.le_of_ble_eq_true rfl) ?_
  intro v M2 hq
  obtain ⟨rfl, rfl⟩ := hq
  show xW _ _ _ _ 683 _ [.int (-2)] (MX 0 (fun _ => 0) rd0 mo0 (fun _ => 0) (fun _ => 0) (fun _ => 0)) _ _
  refine xi_aload_n 1 dL_law_683 rfl ?_
  refine xi_aload_nS 3 dL_law_684 rfl ?_
  refine xi_iload_n 0 dL_law_685 rfl ?_
  refine xi_iconst (v := 1) dL_law_686 (by decide) ?_
  refine xi_iadd (v := 1) dL_law_687 (by decide) ?_
  refine xi_sld (v := x1) dL_law_688 (by rw [hL]; unfold vp_in; decide) e1 ?_
  refine xi_aload_nS 3 dL_law_689 rfl ?_
  refine xi_iload_n 0 dL_law_690 rfl ?_
  refine xi_iconst (v := 2) dL_law_691 (by decide) ?_
  refine xi_iadd (v := 2) dL_law_692 (by decide) ?_
  refine xi_sld (v := x2) dL_law_693 (by rw [hL]; unfold vp_in; decide) e2 ?_
  refine xi_callV (as := [.int x1, .int x2]) (rest := [.int (-2)]) dL_law_694 (fm_worst G x1 x2) mkX12_worst w_1340 w_1341 w_1339 rfl rfl rfl rfl rfl (Nat.le_of_ble_eq_true rfl) (Nat.le_of_ble_eq_true rfl) (Nat.le_of_ble_eq_true rfl) (Nat.le_of_ble_eq_true rfl) (Nat.le_of_ble_eq_true rfl) ?_
  intro v M2 hq
  obtain ⟨rfl, rfl⟩ := hq
  show xW _ _ _ _ 697 _ [.int (-2), .int (-2)] (MX 0 (fun _ => 0) rd0 mo0 (fun _ => 0) (fun _ => 0) (fun _ => 0)) _ _
  refine xi_icmp_eq_t (tgt := 1719) dL_law_697 (by decide) (by decide) ?_
  exact law_tail G hL _ _ _ (Nat.le_of_ble_eq_true rfl) (Nat.le_of_ble_eq_true rfl)
set_option maxHeartbeats 4000000 in
set_option maxRecDepth 100000 in
theorem law_14 {nm : String} (G : xG) (hL : G.2.2.2.2.2.2.1 = 6) (x1 x2 x3 x4 x5 : Int32) (e1 : G.2.2.2.2.2.2.2 1 = x1) (e2 : G.2.2.2.2.2.2.2 2 = x2) (e3 : G.2.2.2.2.2.2.2 3 = x3) (e4 : G.2.2.2.2.2.2.2 4 = x4) (e5 : G.2.2.2.2.2.2.2 5 = x5) : xW G (mL nm) room_1 (xLZ G) 702 [(3, .int 0), (2, .ref 149), (1, .ref 0), (0, .float 200)] [] M0 163 36018 := by
  refine xi_aload_n 2 dL_law_702 rfl ?_
  refine xi_aload_nS 3 dL_law_703 rfl ?_
  refine xi_iload_n 0 dL_law_704 rfl ?_
  refine xi_iconst (v := 1) dL_law_705 (by decide) ?_
  refine xi_iadd (v := 1) dL_law_706 (by decide) ?_
  refine xi_sld (v := x1) dL_law_707 (by rw [hL]; unfold vp_in; decide) e1 ?_
  refine xi_callV (as := [.int x1]) (rest := []) dL_law_708 (fx_longest G x1) mkX11_longest w_643 w_644 w_642 rfl rfl rfl rfl rfl (Nat.le_of_ble_eq_true rfl) (Nat.le_of_ble_eq_true rfl) (Nat.le_of_ble_eq_true rfl) (Nat.le_of_ble_eq_true rfl) (Nat.le_of_ble_eq_true rfl) ?_
  intro v M2 hq
  obtain ⟨rfl, rfl⟩ := hq
  show xW _ _ _ _ 711 _ [.int (-2)] (MX 0 (fun _ => 0) rd0 mo0 (fun _ => 0) (fun _ => 0) (fun _ => 0)) _ _
  refine xi_aload_n 1 dL_law_711 rfl ?_
  refine xi_aload_nS 3 dL_law_712 rfl ?_
  refine xi_iload_n 0 dL_law_713 rfl ?_
  refine xi_iconst (v := 1) dL_law_714 (by decide) ?_
  refine xi_iadd (v := 1) dL_law_715 (by decide) ?_
  refine xi_sld (v := x1) dL_law_716 (by rw [hL]; unfold vp_in; decide) e1 ?_
  refine xi_callV (as := [.int x1]) (rest := [.int (-2)]) dL_law_717 (fm_longest G x1) mkX12_longest w_1344 w_1345 w_1343 rfl rfl rfl rfl rfl (Nat.le_of_ble_eq_true rfl) (Nat.le_of_ble_eq_true rfl) (Nat.le_of_ble_eq_true rfl) (Nat.le_of_ble_eq_true rfl) (Nat.le_of_ble_eq_true rfl) ?_
  intro v M2 hq
  obtain ⟨rfl, rfl⟩ := hq
  show xW _ _ _ _ 720 _ [.int (-2), .int (-2)] (MX 0 (fun _ => 0) rd0 mo0 (fun _ => 0) (fun _ => 0) (fun _ => 0)) _ _
  refine xi_icmp_eq_t (tgt := 1719) dL_law_720 (by decide) (by decide) ?_
  exact law_tail G hL _ _ _ (Nat.le_of_ble_eq_true rfl) (Nat.le_of_ble_eq_true rfl)
set_option maxHeartbeats 4000000 in
set_option maxRecDepth 100000 in
theorem law_15 {nm : String} (G : xG) (hL : G.2.2.2.2.2.2.1 = 6) (x1 x2 x3 x4 x5 : Int32) (e1 : G.2.2.2.2.2.2.2 1 = x1) (e2 : G.2.2.2.2.2.2.2 2 = x2) (e3 : G.2.2.2.2.2.2.2 3 = x3) (e4 : G.2.2.2.2.2.2.2 4 = x4) (e5 : G.2.2.2.2.2.2.2 5 = x5) : xW G (mL nm) room_1 (xLZ G) 725 [(3, .int 0), (2, .ref 149), (1, .ref 0), (0, .float 200)] [] M0 163 36018 := by
  refine xi_aload_n 2 dL_law_725 rfl ?_
  refine xi_aload_nS 3 dL_law_726 rfl ?_
  refine xi_iload_n 0 dL_law_727 rfl ?_
  refine xi_iconst (v := 1) dL_law_728 (by decide) ?_
  refine xi_iadd (v := 1) dL_law_729 (by decide) ?_
  refine xi_sld (v := x1) dL_law_730 (by rw [hL]; unfold vp_in; decide) e1 ?_
  refine xi_aload_nS 3 dL_law_731 rfl ?_
  refine xi_iload_n 0 dL_law_732 rfl ?_
  refine xi_iconst (v := 2) dL_law_733 (by decide) ?_
  refine xi_iadd (v := 2) dL_law_734 (by decide) ?_
  refine xi_sld (v := x2) dL_law_735 (by rw [hL]; unfold vp_in; decide) e2 ?_
  refine xi_callV (as := [.int x1, .int x2]) (rest := []) dL_law_736 (fx_least G x1 x2) mkX11_least w_654 w_655 w_653 rfl rfl rfl rfl rfl (Nat.le_of_ble_eq_true rfl) (Nat.le_of_ble_eq_true rfl) (Nat.le_of_ble_eq_true rfl) (Nat.le_of_ble_eq_true rfl) (Nat.le_of_ble_eq_true rfl) ?_
  intro v M2 hq
  obtain ⟨rfl, rfl⟩ := hq
  show xW _ _ _ _ 739 _ [.int (-2)] (MX 0 (fun _ => 0) rd0 mo0 (fun _ => 0) (fun _ => 0) (fun _ => 0)) _ _
  refine xi_aload_n 1 dL_law_739 rfl ?_
  refine xi_aload_nS 3 dL_law_740 rfl ?_
  refine xi_iload_n 0 dL_law_741 rfl ?_
  refine xi_iconst (v := 1) dL_law_742 (by decide) ?_
  refine xi_iadd (v := 1) dL_law_743 (by decide) ?_
  refine xi_sld (v := x1) dL_law_744 (by rw [hL]; unfold vp_in; decide) e1 ?_
  refine xi_aload_nS 3 dL_law_745 rfl ?_
  refine xi_iload_n 0 dL_law_746 rfl ?_
  refine xi_iconst (v := 2) dL_law_747 (by decide) ?_
  refine xi_iadd (v := 2) dL_law_748 (by decide) ?_
  refine xi_sld (v := x2) dL_law_749 (by rw [hL]; unfold vp_in; decide) e2 ?_
  refine xi_callV (as := [.int x1, .int x2]) (rest := [.int (-2)]) dL_law_750 (fm_least G x1 x2) mkX12_least w_1349 w_1350 w_1348 rfl rfl rfl rfl rfl (Nat.le_of_ble_eq_true rfl) (Nat.le_of_ble_eq_true rfl) (Nat.le_of_ble_eq_true rfl) (Nat.le_of_ble_eq_true rfl) (Nat.le_of_ble_eq_true rfl) ?_
  intro v M2 hq
  obtain ⟨rfl, rfl⟩ := hq
  show xW _ _ _ _ 753 _ [.int (-2), .int (-2)] (MX 0 (fun _ => 0) rd0 mo0 (fun _ => 0) (fun _ => 0) (fun _ => 0)) _ _
  refine xi_icmp_eq_t (tgt := 1719) dL_law_753 (by decide) (by decide) ?_
  exact law_tail G hL _ _ _ (Nat.le_of_ble_eq_true rfl) (Nat.le_of_ble_eq_true rfl)
set_option maxHeartbeats 4000000 in
set_option maxRecDepth 100000 in
theorem law_16 {nm : String} (G : xG) (hL : G.2.2.2.2.2.2.1 = 6) (x1 x2 x3 x4 x5 : Int32) (e1 : G.2.2.2.2.2.2.2 1 = x1) (e2 : G.2.2.2.2.2.2.2 2 = x2) (e3 : G.2.2.2.2.2.2.2 3 = x3) (e4 : G.2.2.2.2.2.2.2 4 = x4) (e5 : G.2.2.2.2.2.2.2 5 = x5) : xW G (mL nm) room_1 (xLZ G) 758 [(3, .int 0), (2, .ref 149), (1, .ref 0), (0, .float 200)] [] M0 163 36018 := by
  refine xi_aload_n 2 dL_law_758 rfl ?_
  refine xi_aload_nS 3 dL_law_759 rfl ?_
  refine xi_iload_n 0 dL_law_760 rfl ?_
  refine xi_iconst (v := 1) dL_law_761 (by decide) ?_
  refine xi_iadd (v := 1) dL_law_762 (by decide) ?_
  refine xi_sld (v := x1) dL_law_763 (by rw [hL]; unfold vp_in; decide) e1 ?_
  refine xi_aload_nS 3 dL_law_764 rfl ?_
  refine xi_iload_n 0 dL_law_765 rfl ?_
  refine xi_iconst (v := 2) dL_law_766 (by decide) ?_
  refine xi_iadd (v := 2) dL_law_767 (by decide) ?_
  refine xi_sld (v := x2) dL_law_768 (by rw [hL]; unfold vp_in; decide) e2 ?_
  refine xi_aload_nS 3 dL_law_769 rfl ?_
  refine xi_iload_n 0 dL_law_770 rfl ?_
  refine xi_iconst (v := 3) dL_law_771 (by decide) ?_
  refine xi_iadd (v := 3) dL_law_772 (by decide) ?_
  refine xi_sld (v := x3) dL_law_773 (by rw [hL]; unfold vp_in; decide) e3 ?_
  refine xi_callV (as := [.int x1, .int x2, .int x3]) (rest := []) dL_law_774 (fx_best G x1 x2 x3) mkX11_best w_747 w_748 w_746 rfl rfl rfl rfl rfl (Nat.le_of_ble_eq_true rfl) (Nat.le_of_ble_eq_true rfl) (Nat.le_of_ble_eq_true rfl) (Nat.le_of_ble_eq_true rfl) (Nat.le_of_ble_eq_true rfl) ?_
  intro v M2 hq
  obtain ⟨rfl, rfl⟩ := hq
  show xW _ _ _ _ 777 _ [.int (-2)] (MX 0 (fun _ => 0) rd0 mo0 (fun _ => 0) (fun _ => 0) (fun _ => 0)) _ _
  refine xi_aload_n 1 dL_law_777 rfl ?_
  refine xi_aload_nS 3 dL_law_778 rfl ?_
  refine xi_iload_n 0 dL_law_779 rfl ?_
  refine xi_iconst (v := 1) dL_law_780 (by decide) ?_
  refine xi_iadd (v := 1) dL_law_781 (by decide) ?_
  refine xi_sld (v := x1) dL_law_782 (by rw [hL]; unfold vp_in; decide) e1 ?_
  refine xi_aload_nS 3 dL_law_783 rfl ?_
  refine xi_iload_n 0 dL_law_784 rfl ?_
  refine xi_iconst (v := 2) dL_law_785 (by decide) ?_
  refine xi_iadd (v := 2) dL_law_786 (by decide) ?_
  refine xi_sld (v := x2) dL_law_787 (by rw [hL]; unfold vp_in; decide) e2 ?_
  refine xi_aload_nS 3 dL_law_788 rfl ?_
  refine xi_iload_n 0 dL_law_789 rfl ?_
  refine xi_iconst (v := 3) dL_law_790 (by decide) ?_
  refine xi_iadd (v := 3) dL_law_791 (by decide) ?_
  refine xi_sld (v := x3) dL_law_792 (by rw [hL]; unfold vp_in; decide) e3 ?_
  refine xi_callV (as := [.int x1, .int x2, .int x3]) (rest := [.int (-2)]) dL_law_793 (fm_best G x1 x2 x3) mkX12_best w_1378 w_1379 w_1377 rfl rfl rfl rfl rfl (Nat.le_of_ble_eq_true rfl) (Nat.le_of_ble_eq_true rfl) (Nat.le_of_ble_eq_true rfl) (Nat.le_of_ble_eq_true rfl) (Nat.le_of_ble_eq_true rfl) ?_
  intro v M2 hq
  obtain ⟨rfl, rfl⟩ := hq
  show xW _ _ _ _ 796 _ [.int (-2), .int (-2)] (MX 0 (fun _ => 0) rd0 mo0 (fun _ => 0) (fun _ => 0) (fun _ => 0)) _ _
  refine xi_icmp_eq_t (tgt := 1719) dL_law_796 (by decide) (by decide) ?_
  exact law_tail G hL _ _ _ (Nat.le_of_ble_eq_true rfl) (Nat.le_of_ble_eq_true rfl)
set_option maxHeartbeats 4000000 in
set_option maxRecDepth 100000 in
theorem law_17 {nm : String} (G : xG) (hL : G.2.2.2.2.2.2.1 = 6) (x1 x2 x3 x4 x5 : Int32) (e1 : G.2.2.2.2.2.2.2 1 = x1) (e2 : G.2.2.2.2.2.2.2 2 = x2) (e3 : G.2.2.2.2.2.2.2 3 = x3) (e4 : G.2.2.2.2.2.2.2 4 = x4) (e5 : G.2.2.2.2.2.2.2 5 = x5) : xW G (mL nm) room_1 (xLZ G) 801 [(3, .int 0), (2, .ref 149), (1, .ref 0), (0, .float 200)] [] M0 163 36018 := by
  refine xi_aload_n 2 dL_law_801 rfl ?_
  refine xi_aload_nS 3 dL_law_802 rfl ?_
  refine xi_iload_n 0 dL_law_803 rfl ?_
  refine xi_iconst (v := 1) dL_law_804 (by decide) ?_
  refine xi_iadd (v := 1) dL_law_805 (by decide) ?_
  refine xi_sld (v := x1) dL_law_806 (by rw [hL]; unfold vp_in; decide) e1 ?_
  refine xi_aload_nS 3 dL_law_807 rfl ?_
  refine xi_iload_n 0 dL_law_808 rfl ?_
  refine xi_iconst (v := 2) dL_law_809 (by decide) ?_
  refine xi_iadd (v := 2) dL_law_810 (by decide) ?_
  refine xi_sld (v := x2) dL_law_811 (by rw [hL]; unfold vp_in; decide) e2 ?_
  refine xi_callV (as := [.int x1, .int x2]) (rest := []) dL_law_812 (fx_ways G x1 x2) mkX11_ways w_751 w_752 w_750 rfl rfl rfl rfl rfl (Nat.le_of_ble_eq_true rfl) (Nat.le_of_ble_eq_true rfl) (Nat.le_of_ble_eq_true rfl) (Nat.le_of_ble_eq_true rfl) (Nat.le_of_ble_eq_true rfl) ?_
  intro v M2 hq
  obtain ⟨rfl, rfl⟩ := hq
  show xW _ _ _ _ 815 _ [.int (-2)] (MX 0 (fun _ => 0) rd0 mo0 (fun _ => 0) (fun _ => 0) (fun _ => 0)) _ _
  refine xi_aload_n 1 dL_law_815 rfl ?_
  refine xi_aload_nS 3 dL_law_816 rfl ?_
  refine xi_iload_n 0 dL_law_817 rfl ?_
  refine xi_iconst (v := 1) dL_law_818 (by decide) ?_
  refine xi_iadd (v := 1) dL_law_819 (by decide) ?_
  refine xi_sld (v := x1) dL_law_820 (by rw [hL]; unfold vp_in; decide) e1 ?_
  refine xi_aload_nS 3 dL_law_821 rfl ?_
  refine xi_iload_n 0 dL_law_822 rfl ?_
  refine xi_iconst (v := 2) dL_law_823 (by decide) ?_
  refine xi_iadd (v := 2) dL_law_824 (by decide) ?_
  refine xi_sld (v := x2) dL_law_825 (by rw [hL]; unfold vp_in; decide) e2 ?_
  refine xi_callV (as := [.int x1, .int x2]) (rest := [.int (-2)]) dL_law_826 (fm_ways G x1 x2) mkX12_ways w_1390 w_1391 w_1389 rfl rfl rfl rfl rfl (Nat.le_of_ble_eq_true rfl) (Nat.le_of_ble_eq_true rfl) (Nat.le_of_ble_eq_true rfl) (Nat.le_of_ble_eq_true rfl) (Nat.le_of_ble_eq_true rfl) ?_
  intro v M2 hq
  obtain ⟨rfl, rfl⟩ := hq
  show xW _ _ _ _ 829 _ [.int (-2), .int (-2)] (MX 0 (fun _ => 0) rd0 mo0 (fun _ => 0) (fun _ => 0) (fun _ => 0)) _ _
  refine xi_icmp_eq_t (tgt := 1719) dL_law_829 (by decide) (by decide) ?_
  exact law_tail G hL _ _ _ (Nat.le_of_ble_eq_true rfl) (Nat.le_of_ble_eq_true rfl)
set_option maxHeartbeats 4000000 in
set_option maxRecDepth 100000 in
theorem law_18 {nm : String} (G : xG) (hL : G.2.2.2.2.2.2.1 = 6) (x1 x2 x3 x4 x5 : Int32) (e1 : G.2.2.2.2.2.2.2 1 = x1) (e2 : G.2.2.2.2.2.2.2 2 = x2) (e3 : G.2.2.2.2.2.2.2 3 = x3) (e4 : G.2.2.2.2.2.2.2 4 = x4) (e5 : G.2.2.2.2.2.2.2 5 = x5) : xW G (mL nm) room_1 (xLZ G) 834 [(3, .int 0), (2, .ref 149), (1, .ref 0), (0, .float 200)] [] M0 163 36018 := by
  refine xi_aload_n 2 dL_law_834 rfl ?_
  refine xi_aload_nS 3 dL_law_835 rfl ?_
  refine xi_iload_n 0 dL_law_836 rfl ?_
  refine xi_iconst (v := 1) dL_law_837 (by decide) ?_
  refine xi_iadd (v := 1) dL_law_838 (by decide) ?_
  refine xi_sld (v := x1) dL_law_839 (by rw [hL]; unfold vp_in; decide) e1 ?_
  refine xi_aload_nS 3 dL_law_840 rfl ?_
  refine xi_iload_n 0 dL_law_841 rfl ?_
  refine xi_iconst (v := 2) dL_law_842 (by decide) ?_
  refine xi_iadd (v := 2) dL_law_843 (by decide) ?_
  refine xi_sld (v := x2) dL_law_844 (by rw [hL]; unfold vp_in; decide) e2 ?_
  refine xi_aload_nS 3 dL_law_845 rfl ?_
  refine xi_iload_n 0 dL_law_846 rfl ?_
  refine xi_iconst (v := 3) dL_law_847 (by decide) ?_
  refine xi_iadd (v := 3) dL_law_848 (by decide) ?_
  refine xi_sld (v := x3) dL_law_849 (by rw [hL]; unfold vp_in; decide) e3 ?_
  refine xi_callV (as := [.int x1, .int x2, .int x3]) (rest := []) dL_law_850 (fx_within G x1 x2 x3) mkX11_within w_755 w_756 w_754 rfl rfl rfl rfl rfl (Nat.le_of_ble_eq_true rfl) (Nat.le_of_ble_eq_true rfl) (Nat.le_of_ble_eq_true rfl) (Nat.le_of_ble_eq_true rfl) (Nat.le_of_ble_eq_true rfl) ?_
  intro v M2 hq
  obtain ⟨rfl, rfl⟩ := hq
  show xW _ _ _ _ 853 _ [.int (-2)] (MX 0 (fun _ => 0) rd0 mo0 (fun _ => 0) (fun _ => 0) (fun _ => 0)) _ _
  refine xi_aload_n 1 dL_law_853 rfl ?_
  refine xi_aload_nS 3 dL_law_854 rfl ?_
  refine xi_iload_n 0 dL_law_855 rfl ?_
  refine xi_iconst (v := 1) dL_law_856 (by decide) ?_
  refine xi_iadd (v := 1) dL_law_857 (by decide) ?_
  refine xi_sld (v := x1) dL_law_858 (by rw [hL]; unfold vp_in; decide) e1 ?_
  refine xi_aload_nS 3 dL_law_859 rfl ?_
  refine xi_iload_n 0 dL_law_860 rfl ?_
  refine xi_iconst (v := 2) dL_law_861 (by decide) ?_
  refine xi_iadd (v := 2) dL_law_862 (by decide) ?_
  refine xi_sld (v := x2) dL_law_863 (by rw [hL]; unfold vp_in; decide) e2 ?_
  refine xi_aload_nS 3 dL_law_864 rfl ?_
  refine xi_iload_n 0 dL_law_865 rfl ?_
  refine xi_iconst (v := 3) dL_law_866 (by decide) ?_
  refine xi_iadd (v := 3) dL_law_867 (by decide) ?_
  refine xi_sld (v := x3) dL_law_868 (by rw [hL]; unfold vp_in; decide) e3 ?_
  refine xi_callV (as := [.int x1, .int x2, .int x3]) (rest := [.int (-2)]) dL_law_869 (fm_within G x1 x2 x3) mkX12_within w_1402 w_1403 w_1401 rfl rfl rfl rfl rfl (Nat.le_of_ble_eq_true rfl) (Nat.le_of_ble_eq_true rfl) (Nat.le_of_ble_eq_true rfl) (Nat.le_of_ble_eq_true rfl) (Nat.le_of_ble_eq_true rfl) ?_
  intro v M2 hq
  obtain ⟨rfl, rfl⟩ := hq
  show xW _ _ _ _ 872 _ [.int (-2), .int (-2)] (MX 0 (fun _ => 0) rd0 mo0 (fun _ => 0) (fun _ => 0) (fun _ => 0)) _ _
  refine xi_icmp_eq_t (tgt := 1719) dL_law_872 (by decide) (by decide) ?_
  exact law_tail G hL _ _ _ (Nat.le_of_ble_eq_true rfl) (Nat.le_of_ble_eq_true rfl)
set_option maxHeartbeats 4000000 in
set_option maxRecDepth 100000 in
theorem law_19 {nm : String} (G : xG) (hL : G.2.2.2.2.2.2.1 = 6) (x1 x2 x3 x4 x5 : Int32) (e1 : G.2.2.2.2.2.2.2 1 = x1) (e2 : G.2.2.2.2.2.2.2 2 = x2) (e3 : G.2.2.2.2.2.2.2 3 = x3) (e4 : G.2.2.2.2.2.2.2 4 = x4) (e5 : G.2.2.2.2.2.2.2 5 = x5) : xW G (mL nm) room_1 (xLZ G) 877 [(3, .int 0), (2, .ref 149), (1, .ref 0), (0, .float 200)] [] M0 163 36018 := by
  refine xi_aload_n 2 dL_law_877 rfl ?_
  refine xi_aload_nS 3 dL_law_878 rfl ?_
  refine xi_iload_n 0 dL_law_879 rfl ?_
  refine xi_iconst (v := 1) dL_law_880 (by decide) ?_
  refine xi_iadd (v := 1) dL_law_881 (by decide) ?_
  refine xi_sld (v := x1) dL_law_882 (by rw [hL]; unfold vp_in; decide) e1 ?_
  refine xi_aload_nS 3 dL_law_883 rfl ?_
  refine xi_iload_n 0 dL_law_884 rfl ?_
  refine xi_iconst (v := 2) dL_law_885 (by decide) ?_
  refine xi_iadd (v := 2) dL_law_886 (by decide) ?_
  refine xi_sld (v := x2) dL_law_887 (by rw [hL]; unfold vp_in; decide) e2 ?_
  refine xi_callV (as := [.int x1, .int x2]) (rest := []) dL_law_888 (fx_firsts G x1 x2) mkX11_firsts w_770 w_771 w_769 rfl rfl rfl rfl rfl (Nat.le_of_ble_eq_true rfl) (Nat.le_of_ble_eq_true rfl) (Nat.le_of_ble_eq_true rfl) (Nat.le_of_ble_eq_true rfl) (Nat.le_of_ble_eq_true rfl) ?_
  intro v M2 hq
  obtain ⟨rfl, rfl⟩ := hq
  show xW _ _ _ _ 891 _ [.int (-2)] (MX 0 (fun _ => 0) rd0 mo0 (fun _ => 0) (fun _ => 0) (fun _ => 0)) _ _
  refine xi_aload_n 1 dL_law_891 rfl ?_
  refine xi_aload_nS 3 dL_law_892 rfl ?_
  refine xi_iload_n 0 dL_law_893 rfl ?_
  refine xi_iconst (v := 1) dL_law_894 (by decide) ?_
  refine xi_iadd (v := 1) dL_law_895 (by decide) ?_
  refine xi_sld (v := x1) dL_law_896 (by rw [hL]; unfold vp_in; decide) e1 ?_
  refine xi_aload_nS 3 dL_law_897 rfl ?_
  refine xi_iload_n 0 dL_law_898 rfl ?_
  refine xi_iconst (v := 2) dL_law_899 (by decide) ?_
  refine xi_iadd (v := 2) dL_law_900 (by decide) ?_
  refine xi_sld (v := x2) dL_law_901 (by rw [hL]; unfold vp_in; decide) e2 ?_
  refine xi_callV (as := [.int x1, .int x2]) (rest := [.int (-2)]) dL_law_902 (fm_firsts G x1 x2) mkX12_firsts w_1407 w_1408 w_1406 rfl rfl rfl rfl rfl (Nat.le_of_ble_eq_true rfl) (Nat.le_of_ble_eq_true rfl) (Nat.le_of_ble_eq_true rfl) (Nat.le_of_ble_eq_true rfl) (Nat.le_of_ble_eq_true rfl) ?_
  intro v M2 hq
  obtain ⟨rfl, rfl⟩ := hq
  show xW _ _ _ _ 905 _ [.int (-2), .int (-2)] (MX 0 (fun _ => 0) rd0 mo0 (fun _ => 0) (fun _ => 0) (fun _ => 0)) _ _
  refine xi_icmp_eq_t (tgt := 1719) dL_law_905 (by decide) (by decide) ?_
  exact law_tail G hL _ _ _ (Nat.le_of_ble_eq_true rfl) (Nat.le_of_ble_eq_true rfl)
set_option maxHeartbeats 4000000 in
set_option maxRecDepth 100000 in
theorem law_20 {nm : String} (G : xG) (hL : G.2.2.2.2.2.2.1 = 6) (x1 x2 x3 x4 x5 : Int32) (e1 : G.2.2.2.2.2.2.2 1 = x1) (e2 : G.2.2.2.2.2.2.2 2 = x2) (e3 : G.2.2.2.2.2.2.2 3 = x3) (e4 : G.2.2.2.2.2.2.2 4 = x4) (e5 : G.2.2.2.2.2.2.2 5 = x5) : xW G (mL nm) room_1 (xLZ G) 910 [(3, .int 0), (2, .ref 149), (1, .ref 0), (0, .float 200)] [] M0 163 36018 := by
  refine xi_aload_n 2 dL_law_910 rfl ?_
  refine xi_aload_nS 3 dL_law_911 rfl ?_
  refine xi_iload_n 0 dL_law_912 rfl ?_
  refine xi_iconst (v := 1) dL_law_913 (by decide) ?_
  refine xi_iadd (v := 1) dL_law_914 (by decide) ?_
  refine xi_sld (v := x1) dL_law_915 (by rw [hL]; unfold vp_in; decide) e1 ?_
  refine xi_aload_nS 3 dL_law_916 rfl ?_
  refine xi_iload_n 0 dL_law_917 rfl ?_
  refine xi_iconst (v := 2) dL_law_918 (by decide) ?_
  refine xi_iadd (v := 2) dL_law_919 (by decide) ?_
  refine xi_sld (v := x2) dL_law_920 (by rw [hL]; unfold vp_in; decide) e2 ?_
  refine xi_aload_nS 3 dL_law_921 rfl ?_
  refine xi_iload_n 0 dL_law_922 rfl ?_
  refine xi_iconst (v := 3) dL_law_923 (by decide) ?_
  refine xi_iadd (v := 3) dL_law_924 (by decide) ?_
  refine xi_sld (v := x3) dL_law_925 (by rw [hL]; unfold vp_in; decide) e3 ?_
  refine xi_callV (as := [.int x1, .int x2, .int x3]) (rest := []) dL_law_926 (fx_bound G x1 x2 x3) mkX11_bound w_774 w_775 w_773 rfl rfl rfl rfl rfl (Nat.le_of_ble_eq_true rfl) (Nat.le_of_ble_eq_true rfl) (Nat.le_of_ble_eq_true rfl) (Nat.le_of_ble_eq_true rfl) (Nat.le_of_ble_eq_true rfl) ?_
  intro v M2 hq
  obtain ⟨rfl, rfl⟩ := hq
  show xW _ _ _ _ 929 _ [.int (-2)] (MX 0 (fun _ => 0) rd0 mo0 (fun _ => 0) (fun _ => 0) (fun _ => 0)) _ _
  refine xi_aload_n 1 dL_law_929 rfl ?_
  refine xi_aload_nS 3 dL_law_930 rfl ?_
  refine xi_iload_n 0 dL_law_931 rfl ?_
  refine xi_iconst (v := 1) dL_law_932 (by decide) ?_
  refine xi_iadd (v := 1) dL_law_933 (by decide) ?_
  refine xi_sld (v := x1) dL_law_934 (by rw [hL]; unfold vp_in; decide) e1 ?_
  refine xi_aload_nS 3 dL_law_935 rfl ?_
  refine xi_iload_n 0 dL_law_936 rfl ?_
  refine xi_iconst (v := 2) dL_law_937 (by decide) ?_
  refine xi_iadd (v := 2) dL_law_938 (by decide) ?_
  refine xi_sld (v := x2) dL_law_939 (by rw [hL]; unfold vp_in; decide) e2 ?_
  refine xi_aload_nS 3 dL_law_940 rfl ?_
  refine xi_iload_n 0 dL_law_941 rfl ?_
  refine xi_iconst (v := 3) dL_law_942 (by decide) ?_
  refine xi_iadd (v := 3) dL_law_943 (by decide) ?_
  refine xi_sld (v := x3) dL_law_944 (by rw [hL]; unfold vp_in; decide) e3 ?_
  refine xi_callV (as := [.int x1, .int x2, .int x3]) (rest := [.int (-2)]) dL_law_945 (fm_bound G x1 x2 x3) mkX12_bound w_1415 w_1416 w_1414 rfl rfl rfl rfl rfl (Nat.le_of_ble_eq_true rfl) (Nat.le_of_ble_eq_true rfl) (Nat.le_of_ble_eq_true rfl) (Nat.le_of_ble_eq_true rfl) (Nat.le_of_ble_eq_true rfl) ?_
  intro v M2 hq
  obtain ⟨rfl, rfl⟩ := hq
  show xW _ _ _ _ 948 _ [.int (-2), .int (-2)] (MX 0 (fun _ => 0) rd0 mo0 (fun _ => 0) (fun _ => 0) (fun _ => 0)) _ _
  refine xi_icmp_eq_t (tgt := 1719) dL_law_948 (by decide) (by decide) ?_
  exact law_tail G hL _ _ _ (Nat.le_of_ble_eq_true rfl) (Nat.le_of_ble_eq_true rfl)
set_option maxHeartbeats 4000000 in
set_option maxRecDepth 100000 in
theorem law_21 {nm : String} (G : xG) (hL : G.2.2.2.2.2.2.1 = 6) (x1 x2 x3 x4 x5 : Int32) (e1 : G.2.2.2.2.2.2.2 1 = x1) (e2 : G.2.2.2.2.2.2.2 2 = x2) (e3 : G.2.2.2.2.2.2.2 3 = x3) (e4 : G.2.2.2.2.2.2.2 4 = x4) (e5 : G.2.2.2.2.2.2.2 5 = x5) : xW G (mL nm) room_1 (xLZ G) 953 [(3, .int 0), (2, .ref 149), (1, .ref 0), (0, .float 200)] [] M0 163 36018 := by
  refine xi_aload_n 2 dL_law_953 rfl ?_
  refine xi_aload_nS 3 dL_law_954 rfl ?_
  refine xi_iload_n 0 dL_law_955 rfl ?_
  refine xi_iconst (v := 1) dL_law_956 (by decide) ?_
  refine xi_iadd (v := 1) dL_law_957 (by decide) ?_
  refine xi_sld (v := x1) dL_law_958 (by rw [hL]; unfold vp_in; decide) e1 ?_
  refine xi_callV (as := [.int x1]) (rest := []) dL_law_959 (fx_minor G x1) mkX11_minor w_789 w_790 w_788 rfl rfl rfl rfl rfl (Nat.le_of_ble_eq_true rfl) (Nat.le_of_ble_eq_true rfl) (Nat.le_of_ble_eq_true rfl) (Nat.le_of_ble_eq_true rfl) (Nat.le_of_ble_eq_true rfl) ?_
  intro v M2 hq
  obtain ⟨rfl, rfl⟩ := hq
  show xW _ _ _ _ 962 _ [.int (-2)] (MX 0 (fun _ => 0) rd0 mo0 (fun _ => 0) (fun _ => 0) (fun _ => 0)) _ _
  refine xi_aload_n 1 dL_law_962 rfl ?_
  refine xi_aload_nS 3 dL_law_963 rfl ?_
  refine xi_iload_n 0 dL_law_964 rfl ?_
  refine xi_iconst (v := 1) dL_law_965 (by decide) ?_
  refine xi_iadd (v := 1) dL_law_966 (by decide) ?_
  refine xi_sld (v := x1) dL_law_967 (by rw [hL]; unfold vp_in; decide) e1 ?_
  refine xi_callV (as := [.int x1]) (rest := [.int (-2)]) dL_law_968 (fm_minor G x1) mkX12_minor w_1423 w_1424 w_1422 rfl rfl rfl rfl rfl (Nat.le_of_ble_eq_true rfl) (Nat.le_of_ble_eq_true rfl) (Nat.le_of_ble_eq_true rfl) (Nat.le_of_ble_eq_true rfl) (Nat.le_of_ble_eq_true rfl) ?_
  intro v M2 hq
  obtain ⟨rfl, rfl⟩ := hq
  show xW _ _ _ _ 971 _ [.int (-2), .int (-2)] (MX 0 (fun _ => 0) rd0 mo0 (fun _ => 0) (fun _ => 0) (fun _ => 0)) _ _
  refine xi_icmp_eq_t (tgt := 1719) dL_law_971 (by decide) (by decide) ?_
  exact law_tail G hL _ _ _ (Nat.le_of_ble_eq_true rfl) (Nat.le_of_ble_eq_true rfl)
set_option maxHeartbeats 4000000 in
set_option maxRecDepth 100000 in
theorem law_22 {nm : String} (G : xG) (hL : G.2.2.2.2.2.2.1 = 6) (x1 x2 x3 x4 x5 : Int32) (e1 : G.2.2.2.2.2.2.2 1 = x1) (e2 : G.2.2.2.2.2.2.2 2 = x2) (e3 : G.2.2.2.2.2.2.2 3 = x3) (e4 : G.2.2.2.2.2.2.2 4 = x4) (e5 : G.2.2.2.2.2.2.2 5 = x5) : xW G (mL nm) room_1 (xLZ G) 976 [(3, .int 0), (2, .ref 149), (1, .ref 0), (0, .float 200)] [] M0 163 36018 := by
  refine xi_aload_n 2 dL_law_976 rfl ?_
  refine xi_aload_nS 3 dL_law_977 rfl ?_
  refine xi_iload_n 0 dL_law_978 rfl ?_
  refine xi_iconst (v := 1) dL_law_979 (by decide) ?_
  refine xi_iadd (v := 1) dL_law_980 (by decide) ?_
  refine xi_sld (v := x1) dL_law_981 (by rw [hL]; unfold vp_in; decide) e1 ?_
  refine xi_aload_nS 3 dL_law_982 rfl ?_
  refine xi_iload_n 0 dL_law_983 rfl ?_
  refine xi_iconst (v := 2) dL_law_984 (by decide) ?_
  refine xi_iadd (v := 2) dL_law_985 (by decide) ?_
  refine xi_sld (v := x2) dL_law_986 (by rw [hL]; unfold vp_in; decide) e2 ?_
  refine xi_aload_nS 3 dL_law_987 rfl ?_
  refine xi_iload_n 0 dL_law_988 rfl ?_
  refine xi_iconst (v := 3) dL_law_989 (by decide) ?_
  refine xi_iadd (v := 3) dL_law_990 (by decide) ?_
  refine xi_sld (v := x3) dL_law_991 (by rw [hL]; unfold vp_in; decide) e3 ?_
  refine xi_callV (as := [.int x1, .int x2, .int x3]) (rest := []) dL_law_992 (fx_among G x1 x2 x3) mkX11_among w_812 w_813 w_811 rfl rfl rfl rfl rfl (Nat.le_of_ble_eq_true rfl) (Nat.le_of_ble_eq_true rfl) (Nat.le_of_ble_eq_true rfl) (Nat.le_of_ble_eq_true rfl) (Nat.le_of_ble_eq_true rfl) ?_
  intro v M2 hq
  obtain ⟨rfl, rfl⟩ := hq
  show xW _ _ _ _ 995 _ [.int (-2)] (MX 0 (fun _ => 0) rd0 mo0 (fun _ => 0) (fun _ => 0) (fun _ => 0)) _ _
  refine xi_aload_n 1 dL_law_995 rfl ?_
  refine xi_aload_nS 3 dL_law_996 rfl ?_
  refine xi_iload_n 0 dL_law_997 rfl ?_
  refine xi_iconst (v := 1) dL_law_998 (by decide) ?_
  refine xi_iadd (v := 1) dL_law_999 (by decide) ?_
  refine xi_sld (v := x1) dL_law_1000 (by rw [hL]; unfold vp_in; decide) e1 ?_
  refine xi_aload_nS 3 dL_law_1001 rfl ?_
  refine xi_iload_n 0 dL_law_1002 rfl ?_
  refine xi_iconst (v := 2) dL_law_1003 (by decide) ?_
  refine xi_iadd (v := 2) dL_law_1004 (by decide) ?_
  refine xi_sld (v := x2) dL_law_1005 (by rw [hL]; unfold vp_in; decide) e2 ?_
  refine xi_aload_nS 3 dL_law_1006 rfl ?_
  refine xi_iload_n 0 dL_law_1007 rfl ?_
  refine xi_iconst (v := 3) dL_law_1008 (by decide) ?_
  refine xi_iadd (v := 3) dL_law_1009 (by decide) ?_
  refine xi_sld (v := x3) dL_law_1010 (by rw [hL]; unfold vp_in; decide) e3 ?_
  refine xi_callV (as := [.int x1, .int x2, .int x3]) (rest := [.int (-2)]) dL_law_1011 (fm_among G x1 x2 x3) mkX12_among w_1411 w_1412 w_1410 rfl rfl rfl rfl rfl (Nat.le_of_ble_eq_true rfl) (Nat.le_of_ble_eq_true rfl) (Nat.le_of_ble_eq_true rfl) (Nat.le_of_ble_eq_true rfl) (Nat.le_of_ble_eq_true rfl) ?_
  intro v M2 hq
  obtain ⟨rfl, rfl⟩ := hq
  show xW _ _ _ _ 1014 _ [.int (-2), .int (-2)] (MX 0 (fun _ => 0) rd0 mo0 (fun _ => 0) (fun _ => 0) (fun _ => 0)) _ _
  refine xi_icmp_eq_t (tgt := 1719) dL_law_1014 (by decide) (by decide) ?_
  exact law_tail G hL _ _ _ (Nat.le_of_ble_eq_true rfl) (Nat.le_of_ble_eq_true rfl)
set_option maxHeartbeats 4000000 in
set_option maxRecDepth 100000 in
theorem law_23 {nm : String} (G : xG) (hL : G.2.2.2.2.2.2.1 = 6) (x1 x2 x3 x4 x5 : Int32) (e1 : G.2.2.2.2.2.2.2 1 = x1) (e2 : G.2.2.2.2.2.2.2 2 = x2) (e3 : G.2.2.2.2.2.2.2 3 = x3) (e4 : G.2.2.2.2.2.2.2 4 = x4) (e5 : G.2.2.2.2.2.2.2 5 = x5) : xW G (mL nm) room_1 (xLZ G) 1019 [(3, .int 0), (2, .ref 149), (1, .ref 0), (0, .float 200)] [] M0 163 36018 := by
  refine xi_aload_n 2 dL_law_1019 rfl ?_
  refine xi_aload_nS 3 dL_law_1020 rfl ?_
  refine xi_iload_n 0 dL_law_1021 rfl ?_
  refine xi_iconst (v := 1) dL_law_1022 (by decide) ?_
  refine xi_iadd (v := 1) dL_law_1023 (by decide) ?_
  refine xi_sld (v := x1) dL_law_1024 (by rw [hL]; unfold vp_in; decide) e1 ?_
  refine xi_aload_nS 3 dL_law_1025 rfl ?_
  refine xi_iload_n 0 dL_law_1026 rfl ?_
  refine xi_iconst (v := 2) dL_law_1027 (by decide) ?_
  refine xi_iadd (v := 2) dL_law_1028 (by decide) ?_
  refine xi_sld (v := x2) dL_law_1029 (by rw [hL]; unfold vp_in; decide) e2 ?_
  refine xi_aload_nS 3 dL_law_1030 rfl ?_
  refine xi_iload_n 0 dL_law_1031 rfl ?_
  refine xi_iconst (v := 3) dL_law_1032 (by decide) ?_
  refine xi_iadd (v := 3) dL_law_1033 (by decide) ?_
  refine xi_sld (v := x3) dL_law_1034 (by rw [hL]; unfold vp_in; decide) e3 ?_
  refine xi_callV (as := [.int x1, .int x2, .int x3]) (rest := []) dL_law_1035 (fx_split G x1 x2 x3) mkX11_split w_820 w_821 w_819 rfl rfl rfl rfl rfl (Nat.le_of_ble_eq_true rfl) (Nat.le_of_ble_eq_true rfl) (Nat.le_of_ble_eq_true rfl) (Nat.le_of_ble_eq_true rfl) (Nat.le_of_ble_eq_true rfl) ?_
  intro v M2 hq
  obtain ⟨rfl, rfl⟩ := hq
  show xW _ _ _ _ 1038 _ [.int (-2)] (MX 0 (fun _ => 0) rd0 mo0 (fun _ => 0) (fun _ => 0) (fun _ => 0)) _ _
  refine xi_aload_n 1 dL_law_1038 rfl ?_
  refine xi_aload_nS 3 dL_law_1039 rfl ?_
  refine xi_iload_n 0 dL_law_1040 rfl ?_
  refine xi_iconst (v := 1) dL_law_1041 (by decide) ?_
  refine xi_iadd (v := 1) dL_law_1042 (by decide) ?_
  refine xi_sld (v := x1) dL_law_1043 (by rw [hL]; unfold vp_in; decide) e1 ?_
  refine xi_aload_nS 3 dL_law_1044 rfl ?_
  refine xi_iload_n 0 dL_law_1045 rfl ?_
  refine xi_iconst (v := 2) dL_law_1046 (by decide) ?_
  refine xi_iadd (v := 2) dL_law_1047 (by decide) ?_
  refine xi_sld (v := x2) dL_law_1048 (by rw [hL]; unfold vp_in; decide) e2 ?_
  refine xi_aload_nS 3 dL_law_1049 rfl ?_
  refine xi_iload_n 0 dL_law_1050 rfl ?_
  refine xi_iconst (v := 3) dL_law_1051 (by decide) ?_
  refine xi_iadd (v := 3) dL_law_1052 (by decide) ?_
  refine xi_sld (v := x3) dL_law_1053 (by rw [hL]; unfold vp_in; decide) e3 ?_
  refine xi_callV (as := [.int x1, .int x2, .int x3]) (rest := [.int (-2)]) dL_law_1054 (fm_split G x1 x2 x3) mkX12_split w_1431 w_1432 w_1430 rfl rfl rfl rfl rfl (Nat.le_of_ble_eq_true rfl) (Nat.le_of_ble_eq_true rfl) (Nat.le_of_ble_eq_true rfl) (Nat.le_of_ble_eq_true rfl) (Nat.le_of_ble_eq_true rfl) ?_
  intro v M2 hq
  obtain ⟨rfl, rfl⟩ := hq
  show xW _ _ _ _ 1057 _ [.int (-2), .int (-2)] (MX 0 (fun _ => 0) rd0 mo0 (fun _ => 0) (fun _ => 0) (fun _ => 0)) _ _
  refine xi_icmp_eq_t (tgt := 1719) dL_law_1057 (by decide) (by decide) ?_
  exact law_tail G hL _ _ _ (Nat.le_of_ble_eq_true rfl) (Nat.le_of_ble_eq_true rfl)
set_option maxHeartbeats 4000000 in
set_option maxRecDepth 100000 in
theorem law_24 {nm : String} (G : xG) (hL : G.2.2.2.2.2.2.1 = 6) (x1 x2 x3 x4 x5 : Int32) (e1 : G.2.2.2.2.2.2.2 1 = x1) (e2 : G.2.2.2.2.2.2.2 2 = x2) (e3 : G.2.2.2.2.2.2.2 3 = x3) (e4 : G.2.2.2.2.2.2.2 4 = x4) (e5 : G.2.2.2.2.2.2.2 5 = x5) : xW G (mL nm) room_1 (xLZ G) 1062 [(3, .int 0), (2, .ref 149), (1, .ref 0), (0, .float 200)] [] M0 163 36018 := by
  refine xi_aload_n 2 dL_law_1062 rfl ?_
  refine xi_aload_nS 3 dL_law_1063 rfl ?_
  refine xi_iload_n 0 dL_law_1064 rfl ?_
  refine xi_iconst (v := 1) dL_law_1065 (by decide) ?_
  refine xi_iadd (v := 1) dL_law_1066 (by decide) ?_
  refine xi_sld (v := x1) dL_law_1067 (by rw [hL]; unfold vp_in; decide) e1 ?_
  refine xi_callV (as := [.int x1]) (rest := []) dL_law_1068 (fx_halve G x1) mkX11_halve w_828 w_829 w_827 rfl rfl rfl rfl rfl (Nat.le_of_ble_eq_true rfl) (Nat.le_of_ble_eq_true rfl) (Nat.le_of_ble_eq_true rfl) (Nat.le_of_ble_eq_true rfl) (Nat.le_of_ble_eq_true rfl) ?_
  intro v M2 hq
  obtain ⟨rfl, rfl⟩ := hq
  show xW _ _ _ _ 1071 _ [.int (-2)] (MX 0 (fun _ => 0) rd0 mo0 (fun _ => 0) (fun _ => 0) (fun _ => 0)) _ _
  refine xi_aload_n 1 dL_law_1071 rfl ?_
  refine xi_aload_nS 3 dL_law_1072 rfl ?_
  refine xi_iload_n 0 dL_law_1073 rfl ?_
  refine xi_iconst (v := 1) dL_law_1074 (by decide) ?_
  refine xi_iadd (v := 1) dL_law_1075 (by decide) ?_
  refine xi_sld (v := x1) dL_law_1076 (by rw [hL]; unfold vp_in; decide) e1 ?_
  refine xi_callV (as := [.int x1]) (rest := [.int (-2)]) dL_law_1077 (fm_halve G x1) mkX12_halve w_1435 w_1436 w_1434 rfl rfl rfl rfl rfl (Nat.le_of_ble_eq_true rfl) (Nat.le_of_ble_eq_true rfl) (Nat.le_of_ble_eq_true rfl) (Nat.le_of_ble_eq_true rfl) (Nat.le_of_ble_eq_true rfl) ?_
  intro v M2 hq
  obtain ⟨rfl, rfl⟩ := hq
  show xW _ _ _ _ 1080 _ [.int (-2), .int (-2)] (MX 0 (fun _ => 0) rd0 mo0 (fun _ => 0) (fun _ => 0) (fun _ => 0)) _ _
  refine xi_icmp_eq_t (tgt := 1719) dL_law_1080 (by decide) (by decide) ?_
  exact law_tail G hL _ _ _ (Nat.le_of_ble_eq_true rfl) (Nat.le_of_ble_eq_true rfl)
set_option maxHeartbeats 4000000 in
set_option maxRecDepth 100000 in
theorem law_25 {nm : String} (G : xG) (hL : G.2.2.2.2.2.2.1 = 6) (x1 x2 x3 x4 x5 : Int32) (e1 : G.2.2.2.2.2.2.2 1 = x1) (e2 : G.2.2.2.2.2.2.2 2 = x2) (e3 : G.2.2.2.2.2.2.2 3 = x3) (e4 : G.2.2.2.2.2.2.2 4 = x4) (e5 : G.2.2.2.2.2.2.2 5 = x5) : xW G (mL nm) room_1 (xLZ G) 1085 [(3, .int 0), (2, .ref 149), (1, .ref 0), (0, .float 200)] [] M0 163 36018 := by
  refine xi_aload_n 2 dL_law_1085 rfl ?_
  refine xi_aload_nS 3 dL_law_1086 rfl ?_
  refine xi_iload_n 0 dL_law_1087 rfl ?_
  refine xi_iconst (v := 1) dL_law_1088 (by decide) ?_
  refine xi_iadd (v := 1) dL_law_1089 (by decide) ?_
  refine xi_sld (v := x1) dL_law_1090 (by rw [hL]; unfold vp_in; decide) e1 ?_
  refine xi_aload_nS 3 dL_law_1091 rfl ?_
  refine xi_iload_n 0 dL_law_1092 rfl ?_
  refine xi_iconst (v := 2) dL_law_1093 (by decide) ?_
  refine xi_iadd (v := 2) dL_law_1094 (by decide) ?_
  refine xi_sld (v := x2) dL_law_1095 (by rw [hL]; unfold vp_in; decide) e2 ?_
  refine xi_aload_nS 3 dL_law_1096 rfl ?_
  refine xi_iload_n 0 dL_law_1097 rfl ?_
  refine xi_iconst (v := 3) dL_law_1098 (by decide) ?_
  refine xi_iadd (v := 3) dL_law_1099 (by decide) ?_
  refine xi_sld (v := x3) dL_law_1100 (by rw [hL]; unfold vp_in; decide) e3 ?_
  refine xi_callV (as := [.int x1, .int x2, .int x3]) (rest := []) dL_law_1101 (fx_bag G x1 x2 x3) mkX11_bag w_837 w_838 w_836 rfl rfl rfl rfl rfl (Nat.le_of_ble_eq_true rfl) (Nat.le_of_ble_eq_true rfl) (Nat.le_of_ble_eq_true rfl) (Nat.le_of_ble_eq_true rfl) (Nat.le_of_ble_eq_true rfl) ?_
  intro v M2 hq
  obtain ⟨rfl, rfl⟩ := hq
  show xW _ _ _ _ 1104 _ [.int (-2)] (MX 0 (fun _ => 0) rd0 mo0 (fun _ => 0) (fun _ => 0) (fun _ => 0)) _ _
  refine xi_aload_n 1 dL_law_1104 rfl ?_
  refine xi_aload_nS 3 dL_law_1105 rfl ?_
  refine xi_iload_n 0 dL_law_1106 rfl ?_
  refine xi_iconst (v := 1) dL_law_1107 (by decide) ?_
  refine xi_iadd (v := 1) dL_law_1108 (by decide) ?_
  refine xi_sld (v := x1) dL_law_1109 (by rw [hL]; unfold vp_in; decide) e1 ?_
  refine xi_aload_nS 3 dL_law_1110 rfl ?_
  refine xi_iload_n 0 dL_law_1111 rfl ?_
  refine xi_iconst (v := 2) dL_law_1112 (by decide) ?_
  refine xi_iadd (v := 2) dL_law_1113 (by decide) ?_
  refine xi_sld (v := x2) dL_law_1114 (by rw [hL]; unfold vp_in; decide) e2 ?_
  refine xi_aload_nS 3 dL_law_1115 rfl ?_
  refine xi_iload_n 0 dL_law_1116 rfl ?_
  refine xi_iconst (v := 3) dL_law_1117 (by decide) ?_
  refine xi_iadd (v := 3) dL_law_1118 (by decide) ?_
  refine xi_sld (v := x3) dL_law_1119 (by rw [hL]; unfold vp_in; decide) e3 ?_
  refine xi_callV (as := [.int x1, .int x2, .int x3]) (rest := [.int (-2)]) dL_law_1120 (fm_bag G x1 x2 x3) mkX12_bag w_1439 w_1440 w_1438 rfl rfl rfl rfl rfl (Nat.le_of_ble_eq_true rfl) (Nat.le_of_ble_eq_true rfl) (Nat.le_of_ble_eq_true rfl) (Nat.le_of_ble_eq_true rfl) (Nat.le_of_ble_eq_true rfl) ?_
  intro v M2 hq
  obtain ⟨rfl, rfl⟩ := hq
  show xW _ _ _ _ 1123 _ [.int (-2), .int (-2)] (MX 0 (fun _ => 0) rd0 mo0 (fun _ => 0) (fun _ => 0) (fun _ => 0)) _ _
  refine xi_icmp_eq_t (tgt := 1719) dL_law_1123 (by decide) (by decide) ?_
  exact law_tail G hL _ _ _ (Nat.le_of_ble_eq_true rfl) (Nat.le_of_ble_eq_true rfl)
set_option maxHeartbeats 4000000 in
set_option maxRecDepth 100000 in
theorem law_26 {nm : String} (G : xG) (hL : G.2.2.2.2.2.2.1 = 6) (x1 x2 x3 x4 x5 : Int32) (e1 : G.2.2.2.2.2.2.2 1 = x1) (e2 : G.2.2.2.2.2.2.2 2 = x2) (e3 : G.2.2.2.2.2.2.2 3 = x3) (e4 : G.2.2.2.2.2.2.2 4 = x4) (e5 : G.2.2.2.2.2.2.2 5 = x5) : xW G (mL nm) room_1 (xLZ G) 1128 [(3, .int 0), (2, .ref 149), (1, .ref 0), (0, .float 200)] [] M0 163 36018 := by
  refine xi_aload_n 2 dL_law_1128 rfl ?_
  refine xi_aload_nS 3 dL_law_1129 rfl ?_
  refine xi_iload_n 0 dL_law_1130 rfl ?_
  refine xi_iconst (v := 1) dL_law_1131 (by decide) ?_
  refine xi_iadd (v := 1) dL_law_1132 (by decide) ?_
  refine xi_sld (v := x1) dL_law_1133 (by rw [hL]; unfold vp_in; decide) e1 ?_
  refine xi_aload_nS 3 dL_law_1134 rfl ?_
  refine xi_iload_n 0 dL_law_1135 rfl ?_
  refine xi_iconst (v := 2) dL_law_1136 (by decide) ?_
  refine xi_iadd (v := 2) dL_law_1137 (by decide) ?_
  refine xi_sld (v := x2) dL_law_1138 (by rw [hL]; unfold vp_in; decide) e2 ?_
  refine xi_callV (as := [.int x1, .int x2]) (rest := []) dL_law_1139 (fx_filled G x1 x2) mkX11_filled w_850 w_851 w_849 rfl rfl rfl rfl rfl (Nat.le_of_ble_eq_true rfl) (Nat.le_of_ble_eq_true rfl) (Nat.le_of_ble_eq_true rfl) (Nat.le_of_ble_eq_true rfl) (Nat.le_of_ble_eq_true rfl) ?_
  intro v M2 hq
  obtain ⟨rfl, rfl⟩ := hq
  show xW _ _ _ _ 1142 _ [.int (-2)] (MX 0 (fun _ => 0) rd0 mo0 (fun _ => 0) (fun _ => 0) (fun _ => 0)) _ _
  refine xi_aload_n 1 dL_law_1142 rfl ?_
  refine xi_aload_nS 3 dL_law_1143 rfl ?_
  refine xi_iload_n 0 dL_law_1144 rfl ?_
  refine xi_iconst (v := 1) dL_law_1145 (by decide) ?_
  refine xi_iadd (v := 1) dL_law_1146 (by decide) ?_
  refine xi_sld (v := x1) dL_law_1147 (by rw [hL]; unfold vp_in; decide) e1 ?_
  refine xi_aload_nS 3 dL_law_1148 rfl ?_
  refine xi_iload_n 0 dL_law_1149 rfl ?_
  refine xi_iconst (v := 2) dL_law_1150 (by decide) ?_
  refine xi_iadd (v := 2) dL_law_1151 (by decide) ?_
  refine xi_sld (v := x2) dL_law_1152 (by rw [hL]; unfold vp_in; decide) e2 ?_
  refine xi_callV (as := [.int x1, .int x2]) (rest := [.int (-2)]) dL_law_1153 (fm_filled G x1 x2) mkX12_filled w_1443 w_1444 w_1442 rfl rfl rfl rfl rfl (Nat.le_of_ble_eq_true rfl) (Nat.le_of_ble_eq_true rfl) (Nat.le_of_ble_eq_true rfl) (Nat.le_of_ble_eq_true rfl) (Nat.le_of_ble_eq_true rfl) ?_
  intro v M2 hq
  obtain ⟨rfl, rfl⟩ := hq
  show xW _ _ _ _ 1156 _ [.int (-2), .int (-2)] (MX 0 (fun _ => 0) rd0 mo0 (fun _ => 0) (fun _ => 0) (fun _ => 0)) _ _
  refine xi_icmp_eq_t (tgt := 1719) dL_law_1156 (by decide) (by decide) ?_
  exact law_tail G hL _ _ _ (Nat.le_of_ble_eq_true rfl) (Nat.le_of_ble_eq_true rfl)
set_option maxHeartbeats 4000000 in
set_option maxRecDepth 100000 in
theorem law_27 {nm : String} (G : xG) (hL : G.2.2.2.2.2.2.1 = 6) (x1 x2 x3 x4 x5 : Int32) (e1 : G.2.2.2.2.2.2.2 1 = x1) (e2 : G.2.2.2.2.2.2.2 2 = x2) (e3 : G.2.2.2.2.2.2.2 3 = x3) (e4 : G.2.2.2.2.2.2.2 4 = x4) (e5 : G.2.2.2.2.2.2.2 5 = x5) : xW G (mL nm) room_1 (xLZ G) 1161 [(3, .int 0), (2, .ref 149), (1, .ref 0), (0, .float 200)] [] M0 163 36018 := by
  refine xi_aload_n 2 dL_law_1161 rfl ?_
  refine xi_aload_nS 3 dL_law_1162 rfl ?_
  refine xi_iload_n 0 dL_law_1163 rfl ?_
  refine xi_iconst (v := 1) dL_law_1164 (by decide) ?_
  refine xi_iadd (v := 1) dL_law_1165 (by decide) ?_
  refine xi_sld (v := x1) dL_law_1166 (by rw [hL]; unfold vp_in; decide) e1 ?_
  refine xi_aload_nS 3 dL_law_1167 rfl ?_
  refine xi_iload_n 0 dL_law_1168 rfl ?_
  refine xi_iconst (v := 2) dL_law_1169 (by decide) ?_
  refine xi_iadd (v := 2) dL_law_1170 (by decide) ?_
  refine xi_sld (v := x2) dL_law_1171 (by rw [hL]; unfold vp_in; decide) e2 ?_
  refine xi_aload_nS 3 dL_law_1172 rfl ?_
  refine xi_iload_n 0 dL_law_1173 rfl ?_
  refine xi_iconst (v := 3) dL_law_1174 (by decide) ?_
  refine xi_iadd (v := 3) dL_law_1175 (by decide) ?_
  refine xi_sld (v := x3) dL_law_1176 (by rw [hL]; unfold vp_in; decide) e3 ?_
  refine xi_aload_nS 3 dL_law_1177 rfl ?_
  refine xi_iload_n 0 dL_law_1178 rfl ?_
  refine xi_iconst (v := 4) dL_law_1179 (by decide) ?_
  refine xi_iadd (v := 4) dL_law_1180 (by decide) ?_
  refine xi_sld (v := x4) dL_law_1181 (by rw [hL]; unfold vp_in; decide) e4 ?_
  refine xi_callV (as := [.int x1, .int x2, .int x3, .int x4]) (rest := []) dL_law_1182 (fx_gain G x1 x2 x3 x4) mkX11_gain w_862 w_863 w_861 rfl rfl rfl rfl rfl (Nat.le_of_ble_eq_true rfl) (Nat.le_of_ble_eq_true rfl) (Nat.le_of_ble_eq_true rfl) (Nat.le_of_ble_eq_true rfl) (Nat.le_of_ble_eq_true rfl) ?_
  intro v M2 hq
  obtain ⟨rfl, rfl⟩ := hq
  show xW _ _ _ _ 1185 _ [.int (-1000)] (MX 0 (fun _ => 0) rd0 mo0 (fun _ => 0) (fun _ => 0) (fun _ => 0)) _ _
  refine xi_aload_n 1 dL_law_1185 rfl ?_
  refine xi_aload_nS 3 dL_law_1186 rfl ?_
  refine xi_iload_n 0 dL_law_1187 rfl ?_
  refine xi_iconst (v := 1) dL_law_1188 (by decide) ?_
  refine xi_iadd (v := 1) dL_law_1189 (by decide) ?_
  refine xi_sld (v := x1) dL_law_1190 (by rw [hL]; unfold vp_in; decide) e1 ?_
  refine xi_aload_nS 3 dL_law_1191 rfl ?_
  refine xi_iload_n 0 dL_law_1192 rfl ?_
  refine xi_iconst (v := 2) dL_law_1193 (by decide) ?_
  refine xi_iadd (v := 2) dL_law_1194 (by decide) ?_
  refine xi_sld (v := x2) dL_law_1195 (by rw [hL]; unfold vp_in; decide) e2 ?_
  refine xi_aload_nS 3 dL_law_1196 rfl ?_
  refine xi_iload_n 0 dL_law_1197 rfl ?_
  refine xi_iconst (v := 3) dL_law_1198 (by decide) ?_
  refine xi_iadd (v := 3) dL_law_1199 (by decide) ?_
  refine xi_sld (v := x3) dL_law_1200 (by rw [hL]; unfold vp_in; decide) e3 ?_
  refine xi_aload_nS 3 dL_law_1201 rfl ?_
  refine xi_iload_n 0 dL_law_1202 rfl ?_
  refine xi_iconst (v := 4) dL_law_1203 (by decide) ?_
  refine xi_iadd (v := 4) dL_law_1204 (by decide) ?_
  refine xi_sld (v := x4) dL_law_1205 (by rw [hL]; unfold vp_in; decide) e4 ?_
  refine xi_callV (as := [.int x1, .int x2, .int x3, .int x4]) (rest := [.int (-1000)]) dL_law_1206 (fm_gain G x1 x2 x3 x4) mkX12_gain w_1447 w_1448 w_1446 rfl rfl rfl rfl rfl (Nat.le_of_ble_eq_true rfl) (Nat.le_of_ble_eq_true rfl) (Nat.le_of_ble_eq_true rfl) (Nat.le_of_ble_eq_true rfl) (Nat.le_of_ble_eq_true rfl) ?_
  intro v M2 hq
  obtain ⟨rfl, rfl⟩ := hq
  show xW _ _ _ _ 1209 _ [.int (-1000), .int (-1000)] (MX 0 (fun _ => 0) rd0 mo0 (fun _ => 0) (fun _ => 0) (fun _ => 0)) _ _
  refine xi_icmp_eq_t (tgt := 1719) dL_law_1209 (by decide) (by decide) ?_
  exact law_tail G hL _ _ _ (Nat.le_of_ble_eq_true rfl) (Nat.le_of_ble_eq_true rfl)
set_option maxHeartbeats 4000000 in
set_option maxRecDepth 100000 in
theorem law_28 {nm : String} (G : xG) (hL : G.2.2.2.2.2.2.1 = 6) (x1 x2 x3 x4 x5 : Int32) (e1 : G.2.2.2.2.2.2.2 1 = x1) (e2 : G.2.2.2.2.2.2.2 2 = x2) (e3 : G.2.2.2.2.2.2.2 3 = x3) (e4 : G.2.2.2.2.2.2.2 4 = x4) (e5 : G.2.2.2.2.2.2.2 5 = x5) : xW G (mL nm) room_1 (xLZ G) 1214 [(3, .int 0), (2, .ref 149), (1, .ref 0), (0, .float 200)] [] M0 163 36018 := by
  refine xi_aload_n 2 dL_law_1214 rfl ?_
  refine xi_aload_nS 3 dL_law_1215 rfl ?_
  refine xi_iload_n 0 dL_law_1216 rfl ?_
  refine xi_iconst (v := 1) dL_law_1217 (by decide) ?_
  refine xi_iadd (v := 1) dL_law_1218 (by decide) ?_
  refine xi_sld (v := x1) dL_law_1219 (by rw [hL]; unfold vp_in; decide) e1 ?_
  refine xi_aload_nS 3 dL_law_1220 rfl ?_
  refine xi_iload_n 0 dL_law_1221 rfl ?_
  refine xi_iconst (v := 2) dL_law_1222 (by decide) ?_
  refine xi_iadd (v := 2) dL_law_1223 (by decide) ?_
  refine xi_sld (v := x2) dL_law_1224 (by rw [hL]; unfold vp_in; decide) e2 ?_
  refine xi_aload_nS 3 dL_law_1225 rfl ?_
  refine xi_iload_n 0 dL_law_1226 rfl ?_
  refine xi_iconst (v := 3) dL_law_1227 (by decide) ?_
  refine xi_iadd (v := 3) dL_law_1228 (by decide) ?_
  refine xi_sld (v := x3) dL_law_1229 (by rw [hL]; unfold vp_in; decide) e3 ?_
  refine xi_callV (as := [.int x1, .int x2, .int x3]) (rest := []) dL_law_1230 (fx_swaps G x1 x2 x3) mkX11_swaps w_870 w_871 w_869 rfl rfl rfl rfl rfl (Nat.le_of_ble_eq_true rfl) (Nat.le_of_ble_eq_true rfl) (Nat.le_of_ble_eq_true rfl) (Nat.le_of_ble_eq_true rfl) (Nat.le_of_ble_eq_true rfl) ?_
  intro v M2 hq
  obtain ⟨rfl, rfl⟩ := hq
  show xW _ _ _ _ 1233 _ [.int (-2)] (MX 0 (fun _ => 0) rd0 mo0 (fun _ => 0) (fun _ => 0) (fun _ => 0)) _ _
  refine xi_aload_n 1 dL_law_1233 rfl ?_
  refine xi_aload_nS 3 dL_law_1234 rfl ?_
  refine xi_iload_n 0 dL_law_1235 rfl ?_
  refine xi_iconst (v := 1) dL_law_1236 (by decide) ?_
  refine xi_iadd (v := 1) dL_law_1237 (by decide) ?_
  refine xi_sld (v := x1) dL_law_1238 (by rw [hL]; unfold vp_in; decide) e1 ?_
  refine xi_aload_nS 3 dL_law_1239 rfl ?_
  refine xi_iload_n 0 dL_law_1240 rfl ?_
  refine xi_iconst (v := 2) dL_law_1241 (by decide) ?_
  refine xi_iadd (v := 2) dL_law_1242 (by decide) ?_
  refine xi_sld (v := x2) dL_law_1243 (by rw [hL]; unfold vp_in; decide) e2 ?_
  refine xi_aload_nS 3 dL_law_1244 rfl ?_
  refine xi_iload_n 0 dL_law_1245 rfl ?_
  refine xi_iconst (v := 3) dL_law_1246 (by decide) ?_
  refine xi_iadd (v := 3) dL_law_1247 (by decide) ?_
  refine xi_sld (v := x3) dL_law_1248 (by rw [hL]; unfold vp_in; decide) e3 ?_
  refine xi_callV (as := [.int x1, .int x2, .int x3]) (rest := [.int (-2)]) dL_law_1249 (fm_swaps G x1 x2 x3) mkX12_swaps w_1455 w_1456 w_1454 rfl rfl rfl rfl rfl (Nat.le_of_ble_eq_true rfl) (Nat.le_of_ble_eq_true rfl) (Nat.le_of_ble_eq_true rfl) (Nat.le_of_ble_eq_true rfl) (Nat.le_of_ble_eq_true rfl) ?_
  intro v M2 hq
  obtain ⟨rfl, rfl⟩ := hq
  show xW _ _ _ _ 1252 _ [.int (-2), .int (-2)] (MX 0 (fun _ => 0) rd0 mo0 (fun _ => 0) (fun _ => 0) (fun _ => 0)) _ _
  refine xi_icmp_eq_t (tgt := 1719) dL_law_1252 (by decide) (by decide) ?_
  exact law_tail G hL _ _ _ (Nat.le_of_ble_eq_true rfl) (Nat.le_of_ble_eq_true rfl)
set_option maxHeartbeats 4000000 in
set_option maxRecDepth 100000 in
theorem law_29 {nm : String} (G : xG) (hL : G.2.2.2.2.2.2.1 = 6) (x1 x2 x3 x4 x5 : Int32) (e1 : G.2.2.2.2.2.2.2 1 = x1) (e2 : G.2.2.2.2.2.2.2 2 = x2) (e3 : G.2.2.2.2.2.2.2 3 = x3) (e4 : G.2.2.2.2.2.2.2 4 = x4) (e5 : G.2.2.2.2.2.2.2 5 = x5) : xW G (mL nm) room_1 (xLZ G) 1257 [(3, .int 0), (2, .ref 149), (1, .ref 0), (0, .float 200)] [] M0 163 36018 := by
  refine xi_aload_n 2 dL_law_1257 rfl ?_
  refine xi_aload_nS 3 dL_law_1258 rfl ?_
  refine xi_iload_n 0 dL_law_1259 rfl ?_
  refine xi_iconst (v := 1) dL_law_1260 (by decide) ?_
  refine xi_iadd (v := 1) dL_law_1261 (by decide) ?_
  refine xi_sld (v := x1) dL_law_1262 (by rw [hL]; unfold vp_in; decide) e1 ?_
  refine xi_aload_nS 3 dL_law_1263 rfl ?_
  refine xi_iload_n 0 dL_law_1264 rfl ?_
  refine xi_iconst (v := 2) dL_law_1265 (by decide) ?_
  refine xi_iadd (v := 2) dL_law_1266 (by decide) ?_
  refine xi_sld (v := x2) dL_law_1267 (by rw [hL]; unfold vp_in; decide) e2 ?_
  refine xi_aload_nS 3 dL_law_1268 rfl ?_
  refine xi_iload_n 0 dL_law_1269 rfl ?_
  refine xi_iconst (v := 3) dL_law_1270 (by decide) ?_
  refine xi_iadd (v := 3) dL_law_1271 (by decide) ?_
  refine xi_sld (v := x3) dL_law_1272 (by rw [hL]; unfold vp_in; decide) e3 ?_
  refine xi_callV (as := [.int x1, .int x2, .int x3]) (rest := []) dL_law_1273 (fx_moves G x1 x2 x3) mkX11_moves w_874 w_875 w_873 rfl rfl rfl rfl rfl (Nat.le_of_ble_eq_true rfl) (Nat.le_of_ble_eq_true rfl) (Nat.le_of_ble_eq_true rfl) (Nat.le_of_ble_eq_true rfl) (Nat.le_of_ble_eq_true rfl) ?_
  intro v M2 hq
  obtain ⟨rfl, rfl⟩ := hq
  show xW _ _ _ _ 1276 _ [.int (-2)] (MX 0 (fun _ => 0) rd0 mo0 (fun _ => 0) (fun _ => 0) (fun _ => 0)) _ _
  refine xi_aload_n 1 dL_law_1276 rfl ?_
  refine xi_aload_nS 3 dL_law_1277 rfl ?_
  refine xi_iload_n 0 dL_law_1278 rfl ?_
  refine xi_iconst (v := 1) dL_law_1279 (by decide) ?_
  refine xi_iadd (v := 1) dL_law_1280 (by decide) ?_
  refine xi_sld (v := x1) dL_law_1281 (by rw [hL]; unfold vp_in; decide) e1 ?_
  refine xi_aload_nS 3 dL_law_1282 rfl ?_
  refine xi_iload_n 0 dL_law_1283 rfl ?_
  refine xi_iconst (v := 2) dL_law_1284 (by decide) ?_
  refine xi_iadd (v := 2) dL_law_1285 (by decide) ?_
  refine xi_sld (v := x2) dL_law_1286 (by rw [hL]; unfold vp_in; decide) e2 ?_
  refine xi_aload_nS 3 dL_law_1287 rfl ?_
  refine xi_iload_n 0 dL_law_1288 rfl ?_
  refine xi_iconst (v := 3) dL_law_1289 (by decide) ?_
  refine xi_iadd (v := 3) dL_law_1290 (by decide) ?_
  refine xi_sld (v := x3) dL_law_1291 (by rw [hL]; unfold vp_in; decide) e3 ?_
  refine xi_callV (as := [.int x1, .int x2, .int x3]) (rest := [.int (-2)]) dL_law_1292 (fm_moves G x1 x2 x3) mkX12_moves w_1463 w_1464 w_1462 rfl rfl rfl rfl rfl (Nat.le_of_ble_eq_true rfl) (Nat.le_of_ble_eq_true rfl) (Nat.le_of_ble_eq_true rfl) (Nat.le_of_ble_eq_true rfl) (Nat.le_of_ble_eq_true rfl) ?_
  intro v M2 hq
  obtain ⟨rfl, rfl⟩ := hq
  show xW _ _ _ _ 1295 _ [.int (-2), .int (-2)] (MX 0 (fun _ => 0) rd0 mo0 (fun _ => 0) (fun _ => 0) (fun _ => 0)) _ _
  refine xi_icmp_eq_t (tgt := 1719) dL_law_1295 (by decide) (by decide) ?_
  exact law_tail G hL _ _ _ (Nat.le_of_ble_eq_true rfl) (Nat.le_of_ble_eq_true rfl)
set_option maxHeartbeats 4000000 in
set_option maxRecDepth 100000 in
theorem law_30 {nm : String} (G : xG) (hL : G.2.2.2.2.2.2.1 = 6) (x1 x2 x3 x4 x5 : Int32) (e1 : G.2.2.2.2.2.2.2 1 = x1) (e2 : G.2.2.2.2.2.2.2 2 = x2) (e3 : G.2.2.2.2.2.2.2 3 = x3) (e4 : G.2.2.2.2.2.2.2 4 = x4) (e5 : G.2.2.2.2.2.2.2 5 = x5) : xW G (mL nm) room_1 (xLZ G) 1300 [(3, .int 0), (2, .ref 149), (1, .ref 0), (0, .float 200)] [] M0 163 36018 := by
  refine xi_aload_n 2 dL_law_1300 rfl ?_
  refine xi_aload_nS 3 dL_law_1301 rfl ?_
  refine xi_iload_n 0 dL_law_1302 rfl ?_
  refine xi_iconst (v := 1) dL_law_1303 (by decide) ?_
  refine xi_iadd (v := 1) dL_law_1304 (by decide) ?_
  refine xi_sld (v := x1) dL_law_1305 (by rw [hL]; unfold vp_in; decide) e1 ?_
  refine xi_callV (as := [.int x1]) (rest := []) dL_law_1306 (fx_reverse G x1) mkX11_reverse w_883 w_884 w_882 rfl rfl rfl rfl rfl (Nat.le_of_ble_eq_true rfl) (Nat.le_of_ble_eq_true rfl) (Nat.le_of_ble_eq_true rfl) (Nat.le_of_ble_eq_true rfl) (Nat.le_of_ble_eq_true rfl) ?_
  intro v M2 hq
  obtain ⟨rfl, rfl⟩ := hq
  show xW _ _ _ _ 1309 _ [.int (-2)] (MX 0 (fun _ => 0) rd0 mo0 (fun _ => 0) (fun _ => 0) (fun _ => 0)) _ _
  refine xi_aload_n 1 dL_law_1309 rfl ?_
  refine xi_aload_nS 3 dL_law_1310 rfl ?_
  refine xi_iload_n 0 dL_law_1311 rfl ?_
  refine xi_iconst (v := 1) dL_law_1312 (by decide) ?_
  refine xi_iadd (v := 1) dL_law_1313 (by decide) ?_
  refine xi_sld (v := x1) dL_law_1314 (by rw [hL]; unfold vp_in; decide) e1 ?_
  refine xi_callV (as := [.int x1]) (rest := [.int (-2)]) dL_law_1315 (fm_reverse G x1) mkX12_reverse w_1467 w_1468 w_1466 rfl rfl rfl rfl rfl (Nat.le_of_ble_eq_true rfl) (Nat.le_of_ble_eq_true rfl) (Nat.le_of_ble_eq_true rfl) (Nat.le_of_ble_eq_true rfl) (Nat.le_of_ble_eq_true rfl) ?_
  intro v M2 hq
  obtain ⟨rfl, rfl⟩ := hq
  show xW _ _ _ _ 1318 _ [.int (-2), .int (-2)] (MX 0 (fun _ => 0) rd0 mo0 (fun _ => 0) (fun _ => 0) (fun _ => 0)) _ _
  refine xi_icmp_eq_t (tgt := 1719) dL_law_1318 (by decide) (by decide) ?_
  exact law_tail G hL _ _ _ (Nat.le_of_ble_eq_true rfl) (Nat.le_of_ble_eq_true rfl)
set_option maxHeartbeats 4000000 in
set_option maxRecDepth 100000 in
theorem law_31 {nm : String} (G : xG) (hL : G.2.2.2.2.2.2.1 = 6) (x1 x2 x3 x4 x5 : Int32) (e1 : G.2.2.2.2.2.2.2 1 = x1) (e2 : G.2.2.2.2.2.2.2 2 = x2) (e3 : G.2.2.2.2.2.2.2 3 = x3) (e4 : G.2.2.2.2.2.2.2 4 = x4) (e5 : G.2.2.2.2.2.2.2 5 = x5) : xW G (mL nm) room_1 (xLZ G) 1323 [(3, .int 0), (2, .ref 149), (1, .ref 0), (0, .float 200)] [] M0 163 36018 := by
  refine xi_aload_n 2 dL_law_1323 rfl ?_
  refine xi_aload_nS 3 dL_law_1324 rfl ?_
  refine xi_iload_n 0 dL_law_1325 rfl ?_
  refine xi_iconst (v := 1) dL_law_1326 (by decide) ?_
  refine xi_iadd (v := 1) dL_law_1327 (by decide) ?_
  refine xi_sld (v := x1) dL_law_1328 (by rw [hL]; unfold vp_in; decide) e1 ?_
  refine xi_aload_nS 3 dL_law_1329 rfl ?_
  refine xi_iload_n 0 dL_law_1330 rfl ?_
  refine xi_iconst (v := 2) dL_law_1331 (by decide) ?_
  refine xi_iadd (v := 2) dL_law_1332 (by decide) ?_
  refine xi_sld (v := x2) dL_law_1333 (by rw [hL]; unfold vp_in; decide) e2 ?_
  refine xi_callV (as := [.int x1, .int x2]) (rest := []) dL_law_1334 (fx_takes G x1 x2) mkX11_takes w_891 w_892 w_890 rfl rfl rfl rfl rfl (Nat.le_of_ble_eq_true rfl) (Nat.le_of_ble_eq_true rfl) (Nat.le_of_ble_eq_true rfl) (Nat.le_of_ble_eq_true rfl) (Nat.le_of_ble_eq_true rfl) ?_
  intro v M2 hq
  obtain ⟨rfl, rfl⟩ := hq
  show xW _ _ _ _ 1337 _ [.int (-2)] (MX 0 (fun _ => 0) rd0 mo0 (fun _ => 0) (fun _ => 0) (fun _ => 0)) _ _
  refine xi_aload_n 1 dL_law_1337 rfl ?_
  refine xi_aload_nS 3 dL_law_1338 rfl ?_
  refine xi_iload_n 0 dL_law_1339 rfl ?_
  refine xi_iconst (v := 1) dL_law_1340 (by decide) ?_
  refine xi_iadd (v := 1) dL_law_1341 (by decide) ?_
  refine xi_sld (v := x1) dL_law_1342 (by rw [hL]; unfold vp_in; decide) e1 ?_
  refine xi_aload_nS 3 dL_law_1343 rfl ?_
  refine xi_iload_n 0 dL_law_1344 rfl ?_
  refine xi_iconst (v := 2) dL_law_1345 (by decide) ?_
  refine xi_iadd (v := 2) dL_law_1346 (by decide) ?_
  refine xi_sld (v := x2) dL_law_1347 (by rw [hL]; unfold vp_in; decide) e2 ?_
  refine xi_callV (as := [.int x1, .int x2]) (rest := [.int (-2)]) dL_law_1348 (fm_takes G x1 x2) mkX12_takes w_1471 w_1472 w_1470 rfl rfl rfl rfl rfl (Nat.le_of_ble_eq_true rfl) (Nat.le_of_ble_eq_true rfl) (Nat.le_of_ble_eq_true rfl) (Nat.le_of_ble_eq_true rfl) (Nat.le_of_ble_eq_true rfl) ?_
  intro v M2 hq
  obtain ⟨rfl, rfl⟩ := hq
  show xW _ _ _ _ 1351 _ [.int (-2), .int (-2)] (MX 0 (fun _ => 0) rd0 mo0 (fun _ => 0) (fun _ => 0) (fun _ => 0)) _ _
  refine xi_icmp_eq_t (tgt := 1719) dL_law_1351 (by decide) (by decide) ?_
  exact law_tail G hL _ _ _ (Nat.le_of_ble_eq_true rfl) (Nat.le_of_ble_eq_true rfl)
set_option maxHeartbeats 4000000 in
set_option maxRecDepth 100000 in
theorem law_32 {nm : String} (G : xG) (hL : G.2.2.2.2.2.2.1 = 6) (x1 x2 x3 x4 x5 : Int32) (e1 : G.2.2.2.2.2.2.2 1 = x1) (e2 : G.2.2.2.2.2.2.2 2 = x2) (e3 : G.2.2.2.2.2.2.2 3 = x3) (e4 : G.2.2.2.2.2.2.2 4 = x4) (e5 : G.2.2.2.2.2.2.2 5 = x5) : xW G (mL nm) room_1 (xLZ G) 1356 [(3, .int 0), (2, .ref 149), (1, .ref 0), (0, .float 200)] [] M0 163 36018 := by
  refine xi_aload_n 2 dL_law_1356 rfl ?_
  refine xi_aload_nS 3 dL_law_1357 rfl ?_
  refine xi_iload_n 0 dL_law_1358 rfl ?_
  refine xi_iconst (v := 1) dL_law_1359 (by decide) ?_
  refine xi_iadd (v := 1) dL_law_1360 (by decide) ?_
  refine xi_sld (v := x1) dL_law_1361 (by rw [hL]; unfold vp_in; decide) e1 ?_
  refine xi_aload_nS 3 dL_law_1362 rfl ?_
  refine xi_iload_n 0 dL_law_1363 rfl ?_
  refine xi_iconst (v := 2) dL_law_1364 (by decide) ?_
  refine xi_iadd (v := 2) dL_law_1365 (by decide) ?_
  refine xi_sld (v := x2) dL_law_1366 (by rw [hL]; unfold vp_in; decide) e2 ?_
  refine xi_callV (as := [.int x1, .int x2]) (rest := []) dL_law_1367 (fx_polish G x1 x2) mkX11_polish w_897 w_898 w_896 rfl rfl rfl rfl rfl (Nat.le_of_ble_eq_true rfl) (Nat.le_of_ble_eq_true rfl) (Nat.le_of_ble_eq_true rfl) (Nat.le_of_ble_eq_true rfl) (Nat.le_of_ble_eq_true rfl) ?_
  intro v M2 hq
  obtain ⟨rfl, rfl⟩ := hq
  show xW _ _ _ _ 1370 _ [.int (-2)] (MX 0 (fun _ => 0) rd0 mo0 (fun _ => 0) (fun _ => 0) (fun _ => 0)) _ _
  refine xi_aload_n 1 dL_law_1370 rfl ?_
  refine xi_aload_nS 3 dL_law_1371 rfl ?_
  refine xi_iload_n 0 dL_law_1372 rfl ?_
  refine xi_iconst (v := 1) dL_law_1373 (by decide) ?_
  refine xi_iadd (v := 1) dL_law_1374 (by decide) ?_
  refine xi_sld (v := x1) dL_law_1375 (by rw [hL]; unfold vp_in; decide) e1 ?_
  refine xi_aload_nS 3 dL_law_1376 rfl ?_
  refine xi_iload_n 0 dL_law_1377 rfl ?_
  refine xi_iconst (v := 2) dL_law_1378 (by decide) ?_
  refine xi_iadd (v := 2) dL_law_1379 (by decide) ?_
  refine xi_sld (v := x2) dL_law_1380 (by rw [hL]; unfold vp_in; decide) e2 ?_
  refine xi_callV (as := [.int x1, .int x2]) (rest := [.int (-2)]) dL_law_1381 (fm_polish G x1 x2) mkX12_polish w_1475 w_1476 w_1474 rfl rfl rfl rfl rfl (Nat.le_of_ble_eq_true rfl) (Nat.le_of_ble_eq_true rfl) (Nat.le_of_ble_eq_true rfl) (Nat.le_of_ble_eq_true rfl) (Nat.le_of_ble_eq_true rfl) ?_
  intro v M2 hq
  obtain ⟨rfl, rfl⟩ := hq
  show xW _ _ _ _ 1384 _ [.int (-2), .int (-2)] (MX 0 (fun _ => 0) rd0 mo0 (fun _ => 0) (fun _ => 0) (fun _ => 0)) _ _
  refine xi_icmp_eq_t (tgt := 1719) dL_law_1384 (by decide) (by decide) ?_
  exact law_tail G hL _ _ _ (Nat.le_of_ble_eq_true rfl) (Nat.le_of_ble_eq_true rfl)
set_option maxHeartbeats 4000000 in
set_option maxRecDepth 100000 in
theorem law_33 {nm : String} (G : xG) (hL : G.2.2.2.2.2.2.1 = 6) (x1 x2 x3 x4 x5 : Int32) (e1 : G.2.2.2.2.2.2.2 1 = x1) (e2 : G.2.2.2.2.2.2.2 2 = x2) (e3 : G.2.2.2.2.2.2.2 3 = x3) (e4 : G.2.2.2.2.2.2.2 4 = x4) (e5 : G.2.2.2.2.2.2.2 5 = x5) : xW G (mL nm) room_1 (xLZ G) 1389 [(3, .int 0), (2, .ref 149), (1, .ref 0), (0, .float 200)] [] M0 163 36018 := by
  refine xi_aload_n 2 dL_law_1389 rfl ?_
  refine xi_aload_nS 3 dL_law_1390 rfl ?_
  refine xi_iload_n 0 dL_law_1391 rfl ?_
  refine xi_iconst (v := 1) dL_law_1392 (by decide) ?_
  refine xi_iadd (v := 1) dL_law_1393 (by decide) ?_
  refine xi_sld (v := x1) dL_law_1394 (by rw [hL]; unfold vp_in; decide) e1 ?_
  refine xi_aload_nS 3 dL_law_1395 rfl ?_
  refine xi_iload_n 0 dL_law_1396 rfl ?_
  refine xi_iconst (v := 2) dL_law_1397 (by decide) ?_
  refine xi_iadd (v := 2) dL_law_1398 (by decide) ?_
  refine xi_sld (v := x2) dL_law_1399 (by rw [hL]; unfold vp_in; decide) e2 ?_
  refine xi_callV (as := [.int x1, .int x2]) (rest := []) dL_law_1400 (fx_polished G x1 x2) mkX11_polished w_909 w_910 w_908 rfl rfl rfl rfl rfl (Nat.le_of_ble_eq_true rfl) (Nat.le_of_ble_eq_true rfl) (Nat.le_of_ble_eq_true rfl) (Nat.le_of_ble_eq_true rfl) (Nat.le_of_ble_eq_true rfl) ?_
  intro v M2 hq
  obtain ⟨rfl, rfl⟩ := hq
  show xW _ _ _ _ 1403 _ [.int (-2)] (MX 0 (fun _ => 0) rd0 mo0 (fun _ => 0) (fun _ => 0) (fun _ => 0)) _ _
  refine xi_aload_n 1 dL_law_1403 rfl ?_
  refine xi_aload_nS 3 dL_law_1404 rfl ?_
  refine xi_iload_n 0 dL_law_1405 rfl ?_
  refine xi_iconst (v := 1) dL_law_1406 (by decide) ?_
  refine xi_iadd (v := 1) dL_law_1407 (by decide) ?_
  refine xi_sld (v := x1) dL_law_1408 (by rw [hL]; unfold vp_in; decide) e1 ?_
  refine xi_aload_nS 3 dL_law_1409 rfl ?_
  refine xi_iload_n 0 dL_law_1410 rfl ?_
  refine xi_iconst (v := 2) dL_law_1411 (by decide) ?_
  refine xi_iadd (v := 2) dL_law_1412 (by decide) ?_
  refine xi_sld (v := x2) dL_law_1413 (by rw [hL]; unfold vp_in; decide) e2 ?_
  refine xi_callV (as := [.int x1, .int x2]) (rest := [.int (-2)]) dL_law_1414 (fm_polished G x1 x2) mkX12_polished w_1483 w_1484 w_1482 rfl rfl rfl rfl rfl (Nat.le_of_ble_eq_true rfl) (Nat.le_of_ble_eq_true rfl) (Nat.le_of_ble_eq_true rfl) (Nat.le_of_ble_eq_true rfl) (Nat.le_of_ble_eq_true rfl) ?_
  intro v M2 hq
  obtain ⟨rfl, rfl⟩ := hq
  show xW _ _ _ _ 1417 _ [.int (-2), .int (-2)] (MX 0 (fun _ => 0) rd0 mo0 (fun _ => 0) (fun _ => 0) (fun _ => 0)) _ _
  refine xi_icmp_eq_t (tgt := 1719) dL_law_1417 (by decide) (by decide) ?_
  exact law_tail G hL _ _ _ (Nat.le_of_ble_eq_true rfl) (Nat.le_of_ble_eq_true rfl)
set_option maxHeartbeats 4000000 in
set_option maxRecDepth 100000 in
theorem law_34 {nm : String} (G : xG) (hL : G.2.2.2.2.2.2.1 = 6) (x1 x2 x3 x4 x5 : Int32) (e1 : G.2.2.2.2.2.2.2 1 = x1) (e2 : G.2.2.2.2.2.2.2 2 = x2) (e3 : G.2.2.2.2.2.2.2 3 = x3) (e4 : G.2.2.2.2.2.2.2 4 = x4) (e5 : G.2.2.2.2.2.2.2 5 = x5) : xW G (mL nm) room_1 (xLZ G) 1422 [(3, .int 0), (2, .ref 149), (1, .ref 0), (0, .float 200)] [] M0 163 36018 := by
  refine xi_aload_n 2 dL_law_1422 rfl ?_
  refine xi_aload_nS 3 dL_law_1423 rfl ?_
  refine xi_iload_n 0 dL_law_1424 rfl ?_
  refine xi_iconst (v := 1) dL_law_1425 (by decide) ?_
  refine xi_iadd (v := 1) dL_law_1426 (by decide) ?_
  refine xi_sld (v := x1) dL_law_1427 (by rw [hL]; unfold vp_in; decide) e1 ?_
  refine xi_aload_nS 3 dL_law_1428 rfl ?_
  refine xi_iload_n 0 dL_law_1429 rfl ?_
  refine xi_iconst (v := 2) dL_law_1430 (by decide) ?_
  refine xi_iadd (v := 2) dL_law_1431 (by decide) ?_
  refine xi_sld (v := x2) dL_law_1432 (by rw [hL]; unfold vp_in; decide) e2 ?_
  refine xi_callV (as := [.int x1, .int x2]) (rest := []) dL_law_1433 (fx_greedy G x1 x2) mkX11_greedy w_913 w_914 w_912 rfl rfl rfl rfl rfl (Nat.le_of_ble_eq_true rfl) (Nat.le_of_ble_eq_true rfl) (Nat.le_of_ble_eq_true rfl) (Nat.le_of_ble_eq_true rfl) (Nat.le_of_ble_eq_true rfl) ?_
  intro v M2 hq
  obtain ⟨rfl, rfl⟩ := hq
  show xW _ _ _ _ 1436 _ [.int (-2)] (MX 0 (fun _ => 0) rd0 mo0 (fun _ => 0) (fun _ => 0) (fun _ => 0)) _ _
  refine xi_aload_n 1 dL_law_1436 rfl ?_
  refine xi_aload_nS 3 dL_law_1437 rfl ?_
  refine xi_iload_n 0 dL_law_1438 rfl ?_
  refine xi_iconst (v := 1) dL_law_1439 (by decide) ?_
  refine xi_iadd (v := 1) dL_law_1440 (by decide) ?_
  refine xi_sld (v := x1) dL_law_1441 (by rw [hL]; unfold vp_in; decide) e1 ?_
  refine xi_aload_nS 3 dL_law_1442 rfl ?_
  refine xi_iload_n 0 dL_law_1443 rfl ?_
  refine xi_iconst (v := 2) dL_law_1444 (by decide) ?_
  refine xi_iadd (v := 2) dL_law_1445 (by decide) ?_
  refine xi_sld (v := x2) dL_law_1446 (by rw [hL]; unfold vp_in; decide) e2 ?_
  refine xi_callV (as := [.int x1, .int x2]) (rest := [.int (-2)]) dL_law_1447 (fm_greedy G x1 x2) mkX12_greedy w_1487 w_1488 w_1486 rfl rfl rfl rfl rfl (Nat.le_of_ble_eq_true rfl) (Nat.le_of_ble_eq_true rfl) (Nat.le_of_ble_eq_true rfl) (Nat.le_of_ble_eq_true rfl) (Nat.le_of_ble_eq_true rfl) ?_
  intro v M2 hq
  obtain ⟨rfl, rfl⟩ := hq
  show xW _ _ _ _ 1450 _ [.int (-2), .int (-2)] (MX 0 (fun _ => 0) rd0 mo0 (fun _ => 0) (fun _ => 0) (fun _ => 0)) _ _
  refine xi_icmp_eq_t (tgt := 1719) dL_law_1450 (by decide) (by decide) ?_
  exact law_tail G hL _ _ _ (Nat.le_of_ble_eq_true rfl) (Nat.le_of_ble_eq_true rfl)
set_option maxHeartbeats 4000000 in
set_option maxRecDepth 100000 in
theorem law_35 {nm : String} (G : xG) (hL : G.2.2.2.2.2.2.1 = 6) (x1 x2 x3 x4 x5 : Int32) (e1 : G.2.2.2.2.2.2.2 1 = x1) (e2 : G.2.2.2.2.2.2.2 2 = x2) (e3 : G.2.2.2.2.2.2.2 3 = x3) (e4 : G.2.2.2.2.2.2.2 4 = x4) (e5 : G.2.2.2.2.2.2.2 5 = x5) : xW G (mL nm) room_1 (xLZ G) 1455 [(3, .int 0), (2, .ref 149), (1, .ref 0), (0, .float 200)] [] M0 163 36018 := by
  refine xi_aload_n 2 dL_law_1455 rfl ?_
  refine xi_aload_nS 3 dL_law_1456 rfl ?_
  refine xi_iload_n 0 dL_law_1457 rfl ?_
  refine xi_iconst (v := 1) dL_law_1458 (by decide) ?_
  refine xi_iadd (v := 1) dL_law_1459 (by decide) ?_
  refine xi_sld (v := x1) dL_law_1460 (by rw [hL]; unfold vp_in; decide) e1 ?_
  refine xi_aload_nS 3 dL_law_1461 rfl ?_
  refine xi_iload_n 0 dL_law_1462 rfl ?_
  refine xi_iconst (v := 2) dL_law_1463 (by decide) ?_
  refine xi_iadd (v := 2) dL_law_1464 (by decide) ?_
  refine xi_sld (v := x2) dL_law_1465 (by rw [hL]; unfold vp_in; decide) e2 ?_
  refine xi_callV (as := [.int x1, .int x2]) (rest := []) dL_law_1466 (fx_layers G x1 x2) mkX11_layers w_921 w_922 w_920 rfl rfl rfl rfl rfl (Nat.le_of_ble_eq_true rfl) (Nat.le_of_ble_eq_true rfl) (Nat.le_of_ble_eq_true rfl) (Nat.le_of_ble_eq_true rfl) (Nat.le_of_ble_eq_true rfl) ?_
  intro v M2 hq
  obtain ⟨rfl, rfl⟩ := hq
  show xW _ _ _ _ 1469 _ [.int (-2)] (MX 0 (fun _ => 0) rd0 mo0 (fun _ => 0) (fun _ => 0) (fun _ => 0)) _ _
  refine xi_aload_n 1 dL_law_1469 rfl ?_
  refine xi_aload_nS 3 dL_law_1470 rfl ?_
  refine xi_iload_n 0 dL_law_1471 rfl ?_
  refine xi_iconst (v := 1) dL_law_1472 (by decide) ?_
  refine xi_iadd (v := 1) dL_law_1473 (by decide) ?_
  refine xi_sld (v := x1) dL_law_1474 (by rw [hL]; unfold vp_in; decide) e1 ?_
  refine xi_aload_nS 3 dL_law_1475 rfl ?_
  refine xi_iload_n 0 dL_law_1476 rfl ?_
  refine xi_iconst (v := 2) dL_law_1477 (by decide) ?_
  refine xi_iadd (v := 2) dL_law_1478 (by decide) ?_
  refine xi_sld (v := x2) dL_law_1479 (by rw [hL]; unfold vp_in; decide) e2 ?_
  refine xi_callV (as := [.int x1, .int x2]) (rest := [.int (-2)]) dL_law_1480 (fm_layers G x1 x2) mkX12_layers w_1491 w_1492 w_1490 rfl rfl rfl rfl rfl (Nat.le_of_ble_eq_true rfl) (Nat.le_of_ble_eq_true rfl) (Nat.le_of_ble_eq_true rfl) (Nat.le_of_ble_eq_true rfl) (Nat.le_of_ble_eq_true rfl) ?_
  intro v M2 hq
  obtain ⟨rfl, rfl⟩ := hq
  show xW _ _ _ _ 1483 _ [.int (-2), .int (-2)] (MX 0 (fun _ => 0) rd0 mo0 (fun _ => 0) (fun _ => 0) (fun _ => 0)) _ _
  refine xi_icmp_eq_t (tgt := 1719) dL_law_1483 (by decide) (by decide) ?_
  exact law_tail G hL _ _ _ (Nat.le_of_ble_eq_true rfl) (Nat.le_of_ble_eq_true rfl)
set_option maxHeartbeats 4000000 in
set_option maxRecDepth 100000 in
theorem law_36 {nm : String} (G : xG) (hL : G.2.2.2.2.2.2.1 = 6) (x1 x2 x3 x4 x5 : Int32) (e1 : G.2.2.2.2.2.2.2 1 = x1) (e2 : G.2.2.2.2.2.2.2 2 = x2) (e3 : G.2.2.2.2.2.2.2 3 = x3) (e4 : G.2.2.2.2.2.2.2 4 = x4) (e5 : G.2.2.2.2.2.2.2 5 = x5) : xW G (mL nm) room_1 (xLZ G) 1488 [(3, .int 0), (2, .ref 149), (1, .ref 0), (0, .float 200)] [] M0 163 36018 := by
  refine xi_aload_n 2 dL_law_1488 rfl ?_
  refine xi_aload_nS 3 dL_law_1489 rfl ?_
  refine xi_iload_n 0 dL_law_1490 rfl ?_
  refine xi_iconst (v := 1) dL_law_1491 (by decide) ?_
  refine xi_iadd (v := 1) dL_law_1492 (by decide) ?_
  refine xi_sld (v := x1) dL_law_1493 (by rw [hL]; unfold vp_in; decide) e1 ?_
  refine xi_aload_nS 3 dL_law_1494 rfl ?_
  refine xi_iload_n 0 dL_law_1495 rfl ?_
  refine xi_iconst (v := 2) dL_law_1496 (by decide) ?_
  refine xi_iadd (v := 2) dL_law_1497 (by decide) ?_
  refine xi_sld (v := x2) dL_law_1498 (by rw [hL]; unfold vp_in; decide) e2 ?_
  refine xi_aload_nS 3 dL_law_1499 rfl ?_
  refine xi_iload_n 0 dL_law_1500 rfl ?_
  refine xi_iconst (v := 3) dL_law_1501 (by decide) ?_
  refine xi_iadd (v := 3) dL_law_1502 (by decide) ?_
  refine xi_sld (v := x3) dL_law_1503 (by rw [hL]; unfold vp_in; decide) e3 ?_
  refine xi_aload_nS 3 dL_law_1504 rfl ?_
  refine xi_iload_n 0 dL_law_1505 rfl ?_
  refine xi_iconst (v := 4) dL_law_1506 (by decide) ?_
  refine xi_iadd (v := 4) dL_law_1507 (by decide) ?_
  refine xi_sld (v := x4) dL_law_1508 (by rw [hL]; unfold vp_in; decide) e4 ?_
  refine xi_callV (as := [.int x1, .int x2, .int x3, .int x4]) (rest := []) dL_law_1509 (fx_adds G x1 x2 x3 x4) mkX11_adds w_933 w_934 w_932 rfl rfl rfl rfl rfl (Nat.le_of_ble_eq_true rfl) (Nat.le_of_ble_eq_true rfl) (Nat.le_of_ble_eq_true rfl) (Nat.le_of_ble_eq_true rfl) (Nat.le_of_ble_eq_true rfl) ?_
  intro v M2 hq
  obtain ⟨rfl, rfl⟩ := hq
  show xW _ _ _ _ 1512 _ [.int (-2)] (MX 0 (fun _ => 0) rd0 mo0 (fun _ => 0) (fun _ => 0) (fun _ => 0)) _ _
  refine xi_aload_n 1 dL_law_1512 rfl ?_
  refine xi_aload_nS 3 dL_law_1513 rfl ?_
  refine xi_iload_n 0 dL_law_1514 rfl ?_
  refine xi_iconst (v := 1) dL_law_1515 (by decide) ?_
  refine xi_iadd (v := 1) dL_law_1516 (by decide) ?_
  refine xi_sld (v := x1) dL_law_1517 (by rw [hL]; unfold vp_in; decide) e1 ?_
  refine xi_aload_nS 3 dL_law_1518 rfl ?_
  refine xi_iload_n 0 dL_law_1519 rfl ?_
  refine xi_iconst (v := 2) dL_law_1520 (by decide) ?_
  refine xi_iadd (v := 2) dL_law_1521 (by decide) ?_
  refine xi_sld (v := x2) dL_law_1522 (by rw [hL]; unfold vp_in; decide) e2 ?_
  refine xi_aload_nS 3 dL_law_1523 rfl ?_
  refine xi_iload_n 0 dL_law_1524 rfl ?_
  refine xi_iconst (v := 3) dL_law_1525 (by decide) ?_
  refine xi_iadd (v := 3) dL_law_1526 (by decide) ?_
  refine xi_sld (v := x3) dL_law_1527 (by rw [hL]; unfold vp_in; decide) e3 ?_
  refine xi_aload_nS 3 dL_law_1528 rfl ?_
  refine xi_iload_n 0 dL_law_1529 rfl ?_
  refine xi_iconst (v := 4) dL_law_1530 (by decide) ?_
  refine xi_iadd (v := 4) dL_law_1531 (by decide) ?_
  refine xi_sld (v := x4) dL_law_1532 (by rw [hL]; unfold vp_in; decide) e4 ?_
  refine xi_callV (as := [.int x1, .int x2, .int x3, .int x4]) (rest := [.int (-2)]) dL_law_1533 (fm_adds G x1 x2 x3 x4) mkX12_adds w_1495 w_1496 w_1494 rfl rfl rfl rfl rfl (Nat.le_of_ble_eq_true rfl) (Nat.le_of_ble_eq_true rfl) (Nat.le_of_ble_eq_true rfl) (Nat.le_of_ble_eq_true rfl) (Nat.le_of_ble_eq_true rfl) ?_
  intro v M2 hq
  obtain ⟨rfl, rfl⟩ := hq
  show xW _ _ _ _ 1536 _ [.int (-2), .int (-2)] (MX 0 (fun _ => 0) rd0 mo0 (fun _ => 0) (fun _ => 0) (fun _ => 0)) _ _
  refine xi_icmp_eq_t (tgt := 1719) dL_law_1536 (by decide) (by decide) ?_
  exact law_tail G hL _ _ _ (Nat.le_of_ble_eq_true rfl) (Nat.le_of_ble_eq_true rfl)
set_option maxHeartbeats 4000000 in
set_option maxRecDepth 100000 in
theorem law_37 {nm : String} (G : xG) (hL : G.2.2.2.2.2.2.1 = 6) (x1 x2 x3 x4 x5 : Int32) (e1 : G.2.2.2.2.2.2.2 1 = x1) (e2 : G.2.2.2.2.2.2.2 2 = x2) (e3 : G.2.2.2.2.2.2.2 3 = x3) (e4 : G.2.2.2.2.2.2.2 4 = x4) (e5 : G.2.2.2.2.2.2.2 5 = x5) : xW G (mL nm) room_1 (xLZ G) 1541 [(3, .int 0), (2, .ref 149), (1, .ref 0), (0, .float 200)] [] M0 163 36018 := by
  refine xi_aload_n 2 dL_law_1541 rfl ?_
  refine xi_aload_nS 3 dL_law_1542 rfl ?_
  refine xi_iload_n 0 dL_law_1543 rfl ?_
  refine xi_iconst (v := 1) dL_law_1544 (by decide) ?_
  refine xi_iadd (v := 1) dL_law_1545 (by decide) ?_
  refine xi_sld (v := x1) dL_law_1546 (by rw [hL]; unfold vp_in; decide) e1 ?_
  refine xi_aload_nS 3 dL_law_1547 rfl ?_
  refine xi_iload_n 0 dL_law_1548 rfl ?_
  refine xi_iconst (v := 2) dL_law_1549 (by decide) ?_
  refine xi_iadd (v := 2) dL_law_1550 (by decide) ?_
  refine xi_sld (v := x2) dL_law_1551 (by rw [hL]; unfold vp_in; decide) e2 ?_
  refine xi_aload_nS 3 dL_law_1552 rfl ?_
  refine xi_iload_n 0 dL_law_1553 rfl ?_
  refine xi_iconst (v := 3) dL_law_1554 (by decide) ?_
  refine xi_iadd (v := 3) dL_law_1555 (by decide) ?_
  refine xi_sld (v := x3) dL_law_1556 (by rw [hL]; unfold vp_in; decide) e3 ?_
  refine xi_callV (as := [.int x1, .int x2, .int x3]) (rest := []) dL_law_1557 (fx_cuts G x1 x2 x3) mkX11_cuts w_943 w_944 w_942 rfl rfl rfl rfl rfl (Nat.le_of_ble_eq_true rfl) (Nat.le_of_ble_eq_true rfl) (Nat.le_of_ble_eq_true rfl) (Nat.le_of_ble_eq_true rfl) (Nat.le_of_ble_eq_true rfl) ?_
  intro v M2 hq
  obtain ⟨rfl, rfl⟩ := hq
  show xW _ _ _ _ 1560 _ [.int (-2)] (MX 0 (fun _ => 0) rd0 mo0 (fun _ => 0) (fun _ => 0) (fun _ => 0)) _ _
  refine xi_aload_n 1 dL_law_1560 rfl ?_
  refine xi_aload_nS 3 dL_law_1561 rfl ?_
  refine xi_iload_n 0 dL_law_1562 rfl ?_
  refine xi_iconst (v := 1) dL_law_1563 (by decide) ?_
  refine xi_iadd (v := 1) dL_law_1564 (by decide) ?_
  refine xi_sld (v := x1) dL_law_1565 (by rw [hL]; unfold vp_in; decide) e1 ?_
  refine xi_aload_nS 3 dL_law_1566 rfl ?_
  refine xi_iload_n 0 dL_law_1567 rfl ?_
  refine xi_iconst (v := 2) dL_law_1568 (by decide) ?_
  refine xi_iadd (v := 2) dL_law_1569 (by decide) ?_
  refine xi_sld (v := x2) dL_law_1570 (by rw [hL]; unfold vp_in; decide) e2 ?_
  refine xi_aload_nS 3 dL_law_1571 rfl ?_
  refine xi_iload_n 0 dL_law_1572 rfl ?_
  refine xi_iconst (v := 3) dL_law_1573 (by decide) ?_
  refine xi_iadd (v := 3) dL_law_1574 (by decide) ?_
  refine xi_sld (v := x3) dL_law_1575 (by rw [hL]; unfold vp_in; decide) e3 ?_
  refine xi_callV (as := [.int x1, .int x2, .int x3]) (rest := [.int (-2)]) dL_law_1576 (fm_cuts G x1 x2 x3) mkX12_cuts w_1504 w_1505 w_1503 rfl rfl rfl rfl rfl (Nat.le_of_ble_eq_true rfl) (Nat.le_of_ble_eq_true rfl) (Nat.le_of_ble_eq_true rfl) (Nat.le_of_ble_eq_true rfl) (Nat.le_of_ble_eq_true rfl) ?_
  intro v M2 hq
  obtain ⟨rfl, rfl⟩ := hq
  show xW _ _ _ _ 1579 _ [.int (-2), .int (-2)] (MX 0 (fun _ => 0) rd0 mo0 (fun _ => 0) (fun _ => 0) (fun _ => 0)) _ _
  refine xi_icmp_eq_t (tgt := 1719) dL_law_1579 (by decide) (by decide) ?_
  exact law_tail G hL _ _ _ (Nat.le_of_ble_eq_true rfl) (Nat.le_of_ble_eq_true rfl)
set_option maxHeartbeats 4000000 in
set_option maxRecDepth 100000 in
theorem law_38 {nm : String} (G : xG) (hL : G.2.2.2.2.2.2.1 = 6) (x1 x2 x3 x4 x5 : Int32) (e1 : G.2.2.2.2.2.2.2 1 = x1) (e2 : G.2.2.2.2.2.2.2 2 = x2) (e3 : G.2.2.2.2.2.2.2 3 = x3) (e4 : G.2.2.2.2.2.2.2 4 = x4) (e5 : G.2.2.2.2.2.2.2 5 = x5) : xW G (mL nm) room_1 (xLZ G) 1584 [(3, .int 0), (2, .ref 149), (1, .ref 0), (0, .float 200)] [] M0 163 36018 := by
  refine xi_aload_n 2 dL_law_1584 rfl ?_
  refine xi_aload_nS 3 dL_law_1585 rfl ?_
  refine xi_iload_n 0 dL_law_1586 rfl ?_
  refine xi_iconst (v := 1) dL_law_1587 (by decide) ?_
  refine xi_iadd (v := 1) dL_law_1588 (by decide) ?_
  refine xi_sld (v := x1) dL_law_1589 (by rw [hL]; unfold vp_in; decide) e1 ?_
  refine xi_aload_nS 3 dL_law_1590 rfl ?_
  refine xi_iload_n 0 dL_law_1591 rfl ?_
  refine xi_iconst (v := 2) dL_law_1592 (by decide) ?_
  refine xi_iadd (v := 2) dL_law_1593 (by decide) ?_
  refine xi_sld (v := x2) dL_law_1594 (by rw [hL]; unfold vp_in; decide) e2 ?_
  refine xi_aload_nS 3 dL_law_1595 rfl ?_
  refine xi_iload_n 0 dL_law_1596 rfl ?_
  refine xi_iconst (v := 3) dL_law_1597 (by decide) ?_
  refine xi_iadd (v := 3) dL_law_1598 (by decide) ?_
  refine xi_sld (v := x3) dL_law_1599 (by rw [hL]; unfold vp_in; decide) e3 ?_
  refine xi_callV (as := [.int x1, .int x2, .int x3]) (rest := []) dL_law_1600 (fx_merges G x1 x2 x3) mkX11_merges w_947 w_948 w_946 rfl rfl rfl rfl rfl (Nat.le_of_ble_eq_true rfl) (Nat.le_of_ble_eq_true rfl) (Nat.le_of_ble_eq_true rfl) (Nat.le_of_ble_eq_true rfl) (Nat.le_of_ble_eq_true rfl) ?_
  intro v M2 hq
  obtain ⟨rfl, rfl⟩ := hq
  show xW _ _ _ _ 1603 _ [.int (-2)] (MX 0 (fun _ => 0) rd0 mo0 (fun _ => 0) (fun _ => 0) (fun _ => 0)) _ _
  refine xi_aload_n 1 dL_law_1603 rfl ?_
  refine xi_aload_nS 3 dL_law_1604 rfl ?_
  refine xi_iload_n 0 dL_law_1605 rfl ?_
  refine xi_iconst (v := 1) dL_law_1606 (by decide) ?_
  refine xi_iadd (v := 1) dL_law_1607 (by decide) ?_
  refine xi_sld (v := x1) dL_law_1608 (by rw [hL]; unfold vp_in; decide) e1 ?_
  refine xi_aload_nS 3 dL_law_1609 rfl ?_
  refine xi_iload_n 0 dL_law_1610 rfl ?_
  refine xi_iconst (v := 2) dL_law_1611 (by decide) ?_
  refine xi_iadd (v := 2) dL_law_1612 (by decide) ?_
  refine xi_sld (v := x2) dL_law_1613 (by rw [hL]; unfold vp_in; decide) e2 ?_
  refine xi_aload_nS 3 dL_law_1614 rfl ?_
  refine xi_iload_n 0 dL_law_1615 rfl ?_
  refine xi_iconst (v := 3) dL_law_1616 (by decide) ?_
  refine xi_iadd (v := 3) dL_law_1617 (by decide) ?_
  refine xi_sld (v := x3) dL_law_1618 (by rw [hL]; unfold vp_in; decide) e3 ?_
  refine xi_callV (as := [.int x1, .int x2, .int x3]) (rest := [.int (-2)]) dL_law_1619 (fm_merges G x1 x2 x3) mkX12_merges w_1508 w_1509 w_1507 rfl rfl rfl rfl rfl (Nat.le_of_ble_eq_true rfl) (Nat.le_of_ble_eq_true rfl) (Nat.le_of_ble_eq_true rfl) (Nat.le_of_ble_eq_true rfl) (Nat.le_of_ble_eq_true rfl) ?_
  intro v M2 hq
  obtain ⟨rfl, rfl⟩ := hq
  show xW _ _ _ _ 1622 _ [.int (-2), .int (-2)] (MX 0 (fun _ => 0) rd0 mo0 (fun _ => 0) (fun _ => 0) (fun _ => 0)) _ _
  refine xi_icmp_eq_t (tgt := 1719) dL_law_1622 (by decide) (by decide) ?_
  exact law_tail G hL _ _ _ (Nat.le_of_ble_eq_true rfl) (Nat.le_of_ble_eq_true rfl)
set_option maxHeartbeats 4000000 in
set_option maxRecDepth 100000 in
theorem law_39 {nm : String} (G : xG) (hL : G.2.2.2.2.2.2.1 = 6) (x1 x2 x3 x4 x5 : Int32) (e1 : G.2.2.2.2.2.2.2 1 = x1) (e2 : G.2.2.2.2.2.2.2 2 = x2) (e3 : G.2.2.2.2.2.2.2 3 = x3) (e4 : G.2.2.2.2.2.2.2 4 = x4) (e5 : G.2.2.2.2.2.2.2 5 = x5) : xW G (mL nm) room_1 (xLZ G) 1627 [(3, .int 0), (2, .ref 149), (1, .ref 0), (0, .float 200)] [] M0 163 36018 := by
  rcases sl4 x1 with rfl | rfl | rfl | h
  · refine xi_aload_n 2 dL_law_1627 rfl ?_
    refine xi_aload_nS 3 dL_law_1628 rfl ?_
    refine xi_iload_n 0 dL_law_1629 rfl ?_
    refine xi_iconst (v := 1) dL_law_1630 (by decide) ?_
    refine xi_iadd (v := 1) dL_law_1631 (by decide) ?_
    refine xi_sld (v := 0) dL_law_1632 (by rw [hL]; unfold vp_in; decide) e1 ?_
    refine xi_callV (as := [.int 0]) (rest := []) dL_law_1633 (fx_drops_0 G) mkX11_drops w_952 w_953 w_951 rfl rfl rfl rfl rfl (Nat.le_of_ble_eq_true rfl) (Nat.le_of_ble_eq_true rfl) (Nat.le_of_ble_eq_true rfl) (Nat.le_of_ble_eq_true rfl) (Nat.le_of_ble_eq_true rfl) ?_
    intro v M2 hq
    obtain ⟨rfl, rfl⟩ := hq
    show xW _ _ _ _ 1636 _ [.int 0] (MX 0 (fun _ => 0) rd0 mo0 (fun _ => 0) (fun _ => 0) (fun _ => 0)) _ _
    refine xi_aload_n 1 dL_law_1636 rfl ?_
    refine xi_aload_nS 3 dL_law_1637 rfl ?_
    refine xi_iload_n 0 dL_law_1638 rfl ?_
    refine xi_iconst (v := 1) dL_law_1639 (by decide) ?_
    refine xi_iadd (v := 1) dL_law_1640 (by decide) ?_
    refine xi_sld (v := 0) dL_law_1641 (by rw [hL]; unfold vp_in; decide) e1 ?_
    refine xi_callV (as := [.int 0]) (rest := [.int 0]) dL_law_1642 (fm_drops_0 G) mkX12_drops w_1092 w_1093 w_1091 rfl rfl rfl rfl rfl (Nat.le_of_ble_eq_true rfl) (Nat.le_of_ble_eq_true rfl) (Nat.le_of_ble_eq_true rfl) (Nat.le_of_ble_eq_true rfl) (Nat.le_of_ble_eq_true rfl) ?_
    intro v M2 hq
    obtain ⟨rfl, rfl⟩ := hq
    show xW _ _ _ _ 1645 _ [.int 0, .int 0] (MX 0 (fun _ => 0) rd0 mo0 (fun _ => 0) (fun _ => 0) (fun _ => 0)) _ _
    refine xi_icmp_eq_t (tgt := 1719) dL_law_1645 (by decide) (by decide) ?_
    exact law_tail G hL _ _ _ (Nat.le_of_ble_eq_true rfl) (Nat.le_of_ble_eq_true rfl)
  · refine xi_aload_n 2 dL_law_1627 rfl ?_
    refine xi_aload_nS 3 dL_law_1628 rfl ?_
    refine xi_iload_n 0 dL_law_1629 rfl ?_
    refine xi_iconst (v := 1) dL_law_1630 (by decide) ?_
    refine xi_iadd (v := 1) dL_law_1631 (by decide) ?_
    refine xi_sld (v := 1) dL_law_1632 (by rw [hL]; unfold vp_in; decide) e1 ?_
    refine xi_callV (as := [.int 1]) (rest := []) dL_law_1633 (fx_drops_1 G) mkX11_drops w_952 w_953 w_951 rfl rfl rfl rfl rfl (Nat.le_of_ble_eq_true rfl) (Nat.le_of_ble_eq_true rfl) (Nat.le_of_ble_eq_true rfl) (Nat.le_of_ble_eq_true rfl) (Nat.le_of_ble_eq_true rfl) ?_
    intro v M2 hq
    obtain ⟨rfl, rfl⟩ := hq
    show xW _ _ _ _ 1636 _ [.int 0] (MX 0 (fun _ => 0) rd0 mo0 (fun _ => 0) (fun _ => 0) (fun _ => 0)) _ _
    refine xi_aload_n 1 dL_law_1636 rfl ?_
    refine xi_aload_nS 3 dL_law_1637 rfl ?_
    refine xi_iload_n 0 dL_law_1638 rfl ?_
    refine xi_iconst (v := 1) dL_law_1639 (by decide) ?_
    refine xi_iadd (v := 1) dL_law_1640 (by decide) ?_
    refine xi_sld (v := 1) dL_law_1641 (by rw [hL]; unfold vp_in; decide) e1 ?_
    refine xi_callV (as := [.int 1]) (rest := [.int 0]) dL_law_1642 (fm_drops_1 G) mkX12_drops w_1092 w_1093 w_1091 rfl rfl rfl rfl rfl (Nat.le_of_ble_eq_true rfl) (Nat.le_of_ble_eq_true rfl) (Nat.le_of_ble_eq_true rfl) (Nat.le_of_ble_eq_true rfl) (Nat.le_of_ble_eq_true rfl) ?_
    intro v M2 hq
    obtain ⟨rfl, rfl⟩ := hq
    show xW _ _ _ _ 1645 _ [.int 0, .int 0] (MX 0 (fun _ => 0) rd0 mo0 (fun _ => 0) (fun _ => 0) (fun _ => 0)) _ _
    refine xi_icmp_eq_t (tgt := 1719) dL_law_1645 (by decide) (by decide) ?_
    exact law_tail G hL _ _ _ (Nat.le_of_ble_eq_true rfl) (Nat.le_of_ble_eq_true rfl)
  · refine xi_aload_n 2 dL_law_1627 rfl ?_
    refine xi_aload_nS 3 dL_law_1628 rfl ?_
    refine xi_iload_n 0 dL_law_1629 rfl ?_
    refine xi_iconst (v := 1) dL_law_1630 (by decide) ?_
    refine xi_iadd (v := 1) dL_law_1631 (by decide) ?_
    refine xi_sld (v := 2) dL_law_1632 (by rw [hL]; unfold vp_in; decide) e1 ?_
    refine xi_callV (as := [.int 2]) (rest := []) dL_law_1633 (fx_drops_2 G) mkX11_drops w_952 w_953 w_951 rfl rfl rfl rfl rfl (Nat.le_of_ble_eq_true rfl) (Nat.le_of_ble_eq_true rfl) (Nat.le_of_ble_eq_true rfl) (Nat.le_of_ble_eq_true rfl) (Nat.le_of_ble_eq_true rfl) ?_
    intro v M2 hq
    obtain ⟨rfl, rfl⟩ := hq
    show xW _ _ _ _ 1636 _ [.int 0] (MX 0 (fun _ => 0) rd0 mo0 (fun _ => 0) (fun _ => 0) (fun _ => 0)) _ _
    refine xi_aload_n 1 dL_law_1636 rfl ?_
    refine xi_aload_nS 3 dL_law_1637 rfl ?_
    refine xi_iload_n 0 dL_law_1638 rfl ?_
    refine xi_iconst (v := 1) dL_law_1639 (by decide) ?_
    refine xi_iadd (v := 1) dL_law_1640 (by decide) ?_
    refine xi_sld (v := 2) dL_law_1641 (by rw [hL]; unfold vp_in; decide) e1 ?_
    refine xi_callV (as := [.int 2]) (rest := [.int 0]) dL_law_1642 (fm_drops_2 G) mkX12_drops w_1092 w_1093 w_1091 rfl rfl rfl rfl rfl (Nat.le_of_ble_eq_true rfl) (Nat.le_of_ble_eq_true rfl) (Nat.le_of_ble_eq_true rfl) (Nat.le_of_ble_eq_true rfl) (Nat.le_of_ble_eq_true rfl) ?_
    intro v M2 hq
    obtain ⟨rfl, rfl⟩ := hq
    show xW _ _ _ _ 1645 _ [.int 0, .int 0] (MX 0 (fun _ => 0) rd0 mo0 (fun _ => 0) (fun _ => 0) (fun _ => 0)) _ _
    refine xi_icmp_eq_t (tgt := 1719) dL_law_1645 (by decide) (by decide) ?_
    exact law_tail G hL _ _ _ (Nat.le_of_ble_eq_true rfl) (Nat.le_of_ble_eq_true rfl)
  · refine xi_aload_n 2 dL_law_1627 rfl ?_
    refine xi_aload_nS 3 dL_law_1628 rfl ?_
    refine xi_iload_n 0 dL_law_1629 rfl ?_
    refine xi_iconst (v := 1) dL_law_1630 (by decide) ?_
    refine xi_iadd (v := 1) dL_law_1631 (by decide) ?_
    refine xi_sld (v := x1) dL_law_1632 (by rw [hL]; unfold vp_in; decide) e1 ?_
    refine xi_callV (as := [.int x1]) (rest := []) dL_law_1633 (fx_drops_out G x1 h) mkX11_drops w_952 w_953 w_951 rfl rfl rfl rfl rfl (Nat.le_of_ble_eq_true rfl) (Nat.le_of_ble_eq_true rfl) (Nat.le_of_ble_eq_true rfl) (Nat.le_of_ble_eq_true rfl) (Nat.le_of_ble_eq_true rfl) ?_
    intro v M2 hq
    obtain ⟨rfl, rfl⟩ := hq
    show xW _ _ _ _ 1636 _ [.int (-2)] (MX 0 (fun _ => 0) rd0 mo0 (fun _ => 0) (fun _ => 0) (fun _ => 0)) _ _
    refine xi_aload_n 1 dL_law_1636 rfl ?_
    refine xi_aload_nS 3 dL_law_1637 rfl ?_
    refine xi_iload_n 0 dL_law_1638 rfl ?_
    refine xi_iconst (v := 1) dL_law_1639 (by decide) ?_
    refine xi_iadd (v := 1) dL_law_1640 (by decide) ?_
    refine xi_sld (v := x1) dL_law_1641 (by rw [hL]; unfold vp_in; decide) e1 ?_
    refine xi_callV (as := [.int x1]) (rest := [.int (-2)]) dL_law_1642 (fm_drops_out G x1 h) mkX12_drops w_1092 w_1093 w_1091 rfl rfl rfl rfl rfl (Nat.le_of_ble_eq_true rfl) (Nat.le_of_ble_eq_true rfl) (Nat.le_of_ble_eq_true rfl) (Nat.le_of_ble_eq_true rfl) (Nat.le_of_ble_eq_true rfl) ?_
    intro v M2 hq
    obtain ⟨rfl, rfl⟩ := hq
    show xW _ _ _ _ 1645 _ [.int (-2), .int (-2)] (MX 0 (fun _ => 0) rd0 mo0 (fun _ => 0) (fun _ => 0) (fun _ => 0)) _ _
    refine xi_icmp_eq_t (tgt := 1719) dL_law_1645 (by decide) (by decide) ?_
    exact law_tail G hL _ _ _ (Nat.le_of_ble_eq_true rfl) (Nat.le_of_ble_eq_true rfl)
set_option maxHeartbeats 4000000 in
set_option maxRecDepth 100000 in
theorem law_40 {nm : String} (G : xG) (hL : G.2.2.2.2.2.2.1 = 6) (x1 x2 x3 x4 x5 : Int32) (e1 : G.2.2.2.2.2.2.2 1 = x1) (e2 : G.2.2.2.2.2.2.2 2 = x2) (e3 : G.2.2.2.2.2.2.2 3 = x3) (e4 : G.2.2.2.2.2.2.2 4 = x4) (e5 : G.2.2.2.2.2.2.2 5 = x5) : xW G (mL nm) room_1 (xLZ G) 1650 [(3, .int 0), (2, .ref 149), (1, .ref 0), (0, .float 200)] [] M0 163 36018 := by
  refine xi_aload_n 2 dL_law_1650 rfl ?_
  refine xi_callV (as := []) (rest := []) dL_law_1651 (fx_undo G) mkX11_undo w_957 w_958 w_956 rfl rfl rfl rfl rfl (Nat.le_of_ble_eq_true rfl) (Nat.le_of_ble_eq_true rfl) (Nat.le_of_ble_eq_true rfl) (Nat.le_of_ble_eq_true rfl) (Nat.le_of_ble_eq_true rfl) ?_
  intro v M2 hq
  obtain ⟨rfl, rfl⟩ := hq
  show xW _ _ _ _ 1654 _ [.int (-1)] (MX 0 (fun _ => 0) rd0 mo0 (fun _ => 0) (fun _ => 0) (fun _ => 0)) _ _
  refine xi_aload_n 1 dL_law_1654 rfl ?_
  refine xi_callV (as := []) (rest := [.int (-1)]) dL_law_1655 (fm_undo G) mkX12_undo w_1088 w_1089 w_1087 rfl rfl rfl rfl rfl (Nat.le_of_ble_eq_true rfl) (Nat.le_of_ble_eq_true rfl) (Nat.le_of_ble_eq_true rfl) (Nat.le_of_ble_eq_true rfl) (Nat.le_of_ble_eq_true rfl) ?_
  intro v M2 hq
  obtain ⟨rfl, rfl⟩ := hq
  show xW _ _ _ _ 1658 _ [.int (-1), .int (-1)] (MX 0 (fun _ => 0) rd0 mo0 (fun _ => 0) (fun _ => 0) (fun _ => 0)) _ _
  refine xi_icmp_eq_t (tgt := 1719) dL_law_1658 (by decide) (by decide) ?_
  exact law_tail G hL _ _ _ (Nat.le_of_ble_eq_true rfl) (Nat.le_of_ble_eq_true rfl)
set_option maxHeartbeats 4000000 in
set_option maxRecDepth 100000 in
theorem law_41 {nm : String} (G : xG) (hL : G.2.2.2.2.2.2.1 = 6) (x1 x2 x3 x4 x5 : Int32) (e1 : G.2.2.2.2.2.2.2 1 = x1) (e2 : G.2.2.2.2.2.2.2 2 = x2) (e3 : G.2.2.2.2.2.2.2 3 = x3) (e4 : G.2.2.2.2.2.2.2 4 = x4) (e5 : G.2.2.2.2.2.2.2 5 = x5) : xW G (mL nm) room_1 (xLZ G) 1663 [(3, .int 0), (2, .ref 149), (1, .ref 0), (0, .float 200)] [] M0 163 36018 := by
  refine xi_aload_n 2 dL_law_1663 rfl ?_
  refine xi_aload_nS 3 dL_law_1664 rfl ?_
  refine xi_iload_n 0 dL_law_1665 rfl ?_
  refine xi_iconst (v := 1) dL_law_1666 (by decide) ?_
  refine xi_iadd (v := 1) dL_law_1667 (by decide) ?_
  refine xi_sld (v := x1) dL_law_1668 (by rw [hL]; unfold vp_in; decide) e1 ?_
  refine xi_aload_nS 3 dL_law_1669 rfl ?_
  refine xi_iload_n 0 dL_law_1670 rfl ?_
  refine xi_iconst (v := 2) dL_law_1671 (by decide) ?_
  refine xi_iadd (v := 2) dL_law_1672 (by decide) ?_
  refine xi_sld (v := x2) dL_law_1673 (by rw [hL]; unfold vp_in; decide) e2 ?_
  refine xi_callV (as := [.int x1, .int x2]) (rest := []) dL_law_1674 (fx_tell G x1 x2) mkX11_tell w_965 w_966 w_964 rfl rfl rfl rfl rfl (Nat.le_of_ble_eq_true rfl) (Nat.le_of_ble_eq_true rfl) (Nat.le_of_ble_eq_true rfl) (Nat.le_of_ble_eq_true rfl) (Nat.le_of_ble_eq_true rfl) ?_
  intro v M2 hq
  obtain ⟨rfl, rfl⟩ := hq
  show xW _ _ _ _ 1677 _ [.int (-2)] (MX 0 (fun _ => 0) rd0 mo0 (fun _ => 0) (fun _ => 0) (fun _ => 0)) _ _
  refine xi_aload_n 1 dL_law_1677 rfl ?_
  refine xi_aload_nS 3 dL_law_1678 rfl ?_
  refine xi_iload_n 0 dL_law_1679 rfl ?_
  refine xi_iconst (v := 1) dL_law_1680 (by decide) ?_
  refine xi_iadd (v := 1) dL_law_1681 (by decide) ?_
  refine xi_sld (v := x1) dL_law_1682 (by rw [hL]; unfold vp_in; decide) e1 ?_
  refine xi_aload_nS 3 dL_law_1683 rfl ?_
  refine xi_iload_n 0 dL_law_1684 rfl ?_
  refine xi_iconst (v := 2) dL_law_1685 (by decide) ?_
  refine xi_iadd (v := 2) dL_law_1686 (by decide) ?_
  refine xi_sld (v := x2) dL_law_1687 (by rw [hL]; unfold vp_in; decide) e2 ?_
  refine xi_callV (as := [.int x1, .int x2]) (rest := [.int (-2)]) dL_law_1688 (fm_tell G x1 x2) mkX12_tell w_1512 w_1513 w_1511 rfl rfl rfl rfl rfl (Nat.le_of_ble_eq_true rfl) (Nat.le_of_ble_eq_true rfl) (Nat.le_of_ble_eq_true rfl) (Nat.le_of_ble_eq_true rfl) (Nat.le_of_ble_eq_true rfl) ?_
  intro v M2 hq
  obtain ⟨rfl, rfl⟩ := hq
  show xW _ _ _ _ 1691 _ [.int (-2), .int (-2)] (MX 0 (fun _ => 0) rd0 mo0 (fun _ => 0) (fun _ => 0) (fun _ => 0)) _ _
  refine xi_icmp_eq_t (tgt := 1719) dL_law_1691 (by decide) (by decide) ?_
  exact law_tail G hL _ _ _ (Nat.le_of_ble_eq_true rfl) (Nat.le_of_ble_eq_true rfl)
set_option maxHeartbeats 4000000 in
set_option maxRecDepth 100000 in
theorem law_42 {nm : String} (G : xG) (hL : G.2.2.2.2.2.2.1 = 6) (x1 x2 x3 x4 x5 : Int32) (e1 : G.2.2.2.2.2.2.2 1 = x1) (e2 : G.2.2.2.2.2.2.2 2 = x2) (e3 : G.2.2.2.2.2.2.2 3 = x3) (e4 : G.2.2.2.2.2.2.2 4 = x4) (e5 : G.2.2.2.2.2.2.2 5 = x5) : xW G (mL nm) room_1 (xLZ G) 1696 [(3, .int 0), (2, .ref 149), (1, .ref 0), (0, .float 200)] [] M0 163 36018 := by
  refine xi_aload_n 2 dL_law_1696 rfl ?_
  refine xi_aload_nS 3 dL_law_1697 rfl ?_
  refine xi_iload_n 0 dL_law_1698 rfl ?_
  refine xi_iconst (v := 1) dL_law_1699 (by decide) ?_
  refine xi_iadd (v := 1) dL_law_1700 (by decide) ?_
  refine xi_sld (v := x1) dL_law_1701 (by rw [hL]; unfold vp_in; decide) e1 ?_
  refine xi_callV (as := [.int x1]) (rest := []) dL_law_1702 (fx_octet G x1) mkX11_octet w_998 w_999 w_997 rfl rfl rfl rfl rfl (Nat.le_of_ble_eq_true rfl) (Nat.le_of_ble_eq_true rfl) (Nat.le_of_ble_eq_true rfl) (Nat.le_of_ble_eq_true rfl) (Nat.le_of_ble_eq_true rfl) ?_
  intro v M2 hq
  obtain ⟨rfl, rfl⟩ := hq
  show xW _ _ _ _ 1705 _ [.int (-1)] (MX 0 (fun _ => 0) rd0 mo0 (fun _ => 0) (fun _ => 0) (fun _ => 0)) _ _
  refine xi_aload_n 1 dL_law_1705 rfl ?_
  refine xi_aload_nS 3 dL_law_1706 rfl ?_
  refine xi_iload_n 0 dL_law_1707 rfl ?_
  refine xi_iconst (v := 1) dL_law_1708 (by decide) ?_
  refine xi_iadd (v := 1) dL_law_1709 (by decide) ?_
  refine xi_sld (v := x1) dL_law_1710 (by rw [hL]; unfold vp_in; decide) e1 ?_
  refine xi_callV (as := [.int x1]) (rest := [.int (-1)]) dL_law_1711 (fm_octet G x1) mkX12_octet w_1537 w_1538 w_1536 rfl rfl rfl rfl rfl (Nat.le_of_ble_eq_true rfl) (Nat.le_of_ble_eq_true rfl) (Nat.le_of_ble_eq_true rfl) (Nat.le_of_ble_eq_true rfl) (Nat.le_of_ble_eq_true rfl) ?_
  intro v M2 hq
  obtain ⟨rfl, rfl⟩ := hq
  show xW _ _ _ _ 1714 _ [.int (-1), .int (-1)] (MX 0 (fun _ => 0) rd0 mo0 (fun _ => 0) (fun _ => 0) (fun _ => 0)) _ _
  refine xi_icmp_eq_t (tgt := 1719) dL_law_1714 (by decide) (by decide) ?_
  exact law_tail G hL _ _ _ (Nat.le_of_ble_eq_true rfl) (Nat.le_of_ble_eq_true rfl)
set_option maxHeartbeats 4000000 in
set_option maxRecDepth 100000 in
theorem law_switch {nm : String} (G : xG) (hL : G.2.2.2.2.2.2.1 = 6) : xW G (mL nm) room_1 (xLZ G) 27 [(3, .int 0), (2, .ref 149), (1, .ref 0), (0, .float 200)] [] M0 163 36018 := by
  refine xi_aload_nS 3 dL_law_27 rfl ?_
  refine xi_iload_n 0 dL_law_28 rfl ?_
  refine xi_sld dL_law_29 (by rw [hL]; unfold vp_in; decide) rfl ?_
  refine xi_bipush (v := 63) dL_law_30 (by decide) ?_
  obtain ⟨j, hj, e⟩ := pk_andE (G.2.2.2.2.2.2.2 (0 : Int32).toNatClampNeg) (m := 63) 6 (by decide)
  refine xi_iand (v := nI j) dL_law_32 e ?_
  have hj : j < 64 := hj
  by_cases h43 : j < 43
  · rcases (show j = 0 ∨ j = 1 ∨ j = 2 ∨ j = 3 ∨ j = 4 ∨ j = 5 ∨ j = 6 ∨ j = 7 ∨ j = 8 ∨ j = 9 ∨ j = 10 ∨ j = 11 ∨ j = 12 ∨ j = 13 ∨ j = 14 ∨ j = 15 ∨ j = 16 ∨ j = 17 ∨ j = 18 ∨ j = 19 ∨ j = 20 ∨ j = 21 ∨ j = 22 ∨ j = 23 ∨ j = 24 ∨ j = 25 ∨ j = 26 ∨ j = 27 ∨ j = 28 ∨ j = 29 ∨ j = 30 ∨ j = 31 ∨ j = 32 ∨ j = 33 ∨ j = 34 ∨ j = 35 ∨ j = 36 ∨ j = 37 ∨ j = 38 ∨ j = 39 ∨ j = 40 ∨ j = 41 ∨ j = 42 by omega) with rfl | rfl | rfl | rfl | rfl | rfl | rfl | rfl | rfl | rfl | rfl | rfl | rfl | rfl | rfl | rfl | rfl | rfl | rfl | rfl | rfl | rfl | rfl | rfl | rfl | rfl | rfl | rfl | rfl | rfl | rfl | rfl | rfl | rfl | rfl | rfl | rfl | rfl | rfl | rfl | rfl | rfl | rfl
    · exact xi_tableIn (off := 187) (tgt := 220) dL_law_33 (by decide) (by decide) (by decide) (by decide) (law_0 G hL _ _ _ _ _ rfl rfl rfl rfl rfl)
    · exact xi_tableIn (off := 250) (tgt := 283) dL_law_33 (by decide) (by decide) (by decide) (by decide) (law_1 G hL _ _ _ _ _ rfl rfl rfl rfl rfl)
    · exact xi_tableIn (off := 273) (tgt := 306) dL_law_33 (by decide) (by decide) (by decide) (by decide) (law_2 G hL _ _ _ _ _ rfl rfl rfl rfl rfl)
    · exact xi_tableIn (off := 296) (tgt := 329) dL_law_33 (by decide) (by decide) (by decide) (by decide) (law_3 G hL _ _ _ _ _ rfl rfl rfl rfl rfl)
    · exact xi_tableIn (off := 319) (tgt := 352) dL_law_33 (by decide) (by decide) (by decide) (by decide) (law_4 G hL _ _ _ _ _ rfl rfl rfl rfl rfl)
    · exact xi_tableIn (off := 342) (tgt := 375) dL_law_33 (by decide) (by decide) (by decide) (by decide) (law_5 G hL _ _ _ _ _ rfl rfl rfl rfl rfl)
    · exact xi_tableIn (off := 375) (tgt := 408) dL_law_33 (by decide) (by decide) (by decide) (by decide) (law_6 G hL _ _ _ _ _ rfl rfl rfl rfl rfl)
    · exact xi_tableIn (off := 408) (tgt := 441) dL_law_33 (by decide) (by decide) (by decide) (by decide) (law_7 G hL _ _ _ _ _ rfl rfl rfl rfl rfl)
    · exact xi_tableIn (off := 451) (tgt := 484) dL_law_33 (by decide) (by decide) (by decide) (by decide) (law_8 G hL _ _ _ _ _ rfl rfl rfl rfl rfl)
    · exact xi_tableIn (off := 494) (tgt := 527) dL_law_33 (by decide) (by decide) (by decide) (by decide) (law_9 G hL _ _ _ _ _ rfl rfl rfl rfl rfl)
    · exact xi_tableIn (off := 527) (tgt := 560) dL_law_33 (by decide) (by decide) (by decide) (by decide) (law_10 G hL _ _ _ _ _ rfl rfl rfl rfl rfl)
    · exact xi_tableIn (off := 560) (tgt := 593) dL_law_33 (by decide) (by decide) (by decide) (by decide) (law_11 G hL _ _ _ _ _ rfl rfl rfl rfl rfl)
    · exact xi_tableIn (off := 593) (tgt := 626) dL_law_33 (by decide) (by decide) (by decide) (by decide) (law_12 G hL _ _ _ _ _ rfl rfl rfl rfl rfl)
    · exact xi_tableIn (off := 636) (tgt := 669) dL_law_33 (by decide) (by decide) (by decide) (by decide) (law_13 G hL _ _ _ _ _ rfl rfl rfl rfl rfl)
    · exact xi_tableIn (off := 669) (tgt := 702) dL_law_33 (by decide) (by decide) (by decide) (by decide) (law_14 G hL _ _ _ _ _ rfl rfl rfl rfl rfl)
    · exact xi_tableIn (off := 692) (tgt := 725) dL_law_33 (by decide) (by decide) (by decide) (by decide) (law_15 G hL _ _ _ _ _ rfl rfl rfl rfl rfl)
    · exact xi_tableIn (off := 725) (tgt := 758) dL_law_33 (by decide) (by decide) (by decide) (by decide) (law_16 G hL _ _ _ _ _ rfl rfl rfl rfl rfl)
    · exact xi_tableIn (off := 768) (tgt := 801) dL_law_33 (by decide) (by decide) (by decide) (by decide) (law_17 G hL _ _ _ _ _ rfl rfl rfl rfl rfl)
    · exact xi_tableIn (off := 801) (tgt := 834) dL_law_33 (by decide) (by decide) (by decide) (by decide) (law_18 G hL _ _ _ _ _ rfl rfl rfl rfl rfl)
    · exact xi_tableIn (off := 844) (tgt := 877) dL_law_33 (by decide) (by decide) (by decide) (by decide) (law_19 G hL _ _ _ _ _ rfl rfl rfl rfl rfl)
    · exact xi_tableIn (off := 877) (tgt := 910) dL_law_33 (by decide) (by decide) (by decide) (by decide) (law_20 G hL _ _ _ _ _ rfl rfl rfl rfl rfl)
    · exact xi_tableIn (off := 920) (tgt := 953) dL_law_33 (by decide) (by decide) (by decide) (by decide) (law_21 G hL _ _ _ _ _ rfl rfl rfl rfl rfl)
    · exact xi_tableIn (off := 943) (tgt := 976) dL_law_33 (by decide) (by decide) (by decide) (by decide) (law_22 G hL _ _ _ _ _ rfl rfl rfl rfl rfl)
    · exact xi_tableIn (off := 986) (tgt := 1019) dL_law_33 (by decide) (by decide) (by decide) (by decide) (law_23 G hL _ _ _ _ _ rfl rfl rfl rfl rfl)
    · exact xi_tableIn (off := 1029) (tgt := 1062) dL_law_33 (by decide) (by decide) (by decide) (by decide) (law_24 G hL _ _ _ _ _ rfl rfl rfl rfl rfl)
    · exact xi_tableIn (off := 1052) (tgt := 1085) dL_law_33 (by decide) (by decide) (by decide) (by decide) (law_25 G hL _ _ _ _ _ rfl rfl rfl rfl rfl)
    · exact xi_tableIn (off := 1095) (tgt := 1128) dL_law_33 (by decide) (by decide) (by decide) (by decide) (law_26 G hL _ _ _ _ _ rfl rfl rfl rfl rfl)
    · exact xi_tableIn (off := 1128) (tgt := 1161) dL_law_33 (by decide) (by decide) (by decide) (by decide) (law_27 G hL _ _ _ _ _ rfl rfl rfl rfl rfl)
    · exact xi_tableIn (off := 1181) (tgt := 1214) dL_law_33 (by decide) (by decide) (by decide) (by decide) (law_28 G hL _ _ _ _ _ rfl rfl rfl rfl rfl)
    · exact xi_tableIn (off := 1224) (tgt := 1257) dL_law_33 (by decide) (by decide) (by decide) (by decide) (law_29 G hL _ _ _ _ _ rfl rfl rfl rfl rfl)
    · exact xi_tableIn (off := 1267) (tgt := 1300) dL_law_33 (by decide) (by decide) (by decide) (by decide) (law_30 G hL _ _ _ _ _ rfl rfl rfl rfl rfl)
    · exact xi_tableIn (off := 1290) (tgt := 1323) dL_law_33 (by decide) (by decide) (by decide) (by decide) (law_31 G hL _ _ _ _ _ rfl rfl rfl rfl rfl)
    · exact xi_tableIn (off := 1323) (tgt := 1356) dL_law_33 (by decide) (by decide) (by decide) (by decide) (law_32 G hL _ _ _ _ _ rfl rfl rfl rfl rfl)
    · exact xi_tableIn (off := 1356) (tgt := 1389) dL_law_33 (by decide) (by decide) (by decide) (by decide) (law_33 G hL _ _ _ _ _ rfl rfl rfl rfl rfl)
    · exact xi_tableIn (off := 1389) (tgt := 1422) dL_law_33 (by decide) (by decide) (by decide) (by decide) (law_34 G hL _ _ _ _ _ rfl rfl rfl rfl rfl)
    · exact xi_tableIn (off := 1422) (tgt := 1455) dL_law_33 (by decide) (by decide) (by decide) (by decide) (law_35 G hL _ _ _ _ _ rfl rfl rfl rfl rfl)
    · exact xi_tableIn (off := 1455) (tgt := 1488) dL_law_33 (by decide) (by decide) (by decide) (by decide) (law_36 G hL _ _ _ _ _ rfl rfl rfl rfl rfl)
    · exact xi_tableIn (off := 1508) (tgt := 1541) dL_law_33 (by decide) (by decide) (by decide) (by decide) (law_37 G hL _ _ _ _ _ rfl rfl rfl rfl rfl)
    · exact xi_tableIn (off := 1551) (tgt := 1584) dL_law_33 (by decide) (by decide) (by decide) (by decide) (law_38 G hL _ _ _ _ _ rfl rfl rfl rfl rfl)
    · exact xi_tableIn (off := 1594) (tgt := 1627) dL_law_33 (by decide) (by decide) (by decide) (by decide) (law_39 G hL _ _ _ _ _ rfl rfl rfl rfl rfl)
    · exact xi_tableIn (off := 1617) (tgt := 1650) dL_law_33 (by decide) (by decide) (by decide) (by decide) (law_40 G hL _ _ _ _ _ rfl rfl rfl rfl rfl)
    · exact xi_tableIn (off := 1630) (tgt := 1663) dL_law_33 (by decide) (by decide) (by decide) (by decide) (law_41 G hL _ _ _ _ _ rfl rfl rfl rfl rfl)
    · exact xi_tableIn (off := 1663) (tgt := 1696) dL_law_33 (by decide) (by decide) (by decide) (by decide) (law_42 G hL _ _ _ _ _ rfl rfl rfl rfl rfl)
  · exact xi_tableOut (tgt := 1719) dL_law_33 (Or.inr (by rw [nI_toInt (by omega)]; omega)) (by decide) (law_tail G hL _ _ _ (Nat.le_of_ble_eq_true rfl) (Nat.le_of_ble_eq_true rfl))
set_option maxHeartbeats 4000000 in
set_option maxRecDepth 100000 in
theorem law_full {nm : String} (G : xG) (hL : G.2.2.2.2.2.2.1 = 6) : xW G (mL nm) room_1 (xLZ G) 18 [(3, .int 0), (2, .ref 149), (1, .ref 0), (0, .float 200)] [] M0 163 36018 := by
  refine xi_iload_n 0 dL_law_18 rfl ?_
  refine xi_aload_nS 3 dL_law_19 rfl ?_
  refine xi_slen (v := 6) dL_law_20 (by rw [hL]; decide) ?_
  refine xi_bipush (v := 6) dL_law_21 (by decide) ?_
  refine xi_isub (v := 0) dL_law_23 (by decide) ?_
  refine xi_icmp_gt_f (tgt := 1725) dL_law_24 (by decide) (by decide) ?_
  exact law_switch G hL
def MA : xMem := [.inr (8, [.ref 1, .ref 3, .ref 5, .ref 10, .ref 11, .ref 84, .ref 90, .ref 98, .ref 141, .ref 145]), .inr (1, [.ref 2, .int 0]), xzb 400, .inr (1, [.ref 4, .int 0]), xzb 256, .inr (6, [.ref 6, .int 0, .int (-1), .ref 1, .int 0, .int 0, .int 0, .int 0]), .inr (5, [.int 0, .int 0, .ref 7, .ref 8, .ref 9]), xz 9, xz 9, xz 81, .inl (2, 3, .inr (.inr (.inr (.inr (va_up (va_up (va_up (fun _ => none) 0 (some 12)) 1 (some 36)) 2 (some 60)))))), .inl (3, 3, .inr (.inr (.inr (.inr (va_up (va_up (va_up (fun _ => none) 0 (some 16)) 1 (some 40)) 2 (some 64)))))), .inr (5, [.int 0, .int 0, .ref 13, .ref 14, .ref 15]), xz 9, xz 9, xz 81, .inr (3, [.ref 17, .ref 18]), .inl (4, 7, .inr (.inr (.inr (.inr (va_up (va_up (va_up (va_up (va_up (va_up (va_up (fun _ => none) 0 (some 22)) 1 (some 24)) 2 (some 26)) 3 (some 28)) 4 (some 30)) 5 (some 32)) 6 (some 34)))))), .inr (5, [.int 0, .int 0, .ref 19, .ref 20, .ref 21]), xz 9, xz 9, xz 81, .inr (2, [.int 0, .int 0, .int 0, .int 0, .ref 23]), xz 9, .inr (2, [.int 0, .int 0, .int 0, .int 0, .ref 25]), xz 9, .inr (2, [.int 0, .int 0, .int 0, .int 0, .ref 27]), xz 9, .inr (2, [.int 0, .int 0, .int 0, .int 0, .ref 29]), xz 9, .inr (2, [.int 0, .int 0, .int 0, .int 0, .ref 31]), xz 9, .inr (2, [.int 0, .int 0, .int 0, .int 0, .ref 33]), xz 9, .inr (2, [.int 0, .int 0, .int 0, .int 0, .ref 35]), xz 9, .inr (5, [.int 0, .int 0, .ref 37, .ref 38, .ref 39]), xz 9, xz 9, xz 81, .inr (3, [.ref 41, .ref 42]), .inl (4, 7, .inr (.inr (.inr (.inr (va_up (va_up (va_up (va_up (va_up (va_up (va_up (fun _ => none) 0 (some 46)) 1 (some 48)) 2 (some 50)) 3 (some 52)) 4 (some 54)) 5 (some 56)) 6 (some 58)))))), .inr (5, [.int 0, .int 0, .ref 43, .ref 44, .ref 45]), xz 9, xz 9, xz 81, .inr (2, [.int 0, .int 0, .int 0, .int 0, .ref 47]), xz 9, .inr (2, [.int 0, .int 0, .int 0, .int 0, .ref 49]), xz 9, .inr (2, [.int 0, .int 0, .int 0, .int 0, .ref 51]), xz 9, .inr (2, [.int 0, .int 0, .int 0, .int 0, .ref 53]), xz 9, .inr (2, [.int 0, .int 0, .int 0, .int 0, .ref 55]), xz 9, .inr (2, [.int 0, .int 0, .int 0, .int 0, .ref 57]), xz 9, .inr (2, [.int 0, .int 0, .int 0, .int 0, .ref 59]), xz 9, .inr (5, [.int 0, .int 0, .ref 61, .ref 62, .ref 63]), xz 9, xz 9, xz 81, .inr (3, [.ref 65, .ref 66]), .inl (4, 7, .inr (.inr (.inr (.inr (va_up (va_up (va_up (va_up (va_up (va_up (va_up (fun _ => none) 0 (some 70)) 1 (some 72)) 2 (some 74)) 3 (some 76)) 4 (some 78)) 5 (some 80)) 6 (some 82)))))), .inr (5, [.int 0, .int 0, .ref 67, .ref 68, .ref 69]), xz 9, xz 9, xz 81, .inr (2, [.int 0, .int 0, .int 0, .int 0, .ref 71]), xz 9, .inr (2, [.int 0, .int 0, .int 0, .int 0, .ref 73]), xz 9, .inr (2, [.int 0, .int 0, .int 0, .int 0, .ref 75]), xz 9, .inr (2, [.int 0, .int 0, .int 0, .int 0, .ref 77]), xz 9, .inr (2, [.int 0, .int 0, .int 0, .int 0, .ref 79]), xz 9, .inr (2, [.int 0, .int 0, .int 0, .int 0, .ref 81]), xz 9, .inr (2, [.int 0, .int 0, .int 0, .int 0, .ref 83]), xz 9, .inr (7, [.ref 85, .ref 86, .ref 87, .ref 88, .ref 89]), xz 4608, xz 4608, xz 4608, xz 512, xz 512, .inr (0, [.ref 91, .ref 95, .ref 96, .ref 97]), .inr (5, [.int 0, .int 0, .ref 92, .ref 93, .ref 94]), xz 9, xz 9, xz 81, xz 9, xz 4096, xz 4096, .inr (4, [.int 0, .int 0, .ref 99, .ref 100]), xz 10, .inl (2, 10, .inr (.inr (.inr (.inr (va_up (va_up (va_up (va_up (va_up (va_up (va_up (va_up (va_up (va_up (fun _ => none) 0 (some 101)) 1 (some 105)) 2 (some 109)) 3 (some 113)) 4 (some 117)) 5 (some 121)) 6 (some 125)) 7 (some 129)) 8 (some 133)) 9 (some 137)))))), .inr (5, [.int 0, .int 0, .ref 102, .ref 103, .ref 104]), xz 9, xz 9, xz 81, .inr (5, [.int 0, .int 0, .ref 106, .ref 107, .ref 108]), xz 9, xz 9, xz 81, .inr (5, [.int 0, .int 0, .ref 110, .ref 111, .ref 112]), xz 9, xz 9, xz 81, .inr (5, [.int 0, .int 0, .ref 114, .ref 115, .ref 116]), xz 9, xz 9, xz 81, .inr (5, [.int 0, .int 0, .ref 118, .ref 119, .ref 120]), xz 9, xz 9, xz 81, .inr (5, [.int 0, .int 0, .ref 122, .ref 123, .ref 124]), xz 9, xz 9, xz 81, .inr (5, [.int 0, .int 0, .ref 126, .ref 127, .ref 128]), xz 9, xz 9, xz 81, .inr (5, [.int 0, .int 0, .ref 130, .ref 131, .ref 132]), xz 9, xz 9, xz 81, .inr (5, [.int 0, .int 0, .ref 134, .ref 135, .ref 136]), xz 9, xz 9, xz 81, .inr (5, [.int 0, .int 0, .ref 138, .ref 139, .ref 140]), xz 9, xz 9, xz 81, .inr (5, [.int 0, .int 0, .ref 142, .ref 143, .ref 144]), xz 9, xz 9, xz 81, .inr (5, [.int 0, .int 0, .ref 146, .ref 147, .ref 148]), xz 9, xz 9, xz 81]
set_option maxHeartbeats 4000000 in
set_option maxRecDepth 100000 in
theorem law_start {nm : String} (G : xG) (hL : G.2.2.2.2.2.2.1 ≤ 6) : xW G (mL nm) room_1 (xLZ G) 0 [(0, .float 200)] [] [] 0 0 := by
  refine xi_new (i := 0) (ci := 8) (fs := [.null, .null, .null, .null, .null, .null, .null, .null, .null, .null]) (M' := [.inr (8, [.null, .null, .null, .null, .null, .null, .null, .null, .null, .null])]) dL_law_0 rfl ok_8 w_22 w_23 w_1 nf_8 rfl rfl rfl (Nat.le_of_ble_eq_true rfl) (Nat.le_of_ble_eq_true rfl) ?_
  refine xi_dup dL_law_3 rfl ?_
  refine xi_callI (as := []) (rest := [.ref 0]) dL_law_4 (ct_X11_init G [] 0 rfl _ rfl) mkX11_init w_25 w_24 rfl rfl rfl rfl (Nat.le_of_ble_eq_true rfl) (Nat.le_of_ble_eq_true rfl) (Nat.le_of_ble_eq_true rfl) (Nat.le_of_ble_eq_true rfl) (Nat.le_of_ble_eq_true rfl) ?_
  intro v M2 hq
  obtain ⟨rfl, rfl⟩ := hq
  show xW _ _ _ _ 7 _ [.ref 0] MA _ _
  refine xi_astore_n (lv' := [(1, .ref 0), (0, .float 200)]) dL_law_7 (Nat.le_of_ble_eq_true rfl) rfl ?_
  refine xi_new (i := 149) (ci := 9) (fs := [.null, .null, .null, .int 0, .null, .int 0, .int 0, .int 0, .int 0, .int 0, .int 0, .int 0, .int 0, .null, .null, .null, .null, .int 0, .int 0, .int 0, .null, .null, .null, .null, .null, .int 0]) (M' := MA ++ [.inr (9, [.null, .null, .null, .int 0, .null, .int 0, .int 0, .int 0, .int 0, .int 0, .int 0, .int 0, .int 0, .null, .null, .null, .null, .int 0, .int 0, .int 0, .null, .null, .null, .null, .null, .int 0])]) dL_law_8 rfl ok_9 w_1002 w_1003 w_11 nf_9 rfl rfl rfl (Nat.le_of_ble_eq_true rfl) (Nat.le_of_ble_eq_true rfl) ?_
  refine xi_dup dL_law_11 rfl ?_
  refine xi_callI (as := []) (rest := [.ref 149]) dL_law_12 (ct_X12_init G MA 149 rfl _ rfl) mkX12_init w_1005 w_1004 rfl rfl rfl rfl (Nat.le_of_ble_eq_true rfl) (Nat.le_of_ble_eq_true rfl) (Nat.le_of_ble_eq_true rfl) (Nat.le_of_ble_eq_true rfl) (Nat.le_of_ble_eq_true rfl) ?_
  intro v M2 hq
  obtain ⟨rfl, rfl⟩ := hq
  show xW _ _ _ _ 15 _ [.ref 149] M0 163 36018
  refine xi_astore_n (lv' := [(2, .ref 149), (1, .ref 0), (0, .float 200)]) dL_law_15 (Nat.le_of_ble_eq_true rfl) rfl ?_
  refine xi_iconst (v := 0) dL_law_16 (by decide) ?_
  refine xi_istore_n (lv' := [(3, .int 0), (2, .ref 149), (1, .ref 0), (0, .float 200)]) dL_law_17 (Nat.le_of_ble_eq_true rfl) rfl ?_
  show xW G (mL nm) room_1 (xLZ G) 18 [(3, .int 0), (2, .ref 149), (1, .ref 0), (0, .float 200)] [] M0 163 36018
  rcases (show G.2.2.2.2.2.2.1 = 0 ∨ G.2.2.2.2.2.2.1 = 1 ∨ G.2.2.2.2.2.2.1 = 2 ∨ G.2.2.2.2.2.2.1 = 3 ∨ G.2.2.2.2.2.2.1 = 4 ∨ G.2.2.2.2.2.2.1 = 5 ∨ G.2.2.2.2.2.2.1 = 6 by omega) with h | h | h | h | h | h | h
  · exact law_short_0 G h
  · exact law_short_1 G h
  · exact law_short_2 G h
  · exact law_short_3 G h
  · exact law_short_4 G h
  · exact law_short_5 G h
  · exact law_full G h
