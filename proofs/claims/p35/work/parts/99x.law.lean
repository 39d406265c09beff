/-! THE CLAIM OUT OF ONE WALK OF THE LAW'S BODY. Your part is whole_start (and what it stands on); all else here is the same for every law, but numbers. -/
def R_law : String := "ThinRowLaw"
def lw_P (b : Addr) (xs : List Int32) (args : Array Value) (s : State) : Prop := args = #[.ref b] ∧ s.IntsAt b xs ∧ xs.length ≤ 3072 ∧ (Jvm.Cond.and given_1 narrow_1).before args s = true
def lw_Q (_ : Array Value) (s : State) (o : Outcome) (t : State) : Prop := o = .returned (some (.int 1)) ∧ Framed s o t [] 600000 7302250
def lw_Z (below : List Frame) (a : Array Value) (s : State) : State → Prop := fun t => ∃ o, t.status = .running ∧ Ended t below o ∧ lw_Q a s o t
/-- the law's own end, with 1 on the stack, nothing written that was there before, its room as the claim has it -/
theorem lw_ret {p : Program} {l : Launch} {e : Env} {s : State} {m : MethodId} {below : List Frame} {meth : Method} {c : Code} {b : Nat} (hx : p.tables.exec = Jvm.exec) (hb : c.code = code) (hr : meth.sig.returnType = ret) (hlocks : meth.locks = false) {pc : Nat} {H : Heap} {ls : Array Slot} (hdg : decode code pc = .ok (.ireturn, 1)) : W p l e room_1 s m #[Value.ref b] below meth c H [] 600000 7302250 (lw_Z below #[Value.ref b] s) (F0 m pc ls [.int 1]) := by
  intro T hT X
  obtain ⟨fs, hret, hrun, hended, hW, hframe⟩ := X.leave (v := some (.int 1)) (hlocks := hlocks) (fun h => by rw [hr] at h; cases h)
  have hmeth' : T.vm.method? m = some meth := X.method'
  refine ⟨T.setFrames fs, ?_, .returned (some (.int 1)), hrun, hended, rfl, ⟨_, rfl⟩, hW, hframe⟩
  jvm_step X.here [X.here.top, hx, hb, hdg, hmeth', hr, ret, narrow_b1]
  (try refine ⟨rfl, ?_⟩); (try refine ⟨rfl, ?_⟩)
  first | (intro acts; rw [hret _ acts rfl rfl rfl]) | rw [hret _ _ rfl rfl rfl]
  exact Steps.refl _
/-- what holds at the law's entry: the machine, the code, the tables' words (any of lw_tbl by 'hts w (by decide +kernel)'), the script of L ints xs at the cell b, what the Statement gives of the start (any of its parts by flat_of_before) -/
def lw_At (p : Program) (s : State) (m : MethodId) (meth : Method) (c : Code) (b L : Nat) (xs : Nat → Int32) : Prop :=
  p.tables.exec = Jvm.exec ∧ c.code = code ∧ meth.sig.returnType = ret ∧ c.maxLocals = 4 ∧ s.vm.findClass R_law = some m.cls ∧ (∀ w ∈ lw_tbl, w.before #[Value.ref b] s = true) ∧ va_X b L xs s s.heap ∧ b < s.heap.size ∧ meth.locks = false ∧ (Jvm.Cond.and given_1 narrow_1).before #[Value.ref b] s = true
abbrev mL (nm : String) : xM := (⟨RL, nm, "([I)Z"⟩, code, 4, ret)
/-- the law's end: as lw_Z says, if the heap that it began with ends at the base -/
def xLZ (G : xG) : xZ := fun below args s t => s.heap.size = G.2.2.2.1 → lw_Z below args s t
theorem xi_lret {nm : String} {G : xG} {pc : Nat} {lv : List (Nat × Value)} {M : xMem} {k n : Nat} (hdg : decode code pc = .ok (.ireturn, 1)) (hk : k ≤ 600000) (hn : n ≤ 7302250) : xW G (mL nm) room_1 (xLZ G) pc lv [.int 1] M k n := by
  intro p e s m args below meth c H locs ls F hR hL hl
  by_cases hs : s.heap.size = G.2.2.2.1
  · refine va_forget (fun q hq => by rw [hs]; exact hL q hq) ?_
    refine W.widen hk hn ?_
    have hx := F.1
    have hb : c.code = code := F.2.1
    have hr : meth.sig.returnType = ret := F.2.2.2.1
    intro T hT X
    obtain ⟨fs, hret, hrun, hended, hW, hframe⟩ := X.leave (v := some (.int 1)) (hlocks := F.2.2.2.2.2.2.1) (fun h => by rw [hr] at h; cases h)
    have hmeth' : T.vm.method? m = some meth := X.method'
    refine ⟨T.setFrames fs, ?_, fun _ => ⟨.returned (some (.int 1)), hrun, hended, rfl, ⟨_, rfl⟩, hW, hframe⟩⟩
    show Steps p.tables e below (T.setTop (F0 m pc ls [.int 1])) _
    jvm_step X.here [X.here.top, hx, hb, hdg, hmeth', hr, ret, narrow_b1]
    (try refine ⟨rfl, ?_⟩); (try refine ⟨rfl, ?_⟩)
    first | (intro acts; rw [hret _ acts rfl rfl rfl]) | rw [hret _ _ rfl rfl rfl]
    exact Steps.refl _
  · intro T hT X
    exact ⟨_, Steps.refl _, fun h => absurd h hs⟩
/-- the law's locals -/
abbrev LV (i : Int32) : List (Nat × Value) := [(3, .int i), (2, .ref 149), (1, .ref 0), (0, .float 200)]
/-- the script's int at i + d -/
def XA (G : xG) (i d x : Int32) : Prop := vp_in (i + d) G.2.2.2.2.2.2.1 ∧ G.2.2.2.2.2.2.2 (i + d).toNatClampNeg = x
theorem vin {a L : Nat} (h : a < L) (hL : L ≤ 3072) : vp_in (nI a) L := by
  intro q
  rcases q with q | q
  · rw [li_0, nI_ltP (by omega) (by omega)] at q
    omega
  · rw [nI_cl (by omega)] at q
    omega
theorem XA.of {G : xG} {q d : Nat} (h : 6 * q + d < G.2.2.2.2.2.2.1) (hL : G.2.2.2.2.2.2.1 ≤ 3072) : XA G (nI (6 * q)) (nI d) (G.2.2.2.2.2.2.2 (nI (6 * q) + nI d).toNatClampNeg) := ⟨by rw [nI_add]; exact vin h hL, rfl⟩
theorem lx {L q : Nat} (h : L < 6 * q + 6) (hL : L ≤ 3072) (hq : q ≤ 600) : nI L - 6 < nI (6 * q) := by
  by_cases h6 : 6 ≤ L
  · rw [li_6, nI_sub h6, nI_ltP (by omega) (by omega)]
    omega
  · have h2 : ¬ nI (6 * q) < 0 := by
      rw [li_0, nI_ltP (by omega) (by omega)]
      omega
    have h1 : nI L - 6 < 0 := by
      rcases (show L = 0 ∨ L = 1 ∨ L = 2 ∨ L = 3 ∨ L = 4 ∨ L = 5 by omega) with rfl | rfl | rfl | rfl | rfl | rfl <;> decide
    exact Int32.lt_of_lt_of_le h1 (Int32.not_lt.mp h2)
theorem ly {L q : Nat} (h : 6 * q + 6 ≤ L) (hL : L ≤ 3072) : ¬ nI L - 6 < nI (6 * q) := by
  rw [li_6, nI_sub (by omega), nI_ltP (by omega) (by omega)]
  omega
theorem rm_c {k : Nat} (h : k ≤ 600000) : k ≤ room_1.cells := h
theorem rm_s {n : Nat} (h : n ≤ 7302250) : n ≤ room_1.slots := h
set_option maxHeartbeats 4000000 in
set_option maxRecDepth 100000 in
theorem law_0 {nm : String} (G : xG) (i x1 x2 x3 x4 x5 : Int32) (e1 : XA G i (nI 1) x1) (e2 : XA G i (nI 2) x2) (e3 : XA G i (nI 3) x3) (e4 : XA G i (nI 4) x4) (e5 : XA G i (nI 5) x5) {σ : St} {Gb : xMem} {k n : Nat} (hI : INV3 σ) (hk : k ≤ 599000) (hn : n ≤ 7300000) (K : ∀ (w : St) (Gb' : xMem) (k' n' : Nat), INV3 w → k' ≤ k + 1 → n' ≤ n + 5 → xW G (mL nm) room_1 (xLZ G) 1719 (LV i) [] (mem w Gb') k' n') : xW G (mL nm) room_1 (xLZ G) 220 (LV i) [] (mem σ Gb) k n := by
  obtain ⟨r, u, f1, r2, w, f2, hw, -⟩ := z3_feed hI x1 x2 x3 x4 x5
  refine xi_aload_n 2 dL_law_220 rfl ?_
  refine xi_aload_nS 3 dL_law_221 rfl ?_
  refine xi_iload_n 0 dL_law_222 rfl ?_
  refine xi_iconst (v := nI 1) dL_law_223 (by decide) ?_
  refine xi_iadd (v := i + nI 1) dL_law_224 rfl ?_
  refine xi_sld (v := x1) dL_law_225 e1.1 e1.2 ?_
  refine xi_aload_nS 3 dL_law_226 rfl ?_
  refine xi_iload_n 0 dL_law_227 rfl ?_
  refine xi_iconst (v := nI 2) dL_law_228 (by decide) ?_
  refine xi_iadd (v := i + nI 2) dL_law_229 rfl ?_
  refine xi_sld (v := x2) dL_law_230 e2.1 e2.2 ?_
  refine xi_aload_nS 3 dL_law_231 rfl ?_
  refine xi_iload_n 0 dL_law_232 rfl ?_
  refine xi_iconst (v := nI 3) dL_law_233 (by decide) ?_
  refine xi_iadd (v := i + nI 3) dL_law_234 rfl ?_
  refine xi_sld (v := x3) dL_law_235 e3.1 e3.2 ?_
  refine xi_aload_nS 3 dL_law_236 rfl ?_
  refine xi_iload_n 0 dL_law_237 rfl ?_
  refine xi_iconst (v := nI 4) dL_law_238 (by decide) ?_
  refine xi_iadd (v := i + nI 4) dL_law_239 rfl ?_
  refine xi_sld (v := x4) dL_law_240 e4.1 e4.2 ?_
  refine xi_aload_nS 3 dL_law_241 rfl ?_
  refine xi_iload_n 0 dL_law_242 rfl ?_
  refine xi_iconst (v := nI 5) dL_law_243 (by decide) ?_
  refine xi_iadd (v := i + nI 5) dL_law_244 rfl ?_
  refine xi_sld (v := x5) dL_law_245 e5.1 e5.2 ?_
  refine xi_callV (as := [.int x1, .int x2, .int x3, .int x4, .int x5]) (rest := []) dL_law_246 (KX11_feed G Gb x1 x2 x3 x4 x5 σ r u f1) mkX11_feed w_274 w_275 w_273 (mem_get sh_0) rfl rfl rfl rfl (Nat.le_of_ble_eq_true rfl) (Nat.le_of_ble_eq_true rfl) (Nat.le_of_ble_eq_true rfl) (rm_c (by omega)) (rm_s (by omega)) ?_
  intro v M2 hq
  obtain ⟨rfl, rfl⟩ := hq
  show xW G (mL nm) room_1 (xLZ G) 249 (LV i) [.int r] (mem u Gb) k n
  refine xi_pop dL_law_249 rfl ?_
  refine xi_aload_n 1 dL_law_250 rfl ?_
  refine xi_aload_nS 3 dL_law_251 rfl ?_
  refine xi_iload_n 0 dL_law_252 rfl ?_
  refine xi_iconst (v := nI 1) dL_law_253 (by decide) ?_
  refine xi_iadd (v := i + nI 1) dL_law_254 rfl ?_
  refine xi_sld (v := x1) dL_law_255 e1.1 e1.2 ?_
  refine xi_aload_nS 3 dL_law_256 rfl ?_
  refine xi_iload_n 0 dL_law_257 rfl ?_
  refine xi_iconst (v := nI 2) dL_law_258 (by decide) ?_
  refine xi_iadd (v := i + nI 2) dL_law_259 rfl ?_
  refine xi_sld (v := x2) dL_law_260 e2.1 e2.2 ?_
  refine xi_aload_nS 3 dL_law_261 rfl ?_
  refine xi_iload_n 0 dL_law_262 rfl ?_
  refine xi_iconst (v := nI 3) dL_law_263 (by decide) ?_
  refine xi_iadd (v := i + nI 3) dL_law_264 rfl ?_
  refine xi_sld (v := x3) dL_law_265 e3.1 e3.2 ?_
  refine xi_aload_nS 3 dL_law_266 rfl ?_
  refine xi_iload_n 0 dL_law_267 rfl ?_
  refine xi_iconst (v := nI 4) dL_law_268 (by decide) ?_
  refine xi_iadd (v := i + nI 4) dL_law_269 rfl ?_
  refine xi_sld (v := x4) dL_law_270 e4.1 e4.2 ?_
  refine xi_aload_nS 3 dL_law_271 rfl ?_
  refine xi_iload_n 0 dL_law_272 rfl ?_
  refine xi_iconst (v := nI 5) dL_law_273 (by decide) ?_
  refine xi_iadd (v := i + nI 5) dL_law_274 rfl ?_
  refine xi_sld (v := x5) dL_law_275 e5.1 e5.2 ?_
  refine xi_callV (as := [.int x1, .int x2, .int x3, .int x4, .int x5]) (rest := []) dL_law_276 (KX12_feed G Gb x1 x2 x3 x4 x5 u r2 w f2) mkX12_feed w_1123 w_1124 w_1122 (mem_get sh_149) rfl rfl rfl rfl (Nat.le_of_ble_eq_true rfl) (Nat.le_of_ble_eq_true rfl) (Nat.le_of_ble_eq_true rfl) (rm_c (by omega)) (rm_s (by omega)) ?_
  intro v M2 hq
  obtain ⟨rfl, l, -, rfl⟩ := hq
  show xW G (mL nm) room_1 (xLZ G) 279 (LV i) [.int r2] (mem w (Gb ++ l)) (k + 1) (n + 5)
  refine xi_pop dL_law_279 rfl ?_
  refine xi_goto (tgt := 1719) dL_law_280 (by decide) ?_
  exact K w _ _ _ hw (by omega) (by omega)
set_option maxHeartbeats 4000000 in
set_option maxRecDepth 100000 in
theorem law_1 {nm : String} (G : xG) (i x1 x2 x3 x4 x5 : Int32) (e1 : XA G i (nI 1) x1) (e2 : XA G i (nI 2) x2) (e3 : XA G i (nI 3) x3) (e4 : XA G i (nI 4) x4) (e5 : XA G i (nI 5) x5) {σ : St} {Gb : xMem} {k n : Nat} (hI : INV3 σ) (hk : k ≤ 599000) (hn : n ≤ 7300000) (K : ∀ (w : St) (Gb' : xMem) (k' n' : Nat), INV3 w → k' ≤ k + 1 → n' ≤ n + 5 → xW G (mL nm) room_1 (xLZ G) 1719 (LV i) [] (mem w Gb') k' n') : xW G (mL nm) room_1 (xLZ G) 283 (LV i) [] (mem σ Gb) k n := by
  obtain ⟨r, u, f1, r2, w, f2, hw, -⟩ := z3_end hI x1
  refine xi_aload_n 2 dL_law_283 rfl ?_
  refine xi_aload_nS 3 dL_law_284 rfl ?_
  refine xi_iload_n 0 dL_law_285 rfl ?_
  refine xi_iconst (v := nI 1) dL_law_286 (by decide) ?_
  refine xi_iadd (v := i + nI 1) dL_law_287 rfl ?_
  refine xi_sld (v := x1) dL_law_288 e1.1 e1.2 ?_
  refine xi_callV (as := [.int x1]) (rest := []) dL_law_289 (KX11_end G Gb x1 σ r u f1) mkX11_end w_291 w_292 w_290 (mem_get sh_0) rfl rfl rfl rfl (Nat.le_of_ble_eq_true rfl) (Nat.le_of_ble_eq_true rfl) (Nat.le_of_ble_eq_true rfl) (rm_c (by omega)) (rm_s (by omega)) ?_
  intro v M2 hq
  obtain ⟨rfl, rfl⟩ := hq
  show xW G (mL nm) room_1 (xLZ G) 292 (LV i) [.int r] (mem u Gb) k n
  refine xi_pop dL_law_292 rfl ?_
  refine xi_aload_n 1 dL_law_293 rfl ?_
  refine xi_aload_nS 3 dL_law_294 rfl ?_
  refine xi_iload_n 0 dL_law_295 rfl ?_
  refine xi_iconst (v := nI 1) dL_law_296 (by decide) ?_
  refine xi_iadd (v := i + nI 1) dL_law_297 rfl ?_
  refine xi_sld (v := x1) dL_law_298 e1.1 e1.2 ?_
  refine xi_callV (as := [.int x1]) (rest := []) dL_law_299 (KX12_end G Gb x1 u r2 w f2) mkX12_end w_1127 w_1128 w_1126 (mem_get sh_149) rfl rfl rfl rfl (Nat.le_of_ble_eq_true rfl) (Nat.le_of_ble_eq_true rfl) (Nat.le_of_ble_eq_true rfl) (rm_c (by omega)) (rm_s (by omega)) ?_
  intro v M2 hq
  obtain ⟨rfl, rfl⟩ := hq
  show xW G (mL nm) room_1 (xLZ G) 302 (LV i) [.int r2] (mem w Gb) k n
  refine xi_pop dL_law_302 rfl ?_
  refine xi_goto (tgt := 1719) dL_law_303 (by decide) ?_
  exact K w _ _ _ hw (by omega) (by omega)
set_option maxHeartbeats 4000000 in
set_option maxRecDepth 100000 in
theorem law_2 {nm : String} (G : xG) (i x1 x2 x3 x4 x5 : Int32) (e1 : XA G i (nI 1) x1) (e2 : XA G i (nI 2) x2) (e3 : XA G i (nI 3) x3) (e4 : XA G i (nI 4) x4) (e5 : XA G i (nI 5) x5) {σ : St} {Gb : xMem} {k n : Nat} (hI : INV3 σ) (hk : k ≤ 599000) (hn : n ≤ 7300000) (K : ∀ (w : St) (Gb' : xMem) (k' n' : Nat), INV3 w → k' ≤ k + 1 → n' ≤ n + 5 → xW G (mL nm) room_1 (xLZ G) 1719 (LV i) [] (mem w Gb') k' n') : xW G (mL nm) room_1 (xLZ G) 306 (LV i) [] (mem σ Gb) k n := by
  obtain ⟨r, u, f1, r2, w, f2, hw, -⟩ := z3_told hI x1
  refine xi_aload_n 2 dL_law_306 rfl ?_
  refine xi_aload_nS 3 dL_law_307 rfl ?_
  refine xi_iload_n 0 dL_law_308 rfl ?_
  refine xi_iconst (v := nI 1) dL_law_309 (by decide) ?_
  refine xi_iadd (v := i + nI 1) dL_law_310 rfl ?_
  refine xi_sld (v := x1) dL_law_311 e1.1 e1.2 ?_
  refine xi_callV (as := [.int x1]) (rest := []) dL_law_312 (KX11_told G Gb x1 σ r u f1) mkX11_told w_295 w_296 w_294 (mem_get sh_0) rfl rfl rfl rfl (Nat.le_of_ble_eq_true rfl) (Nat.le_of_ble_eq_true rfl) (Nat.le_of_ble_eq_true rfl) (rm_c (by omega)) (rm_s (by omega)) ?_
  intro v M2 hq
  obtain ⟨rfl, rfl⟩ := hq
  show xW G (mL nm) room_1 (xLZ G) 315 (LV i) [.int r] (mem u Gb) k n
  refine xi_pop dL_law_315 rfl ?_
  refine xi_aload_n 1 dL_law_316 rfl ?_
  refine xi_aload_nS 3 dL_law_317 rfl ?_
  refine xi_iload_n 0 dL_law_318 rfl ?_
  refine xi_iconst (v := nI 1) dL_law_319 (by decide) ?_
  refine xi_iadd (v := i + nI 1) dL_law_320 rfl ?_
  refine xi_sld (v := x1) dL_law_321 e1.1 e1.2 ?_
  refine xi_callV (as := [.int x1]) (rest := []) dL_law_322 (KX12_told G Gb x1 u r2 w f2) mkX12_told w_1131 w_1132 w_1130 (mem_get sh_149) rfl rfl rfl rfl (Nat.le_of_ble_eq_true rfl) (Nat.le_of_ble_eq_true rfl) (Nat.le_of_ble_eq_true rfl) (rm_c (by omega)) (rm_s (by omega)) ?_
  intro v M2 hq
  obtain ⟨rfl, rfl⟩ := hq
  show xW G (mL nm) room_1 (xLZ G) 325 (LV i) [.int r2] (mem w Gb) k n
  refine xi_pop dL_law_325 rfl ?_
  refine xi_goto (tgt := 1719) dL_law_326 (by decide) ?_
  exact K w _ _ _ hw (by omega) (by omega)
set_option maxHeartbeats 4000000 in
set_option maxRecDepth 100000 in
theorem law_3 {nm : String} (G : xG) (i x1 x2 x3 x4 x5 : Int32) (e1 : XA G i (nI 1) x1) (e2 : XA G i (nI 2) x2) (e3 : XA G i (nI 3) x3) (e4 : XA G i (nI 4) x4) (e5 : XA G i (nI 5) x5) {σ : St} {Gb : xMem} {k n : Nat} (hI : INV3 σ) (hk : k ≤ 599000) (hn : n ≤ 7300000) (K : ∀ (w : St) (Gb' : xMem) (k' n' : Nat), INV3 w → k' ≤ k + 1 → n' ≤ n + 5 → xW G (mL nm) room_1 (xLZ G) 1719 (LV i) [] (mem w Gb') k' n') : xW G (mL nm) room_1 (xLZ G) 329 (LV i) [] (mem σ Gb) k n := by
  obtain ⟨r, u, f1, r2, w, f2, hw, -⟩ := z3_fault hI x1
  refine xi_aload_n 2 dL_law_329 rfl ?_
  refine xi_aload_nS 3 dL_law_330 rfl ?_
  refine xi_iload_n 0 dL_law_331 rfl ?_
  refine xi_iconst (v := nI 1) dL_law_332 (by decide) ?_
  refine xi_iadd (v := i + nI 1) dL_law_333 rfl ?_
  refine xi_sld (v := x1) dL_law_334 e1.1 e1.2 ?_
  refine xi_callV (as := [.int x1]) (rest := []) dL_law_335 (KX11_fault G Gb x1 σ r u f1) mkX11_fault w_474 w_475 w_473 (mem_get sh_0) rfl rfl rfl rfl (Nat.le_of_ble_eq_true rfl) (Nat.le_of_ble_eq_true rfl) (Nat.le_of_ble_eq_true rfl) (rm_c (by omega)) (rm_s (by omega)) ?_
  intro v M2 hq
  obtain ⟨rfl, rfl⟩ := hq
  show xW G (mL nm) room_1 (xLZ G) 338 (LV i) [.int r] (mem u Gb) k n
  refine xi_pop dL_law_338 rfl ?_
  refine xi_aload_n 1 dL_law_339 rfl ?_
  refine xi_aload_nS 3 dL_law_340 rfl ?_
  refine xi_iload_n 0 dL_law_341 rfl ?_
  refine xi_iconst (v := nI 1) dL_law_342 (by decide) ?_
  refine xi_iadd (v := i + nI 1) dL_law_343 rfl ?_
  refine xi_sld (v := x1) dL_law_344 e1.1 e1.2 ?_
  refine xi_callV (as := [.int x1]) (rest := []) dL_law_345 (KX12_fault G Gb x1 u r2 w f2) mkX12_fault w_1214 w_1215 w_1213 (mem_get sh_149) rfl rfl rfl rfl (Nat.le_of_ble_eq_true rfl) (Nat.le_of_ble_eq_true rfl) (Nat.le_of_ble_eq_true rfl) (rm_c (by omega)) (rm_s (by omega)) ?_
  intro v M2 hq
  obtain ⟨rfl, rfl⟩ := hq
  show xW G (mL nm) room_1 (xLZ G) 348 (LV i) [.int r2] (mem w Gb) k n
  refine xi_pop dL_law_348 rfl ?_
  refine xi_goto (tgt := 1719) dL_law_349 (by decide) ?_
  exact K w _ _ _ hw (by omega) (by omega)
set_option maxHeartbeats 4000000 in
set_option maxRecDepth 100000 in
theorem law_4 {nm : String} (G : xG) (i x1 x2 x3 x4 x5 : Int32) (e1 : XA G i (nI 1) x1) (e2 : XA G i (nI 2) x2) (e3 : XA G i (nI 3) x3) (e4 : XA G i (nI 4) x4) (e5 : XA G i (nI 5) x5) {σ : St} {Gb : xMem} {k n : Nat} (hI : INV3 σ) (hk : k ≤ 599000) (hn : n ≤ 7300000) (K : ∀ (w : St) (Gb' : xMem) (k' n' : Nat), INV3 w → k' ≤ k + 1 → n' ≤ n + 5 → xW G (mL nm) room_1 (xLZ G) 1719 (LV i) [] (mem w Gb') k' n') : xW G (mL nm) room_1 (xLZ G) 352 (LV i) [] (mem σ Gb) k n := by
  obtain ⟨r, u, f1, r2, w, f2, hw, -⟩ := z3_count hI x1
  refine xi_aload_n 2 dL_law_352 rfl ?_
  refine xi_aload_nS 3 dL_law_353 rfl ?_
  refine xi_iload_n 0 dL_law_354 rfl ?_
  refine xi_iconst (v := nI 1) dL_law_355 (by decide) ?_
  refine xi_iadd (v := i + nI 1) dL_law_356 rfl ?_
  refine xi_sld (v := x1) dL_law_357 e1.1 e1.2 ?_
  refine xi_callV (as := [.int x1]) (rest := []) dL_law_358 (KX11_count G Gb x1 σ r u f1) mkX11_count w_478 w_479 w_477 (mem_get sh_0) rfl rfl rfl rfl (Nat.le_of_ble_eq_true rfl) (Nat.le_of_ble_eq_true rfl) (Nat.le_of_ble_eq_true rfl) (rm_c (by omega)) (rm_s (by omega)) ?_
  intro v M2 hq
  obtain ⟨rfl, rfl⟩ := hq
  show xW G (mL nm) room_1 (xLZ G) 361 (LV i) [.int r] (mem u Gb) k n
  refine xi_pop dL_law_361 rfl ?_
  refine xi_aload_n 1 dL_law_362 rfl ?_
  refine xi_aload_nS 3 dL_law_363 rfl ?_
  refine xi_iload_n 0 dL_law_364 rfl ?_
  refine xi_iconst (v := nI 1) dL_law_365 (by decide) ?_
  refine xi_iadd (v := i + nI 1) dL_law_366 rfl ?_
  refine xi_sld (v := x1) dL_law_367 e1.1 e1.2 ?_
  refine xi_callV (as := [.int x1]) (rest := []) dL_law_368 (KX12_count G Gb x1 u r2 w f2) mkX12_count w_1218 w_1219 w_1217 (mem_get sh_149) rfl rfl rfl rfl (Nat.le_of_ble_eq_true rfl) (Nat.le_of_ble_eq_true rfl) (Nat.le_of_ble_eq_true rfl) (rm_c (by omega)) (rm_s (by omega)) ?_
  intro v M2 hq
  obtain ⟨rfl, rfl⟩ := hq
  show xW G (mL nm) room_1 (xLZ G) 371 (LV i) [.int r2] (mem w Gb) k n
  refine xi_pop dL_law_371 rfl ?_
  refine xi_goto (tgt := 1719) dL_law_372 (by decide) ?_
  exact K w _ _ _ hw (by omega) (by omega)
set_option maxHeartbeats 4000000 in
set_option maxRecDepth 100000 in
theorem law_5 {nm : String} (G : xG) (i x1 x2 x3 x4 x5 : Int32) (e1 : XA G i (nI 1) x1) (e2 : XA G i (nI 2) x2) (e3 : XA G i (nI 3) x3) (e4 : XA G i (nI 4) x4) (e5 : XA G i (nI 5) x5) {σ : St} {Gb : xMem} {k n : Nat} (hI : INV3 σ) (hk : k ≤ 599000) (hn : n ≤ 7300000) (K : ∀ (w : St) (Gb' : xMem) (k' n' : Nat), INV3 w → k' ≤ k + 1 → n' ≤ n + 5 → xW G (mL nm) room_1 (xLZ G) 1719 (LV i) [] (mem w Gb') k' n') : xW G (mL nm) room_1 (xLZ G) 375 (LV i) [] (mem σ Gb) k n := by
  obtain ⟨r, u, f1, r2, w, f2, hw, -⟩ := z3_look hI x1 x2
  refine xi_aload_n 2 dL_law_375 rfl ?_
  refine xi_aload_nS 3 dL_law_376 rfl ?_
  refine xi_iload_n 0 dL_law_377 rfl ?_
  refine xi_iconst (v := nI 1) dL_law_378 (by decide) ?_
  refine xi_iadd (v := i + nI 1) dL_law_379 rfl ?_
  refine xi_sld (v := x1) dL_law_380 e1.1 e1.2 ?_
  refine xi_aload_nS 3 dL_law_381 rfl ?_
  refine xi_iload_n 0 dL_law_382 rfl ?_
  refine xi_iconst (v := nI 2) dL_law_383 (by decide) ?_
  refine xi_iadd (v := i + nI 2) dL_law_384 rfl ?_
  refine xi_sld (v := x2) dL_law_385 e2.1 e2.2 ?_
  refine xi_callV (as := [.int x1, .int x2]) (rest := []) dL_law_386 (KX11_look G Gb x1 x2 σ r u f1) mkX11_look w_486 w_487 w_485 (mem_get sh_0) rfl rfl rfl rfl (Nat.le_of_ble_eq_true rfl) (Nat.le_of_ble_eq_true rfl) (Nat.le_of_ble_eq_true rfl) (rm_c (by omega)) (rm_s (by omega)) ?_
  intro v M2 hq
  obtain ⟨rfl, rfl⟩ := hq
  show xW G (mL nm) room_1 (xLZ G) 389 (LV i) [.int r] (mem u Gb) k n
  refine xi_pop dL_law_389 rfl ?_
  refine xi_aload_n 1 dL_law_390 rfl ?_
  refine xi_aload_nS 3 dL_law_391 rfl ?_
  refine xi_iload_n 0 dL_law_392 rfl ?_
  refine xi_iconst (v := nI 1) dL_law_393 (by decide) ?_
  refine xi_iadd (v := i + nI 1) dL_law_394 rfl ?_
  refine xi_sld (v := x1) dL_law_395 e1.1 e1.2 ?_
  refine xi_aload_nS 3 dL_law_396 rfl ?_
  refine xi_iload_n 0 dL_law_397 rfl ?_
  refine xi_iconst (v := nI 2) dL_law_398 (by decide) ?_
  refine xi_iadd (v := i + nI 2) dL_law_399 rfl ?_
  refine xi_sld (v := x2) dL_law_400 e2.1 e2.2 ?_
  refine xi_callV (as := [.int x1, .int x2]) (rest := []) dL_law_401 (KX12_look G Gb x1 x2 u r2 w f2) mkX12_look w_1222 w_1223 w_1221 (mem_get sh_149) rfl rfl rfl rfl (Nat.le_of_ble_eq_true rfl) (Nat.le_of_ble_eq_true rfl) (Nat.le_of_ble_eq_true rfl) (rm_c (by omega)) (rm_s (by omega)) ?_
  intro v M2 hq
  obtain ⟨rfl, rfl⟩ := hq
  show xW G (mL nm) room_1 (xLZ G) 404 (LV i) [.int r2] (mem w Gb) k n
  refine xi_pop dL_law_404 rfl ?_
  refine xi_goto (tgt := 1719) dL_law_405 (by decide) ?_
  exact K w _ _ _ hw (by omega) (by omega)
set_option maxHeartbeats 4000000 in
set_option maxRecDepth 100000 in
theorem law_6 {nm : String} (G : xG) (i x1 x2 x3 x4 x5 : Int32) (e1 : XA G i (nI 1) x1) (e2 : XA G i (nI 2) x2) (e3 : XA G i (nI 3) x3) (e4 : XA G i (nI 4) x4) (e5 : XA G i (nI 5) x5) {σ : St} {Gb : xMem} {k n : Nat} (hI : INV3 σ) (hk : k ≤ 599000) (hn : n ≤ 7300000) (K : ∀ (w : St) (Gb' : xMem) (k' n' : Nat), INV3 w → k' ≤ k + 1 → n' ≤ n + 5 → xW G (mL nm) room_1 (xLZ G) 1719 (LV i) [] (mem w Gb') k' n') : xW G (mL nm) room_1 (xLZ G) 408 (LV i) [] (mem σ Gb) k n := by
  obtain ⟨r, u, f1, r2, w, f2, hw, -⟩ := z3_near hI x1 x2
  refine xi_aload_n 2 dL_law_408 rfl ?_
  refine xi_aload_nS 3 dL_law_409 rfl ?_
  refine xi_iload_n 0 dL_law_410 rfl ?_
  refine xi_iconst (v := nI 1) dL_law_411 (by decide) ?_
  refine xi_iadd (v := i + nI 1) dL_law_412 rfl ?_
  refine xi_sld (v := x1) dL_law_413 e1.1 e1.2 ?_
  refine xi_aload_nS 3 dL_law_414 rfl ?_
  refine xi_iload_n 0 dL_law_415 rfl ?_
  refine xi_iconst (v := nI 2) dL_law_416 (by decide) ?_
  refine xi_iadd (v := i + nI 2) dL_law_417 rfl ?_
  refine xi_sld (v := x2) dL_law_418 e2.1 e2.2 ?_
  refine xi_callV (as := [.int x1, .int x2]) (rest := []) dL_law_419 (KX11_near G Gb x1 x2 σ r u f1) mkX11_near w_538 w_539 w_537 (mem_get sh_0) rfl rfl rfl rfl (Nat.le_of_ble_eq_true rfl) (Nat.le_of_ble_eq_true rfl) (Nat.le_of_ble_eq_true rfl) (rm_c (by omega)) (rm_s (by omega)) ?_
  intro v M2 hq
  obtain ⟨rfl, rfl⟩ := hq
  show xW G (mL nm) room_1 (xLZ G) 422 (LV i) [.int r] (mem u Gb) k n
  refine xi_pop dL_law_422 rfl ?_
  refine xi_aload_n 1 dL_law_423 rfl ?_
  refine xi_aload_nS 3 dL_law_424 rfl ?_
  refine xi_iload_n 0 dL_law_425 rfl ?_
  refine xi_iconst (v := nI 1) dL_law_426 (by decide) ?_
  refine xi_iadd (v := i + nI 1) dL_law_427 rfl ?_
  refine xi_sld (v := x1) dL_law_428 e1.1 e1.2 ?_
  refine xi_aload_nS 3 dL_law_429 rfl ?_
  refine xi_iload_n 0 dL_law_430 rfl ?_
  refine xi_iconst (v := nI 2) dL_law_431 (by decide) ?_
  refine xi_iadd (v := i + nI 2) dL_law_432 rfl ?_
  refine xi_sld (v := x2) dL_law_433 e2.1 e2.2 ?_
  refine xi_callV (as := [.int x1, .int x2]) (rest := []) dL_law_434 (KX12_near G Gb x1 x2 u r2 w f2) mkX12_near w_1252 w_1253 w_1251 (mem_get sh_149) rfl rfl rfl rfl (Nat.le_of_ble_eq_true rfl) (Nat.le_of_ble_eq_true rfl) (Nat.le_of_ble_eq_true rfl) (rm_c (by omega)) (rm_s (by omega)) ?_
  intro v M2 hq
  obtain ⟨rfl, rfl⟩ := hq
  show xW G (mL nm) room_1 (xLZ G) 437 (LV i) [.int r2] (mem w Gb) k n
  refine xi_pop dL_law_437 rfl ?_
  refine xi_goto (tgt := 1719) dL_law_438 (by decide) ?_
  exact K w _ _ _ hw (by omega) (by omega)
set_option maxHeartbeats 4000000 in
set_option maxRecDepth 100000 in
theorem law_7 {nm : String} (G : xG) (i x1 x2 x3 x4 x5 : Int32) (e1 : XA G i (nI 1) x1) (e2 : XA G i (nI 2) x2) (e3 : XA G i (nI 3) x3) (e4 : XA G i (nI 4) x4) (e5 : XA G i (nI 5) x5) {σ : St} {Gb : xMem} {k n : Nat} (hI : INV3 σ) (hk : k ≤ 599000) (hn : n ≤ 7300000) (K : ∀ (w : St) (Gb' : xMem) (k' n' : Nat), INV3 w → k' ≤ k + 1 → n' ≤ n + 5 → xW G (mL nm) room_1 (xLZ G) 1719 (LV i) [] (mem w Gb') k' n') : xW G (mL nm) room_1 (xLZ G) 441 (LV i) [] (mem σ Gb) k n := by
  obtain ⟨r, u, f1, r2, w, f2, hw, -⟩ := z3_line hI x1 x2 x3
  refine xi_aload_n 2 dL_law_441 rfl ?_
  refine xi_aload_nS 3 dL_law_442 rfl ?_
  refine xi_iload_n 0 dL_law_443 rfl ?_
  refine xi_iconst (v := nI 1) dL_law_444 (by decide) ?_
  refine xi_iadd (v := i + nI 1) dL_law_445 rfl ?_
  refine xi_sld (v := x1) dL_law_446 e1.1 e1.2 ?_
  refine xi_aload_nS 3 dL_law_447 rfl ?_
  refine xi_iload_n 0 dL_law_448 rfl ?_
  refine xi_iconst (v := nI 2) dL_law_449 (by decide) ?_
  refine xi_iadd (v := i + nI 2) dL_law_450 rfl ?_
  refine xi_sld (v := x2) dL_law_451 e2.1 e2.2 ?_
  refine xi_aload_nS 3 dL_law_452 rfl ?_
  refine xi_iload_n 0 dL_law_453 rfl ?_
  refine xi_iconst (v := nI 3) dL_law_454 (by decide) ?_
  refine xi_iadd (v := i + nI 3) dL_law_455 rfl ?_
  refine xi_sld (v := x3) dL_law_456 e3.1 e3.2 ?_
  refine xi_callV (as := [.int x1, .int x2, .int x3]) (rest := []) dL_law_457 (KX11_line G Gb x1 x2 x3 σ r u f1) mkX11_line w_543 w_544 w_542 (mem_get sh_0) rfl rfl rfl rfl (Nat.le_of_ble_eq_true rfl) (Nat.le_of_ble_eq_true rfl) (Nat.le_of_ble_eq_true rfl) (rm_c (by omega)) (rm_s (by omega)) ?_
  intro v M2 hq
  obtain ⟨rfl, rfl⟩ := hq
  show xW G (mL nm) room_1 (xLZ G) 460 (LV i) [.int r] (mem u Gb) k n
  refine xi_pop dL_law_460 rfl ?_
  refine xi_aload_n 1 dL_law_461 rfl ?_
  refine xi_aload_nS 3 dL_law_462 rfl ?_
  refine xi_iload_n 0 dL_law_463 rfl ?_
  refine xi_iconst (v := nI 1) dL_law_464 (by decide) ?_
  refine xi_iadd (v := i + nI 1) dL_law_465 rfl ?_
  refine xi_sld (v := x1) dL_law_466 e1.1 e1.2 ?_
  refine xi_aload_nS 3 dL_law_467 rfl ?_
  refine xi_iload_n 0 dL_law_468 rfl ?_
  refine xi_iconst (v := nI 2) dL_law_469 (by decide) ?_
  refine xi_iadd (v := i + nI 2) dL_law_470 rfl ?_
  refine xi_sld (v := x2) dL_law_471 e2.1 e2.2 ?_
  refine xi_aload_nS 3 dL_law_472 rfl ?_
  refine xi_iload_n 0 dL_law_473 rfl ?_
  refine xi_iconst (v := nI 3) dL_law_474 (by decide) ?_
  refine xi_iadd (v := i + nI 3) dL_law_475 rfl ?_
  refine xi_sld (v := x3) dL_law_476 e3.1 e3.2 ?_
  refine xi_callV (as := [.int x1, .int x2, .int x3]) (rest := []) dL_law_477 (KX12_line G Gb x1 x2 x3 u r2 w f2) mkX12_line w_1260 w_1261 w_1259 (mem_get sh_149) rfl rfl rfl rfl (Nat.le_of_ble_eq_true rfl) (Nat.le_of_ble_eq_true rfl) (Nat.le_of_ble_eq_true rfl) (rm_c (by omega)) (rm_s (by omega)) ?_
  intro v M2 hq
  obtain ⟨rfl, rfl⟩ := hq
  show xW G (mL nm) room_1 (xLZ G) 480 (LV i) [.int r2] (mem w Gb) k n
  refine xi_pop dL_law_480 rfl ?_
  refine xi_goto (tgt := 1719) dL_law_481 (by decide) ?_
  exact K w _ _ _ hw (by omega) (by omega)
set_option maxHeartbeats 4000000 in
set_option maxRecDepth 100000 in
theorem law_8 {nm : String} (G : xG) (i x1 x2 x3 x4 x5 : Int32) (e1 : XA G i (nI 1) x1) (e2 : XA G i (nI 2) x2) (e3 : XA G i (nI 3) x3) (e4 : XA G i (nI 4) x4) (e5 : XA G i (nI 5) x5) {σ : St} {Gb : xMem} {k n : Nat} (hI : INV3 σ) (hk : k ≤ 599000) (hn : n ≤ 7300000) (K : ∀ (w : St) (Gb' : xMem) (k' n' : Nat), INV3 w → k' ≤ k + 1 → n' ≤ n + 5 → xW G (mL nm) room_1 (xLZ G) 1719 (LV i) [] (mem w Gb') k' n') : xW G (mL nm) room_1 (xLZ G) 484 (LV i) [] (mem σ Gb) k n := by
  obtain ⟨r, u, f1, r2, w, f2, hw, -⟩ := z3_far hI x1 x2 x3
  refine xi_aload_n 2 dL_law_484 rfl ?_
  refine xi_aload_nS 3 dL_law_485 rfl ?_
  refine xi_iload_n 0 dL_law_486 rfl ?_
  refine xi_iconst (v := nI 1) dL_law_487 (by decide) ?_
  refine xi_iadd (v := i + nI 1) dL_law_488 rfl ?_
  refine xi_sld (v := x1) dL_law_489 e1.1 e1.2 ?_
  refine xi_aload_nS 3 dL_law_490 rfl ?_
  refine xi_iload_n 0 dL_law_491 rfl ?_
  refine xi_iconst (v := nI 2) dL_law_492 (by decide) ?_
  refine xi_iadd (v := i + nI 2) dL_law_493 rfl ?_
  refine xi_sld (v := x2) dL_law_494 e2.1 e2.2 ?_
  refine xi_aload_nS 3 dL_law_495 rfl ?_
  refine xi_iload_n 0 dL_law_496 rfl ?_
  refine xi_iconst (v := nI 3) dL_law_497 (by decide) ?_
  refine xi_iadd (v := i + nI 3) dL_law_498 rfl ?_
  refine xi_sld (v := x3) dL_law_499 e3.1 e3.2 ?_
  refine xi_callV (as := [.int x1, .int x2, .int x3]) (rest := []) dL_law_500 (KX11_far G Gb x1 x2 x3 σ r u f1) mkX11_far w_548 w_549 w_547 (mem_get sh_0) rfl rfl rfl rfl (Nat.le_of_ble_eq_true rfl) (Nat.le_of_ble_eq_true rfl) (Nat.le_of_ble_eq_true rfl) (rm_c (by omega)) (rm_s (by omega)) ?_
  intro v M2 hq
  obtain ⟨rfl, rfl⟩ := hq
  show xW G (mL nm) room_1 (xLZ G) 503 (LV i) [.int r] (mem u Gb) k n
  refine xi_pop dL_law_503 rfl ?_
  refine xi_aload_n 1 dL_law_504 rfl ?_
  refine xi_aload_nS 3 dL_law_505 rfl ?_
  refine xi_iload_n 0 dL_law_506 rfl ?_
  refine xi_iconst (v := nI 1) dL_law_507 (by decide) ?_
  refine xi_iadd (v := i + nI 1) dL_law_508 rfl ?_
  refine xi_sld (v := x1) dL_law_509 e1.1 e1.2 ?_
  refine xi_aload_nS 3 dL_law_510 rfl ?_
  refine xi_iload_n 0 dL_law_511 rfl ?_
  refine xi_iconst (v := nI 2) dL_law_512 (by decide) ?_
  refine xi_iadd (v := i + nI 2) dL_law_513 rfl ?_
  refine xi_sld (v := x2) dL_law_514 e2.1 e2.2 ?_
  refine xi_aload_nS 3 dL_law_515 rfl ?_
  refine xi_iload_n 0 dL_law_516 rfl ?_
  refine xi_iconst (v := nI 3) dL_law_517 (by decide) ?_
  refine xi_iadd (v := i + nI 3) dL_law_518 rfl ?_
  refine xi_sld (v := x3) dL_law_519 e3.1 e3.2 ?_
  refine xi_callV (as := [.int x1, .int x2, .int x3]) (rest := []) dL_law_520 (KX12_far G Gb x1 x2 x3 u r2 w f2) mkX12_far w_1264 w_1265 w_1263 (mem_get sh_149) rfl rfl rfl rfl (Nat.le_of_ble_eq_true rfl) (Nat.le_of_ble_eq_true rfl) (Nat.le_of_ble_eq_true rfl) (rm_c (by omega)) (rm_s (by omega)) ?_
  intro v M2 hq
  obtain ⟨rfl, rfl⟩ := hq
  show xW G (mL nm) room_1 (xLZ G) 523 (LV i) [.int r2] (mem w Gb) k n
  refine xi_pop dL_law_523 rfl ?_
  refine xi_goto (tgt := 1719) dL_law_524 (by decide) ?_
  exact K w _ _ _ hw (by omega) (by omega)
set_option maxHeartbeats 4000000 in
set_option maxRecDepth 100000 in
theorem law_9 {nm : String} (G : xG) (i x1 x2 x3 x4 x5 : Int32) (e1 : XA G i (nI 1) x1) (e2 : XA G i (nI 2) x2) (e3 : XA G i (nI 3) x3) (e4 : XA G i (nI 4) x4) (e5 : XA G i (nI 5) x5) {σ : St} {Gb : xMem} {k n : Nat} (hI : INV3 σ) (hk : k ≤ 599000) (hn : n ≤ 7300000) (K : ∀ (w : St) (Gb' : xMem) (k' n' : Nat), INV3 w → k' ≤ k + 1 → n' ≤ n + 5 → xW G (mL nm) room_1 (xLZ G) 1719 (LV i) [] (mem w Gb') k' n') : xW G (mL nm) room_1 (xLZ G) 527 (LV i) [] (mem σ Gb) k n := by
  obtain ⟨r, u, f1, r2, w, f2, hw, -⟩ := z3_row hI x1 x2
  refine xi_aload_n 2 dL_law_527 rfl ?_
  refine xi_aload_nS 3 dL_law_528 rfl ?_
  refine xi_iload_n 0 dL_law_529 rfl ?_
  refine xi_iconst (v := nI 1) dL_law_530 (by decide) ?_
  refine xi_iadd (v := i + nI 1) dL_law_531 rfl ?_
  refine xi_sld (v := x1) dL_law_532 e1.1 e1.2 ?_
  refine xi_aload_nS 3 dL_law_533 rfl ?_
  refine xi_iload_n 0 dL_law_534 rfl ?_
  refine xi_iconst (v := nI 2) dL_law_535 (by decide) ?_
  refine xi_iadd (v := i + nI 2) dL_law_536 rfl ?_
  refine xi_sld (v := x2) dL_law_537 e2.1 e2.2 ?_
  refine xi_callV (as := [.int x1, .int x2]) (rest := []) dL_law_538 (KX11_row G Gb x1 x2 σ r u f1) mkX11_row w_553 w_554 w_552 (mem_get sh_0) rfl rfl rfl rfl (Nat.le_of_ble_eq_true rfl) (Nat.le_of_ble_eq_true rfl) (Nat.le_of_ble_eq_true rfl) (rm_c (by omega)) (rm_s (by omega)) ?_
  intro v M2 hq
  obtain ⟨rfl, rfl⟩ := hq
  show xW G (mL nm) room_1 (xLZ G) 541 (LV i) [.int r] (mem u Gb) k n
  refine xi_pop dL_law_541 rfl ?_
  refine xi_aload_n 1 dL_law_542 rfl ?_
  refine xi_aload_nS 3 dL_law_543 rfl ?_
  refine xi_iload_n 0 dL_law_544 rfl ?_
  refine xi_iconst (v := nI 1) dL_law_545 (by decide) ?_
  refine xi_iadd (v := i + nI 1) dL_law_546 rfl ?_
  refine xi_sld (v := x1) dL_law_547 e1.1 e1.2 ?_
  refine xi_aload_nS 3 dL_law_548 rfl ?_
  refine xi_iload_n 0 dL_law_549 rfl ?_
  refine xi_iconst (v := nI 2) dL_law_550 (by decide) ?_
  refine xi_iadd (v := i + nI 2) dL_law_551 rfl ?_
  refine xi_sld (v := x2) dL_law_552 e2.1 e2.2 ?_
  refine xi_callV (as := [.int x1, .int x2]) (rest := []) dL_law_553 (KX12_row G Gb x1 x2 u r2 w f2) mkX12_row w_1268 w_1269 w_1267 (mem_get sh_149) rfl rfl rfl rfl (Nat.le_of_ble_eq_true rfl) (Nat.le_of_ble_eq_true rfl) (Nat.le_of_ble_eq_true rfl) (rm_c (by omega)) (rm_s (by omega)) ?_
  intro v M2 hq
  obtain ⟨rfl, rfl⟩ := hq
  show xW G (mL nm) room_1 (xLZ G) 556 (LV i) [.int r2] (mem w Gb) k n
  refine xi_pop dL_law_556 rfl ?_
  refine xi_goto (tgt := 1719) dL_law_557 (by decide) ?_
  exact K w _ _ _ hw (by omega) (by omega)
set_option maxHeartbeats 4000000 in
set_option maxRecDepth 100000 in
theorem law_10 {nm : String} (G : xG) (i x1 x2 x3 x4 x5 : Int32) (e1 : XA G i (nI 1) x1) (e2 : XA G i (nI 2) x2) (e3 : XA G i (nI 3) x3) (e4 : XA G i (nI 4) x4) (e5 : XA G i (nI 5) x5) {σ : St} {Gb : xMem} {k n : Nat} (hI : INV3 σ) (hk : k ≤ 599000) (hn : n ≤ 7300000) (K : ∀ (w : St) (Gb' : xMem) (k' n' : Nat), INV3 w → k' ≤ k + 1 → n' ≤ n + 5 → xW G (mL nm) room_1 (xLZ G) 1719 (LV i) [] (mem w Gb') k' n') : xW G (mL nm) room_1 (xLZ G) 560 (LV i) [] (mem σ Gb) k n := by
  obtain ⟨r, u, f1, r2, w, f2, hw, -⟩ := z3_place hI x1 x2
  refine xi_aload_n 2 dL_law_560 rfl ?_
  refine xi_aload_nS 3 dL_law_561 rfl ?_
  refine xi_iload_n 0 dL_law_562 rfl ?_
  refine xi_iconst (v := nI 1) dL_law_563 (by decide) ?_
  refine xi_iadd (v := i + nI 1) dL_law_564 rfl ?_
  refine xi_sld (v := x1) dL_law_565 e1.1 e1.2 ?_
  refine xi_aload_nS 3 dL_law_566 rfl ?_
  refine xi_iload_n 0 dL_law_567 rfl ?_
  refine xi_iconst (v := nI 2) dL_law_568 (by decide) ?_
  refine xi_iadd (v := i + nI 2) dL_law_569 rfl ?_
  refine xi_sld (v := x2) dL_law_570 e2.1 e2.2 ?_
  refine xi_callV (as := [.int x1, .int x2]) (rest := []) dL_law_571 (KX11_place G Gb x1 x2 σ r u f1) mkX11_place w_557 w_558 w_556 (mem_get sh_0) rfl rfl rfl rfl (Nat.le_of_ble_eq_true rfl) (Nat.le_of_ble_eq_true rfl) (Nat.le_of_ble_eq_true rfl) (rm_c (by omega)) (rm_s (by omega)) ?_
  intro v M2 hq
  obtain ⟨rfl, rfl⟩ := hq
  show xW G (mL nm) room_1 (xLZ G) 574 (LV i) [.int r] (mem u Gb) k n
  refine xi_pop dL_law_574 rfl ?_
  refine xi_aload_n 1 dL_law_575 rfl ?_
  refine xi_aload_nS 3 dL_law_576 rfl ?_
  refine xi_iload_n 0 dL_law_577 rfl ?_
  refine xi_iconst (v := nI 1) dL_law_578 (by decide) ?_
  refine xi_iadd (v := i + nI 1) dL_law_579 rfl ?_
  refine xi_sld (v := x1) dL_law_580 e1.1 e1.2 ?_
  refine xi_aload_nS 3 dL_law_581 rfl ?_
  refine xi_iload_n 0 dL_law_582 rfl ?_
  refine xi_iconst (v := nI 2) dL_law_583 (by decide) ?_
  refine xi_iadd (v := i + nI 2) dL_law_584 rfl ?_
  refine xi_sld (v := x2) dL_law_585 e2.1 e2.2 ?_
  refine xi_callV (as := [.int x1, .int x2]) (rest := []) dL_law_586 (KX12_place G Gb x1 x2 u r2 w f2) mkX12_place w_1276 w_1277 w_1275 (mem_get sh_149) rfl rfl rfl rfl (Nat.le_of_ble_eq_true rfl) (Nat.le_of_ble_eq_true rfl) (Nat.le_of_ble_eq_true rfl) (rm_c (by omega)) (rm_s (by omega)) ?_
  intro v M2 hq
  obtain ⟨rfl, rfl⟩ := hq
  show xW G (mL nm) room_1 (xLZ G) 589 (LV i) [.int r2] (mem w Gb) k n
  refine xi_pop dL_law_589 rfl ?_
  refine xi_goto (tgt := 1719) dL_law_590 (by decide) ?_
  exact K w _ _ _ hw (by omega) (by omega)
set_option maxHeartbeats 4000000 in
set_option maxRecDepth 100000 in
theorem law_11 {nm : String} (G : xG) (i x1 x2 x3 x4 x5 : Int32) (e1 : XA G i (nI 1) x1) (e2 : XA G i (nI 2) x2) (e3 : XA G i (nI 3) x3) (e4 : XA G i (nI 4) x4) (e5 : XA G i (nI 5) x5) {σ : St} {Gb : xMem} {k n : Nat} (hI : INV3 σ) (hk : k ≤ 599000) (hn : n ≤ 7300000) (K : ∀ (w : St) (Gb' : xMem) (k' n' : Nat), INV3 w → k' ≤ k + 1 → n' ≤ n + 5 → xW G (mL nm) room_1 (xLZ G) 1719 (LV i) [] (mem w Gb') k' n') : xW G (mL nm) room_1 (xLZ G) 593 (LV i) [] (mem σ Gb) k n := by
  obtain ⟨r, u, f1, r2, w, f2, hw, -⟩ := z3_value hI x1 x2
  refine xi_aload_n 2 dL_law_593 rfl ?_
  refine xi_aload_nS 3 dL_law_594 rfl ?_
  refine xi_iload_n 0 dL_law_595 rfl ?_
  refine xi_iconst (v := nI 1) dL_law_596 (by decide) ?_
  refine xi_iadd (v := i + nI 1) dL_law_597 rfl ?_
  refine xi_sld (v := x1) dL_law_598 e1.1 e1.2 ?_
  refine xi_aload_nS 3 dL_law_599 rfl ?_
  refine xi_iload_n 0 dL_law_600 rfl ?_
  refine xi_iconst (v := nI 2) dL_law_601 (by decide) ?_
  refine xi_iadd (v := i + nI 2) dL_law_602 rfl ?_
  refine xi_sld (v := x2) dL_law_603 e2.1 e2.2 ?_
  refine xi_callV (as := [.int x1, .int x2]) (rest := []) dL_law_604 (KX11_value G Gb x1 x2 σ r u f1) mkX11_value w_565 w_566 w_564 (mem_get sh_0) rfl rfl rfl rfl (Nat.le_of_ble_eq_true rfl) (Nat.le_of_ble_eq_true rfl) (Nat.le_of_ble_eq_true rfl) (rm_c (by omega)) (rm_s (by omega)) ?_
  intro v M2 hq
  obtain ⟨rfl, rfl⟩ := hq
  show xW G (mL nm) room_1 (xLZ G) 607 (LV i) [.int r] (mem u Gb) k n
  refine xi_pop dL_law_607 rfl ?_
  refine xi_aload_n 1 dL_law_608 rfl ?_
  refine xi_aload_nS 3 dL_law_609 rfl ?_
  refine xi_iload_n 0 dL_law_610 rfl ?_
  refine xi_iconst (v := nI 1) dL_law_611 (by decide) ?_
  refine xi_iadd (v := i + nI 1) dL_law_612 rfl ?_
  refine xi_sld (v := x1) dL_law_613 e1.1 e1.2 ?_
  refine xi_aload_nS 3 dL_law_614 rfl ?_
  refine xi_iload_n 0 dL_law_615 rfl ?_
  refine xi_iconst (v := nI 2) dL_law_616 (by decide) ?_
  refine xi_iadd (v := i + nI 2) dL_law_617 rfl ?_
  refine xi_sld (v := x2) dL_law_618 e2.1 e2.2 ?_
  refine xi_callV (as := [.int x1, .int x2]) (rest := []) dL_law_619 (KX12_value G Gb x1 x2 u r2 w f2) mkX12_value w_1284 w_1285 w_1283 (mem_get sh_149) rfl rfl rfl rfl (Nat.le_of_ble_eq_true rfl) (Nat.le_of_ble_eq_true rfl) (Nat.le_of_ble_eq_true rfl) (rm_c (by omega)) (rm_s (by omega)) ?_
  intro v M2 hq
  obtain ⟨rfl, rfl⟩ := hq
  show xW G (mL nm) room_1 (xLZ G) 622 (LV i) [.int r2] (mem w Gb) k n
  refine xi_pop dL_law_622 rfl ?_
  refine xi_goto (tgt := 1719) dL_law_623 (by decide) ?_
  exact K w _ _ _ hw (by omega) (by omega)
set_option maxHeartbeats 4000000 in
set_option maxRecDepth 100000 in
theorem law_12 {nm : String} (G : xG) (i x1 x2 x3 x4 x5 : Int32) (e1 : XA G i (nI 1) x1) (e2 : XA G i (nI 2) x2) (e3 : XA G i (nI 3) x3) (e4 : XA G i (nI 4) x4) (e5 : XA G i (nI 5) x5) {σ : St} {Gb : xMem} {k n : Nat} (hI : INV3 σ) (hk : k ≤ 599000) (hn : n ≤ 7300000) (K : ∀ (w : St) (Gb' : xMem) (k' n' : Nat), INV3 w → k' ≤ k + 1 → n' ≤ n + 5 → xW G (mL nm) room_1 (xLZ G) 1719 (LV i) [] (mem w Gb') k' n') : xW G (mL nm) room_1 (xLZ G) 626 (LV i) [] (mem σ Gb) k n := by
  obtain ⟨r, u, f1, r2, w, f2, hw, -⟩ := z3_price hI x1 x2 x3
  refine xi_aload_n 2 dL_law_626 rfl ?_
  refine xi_aload_nS 3 dL_law_627 rfl ?_
  refine xi_iload_n 0 dL_law_628 rfl ?_
  refine xi_iconst (v := nI 1) dL_law_629 (by decide) ?_
  refine xi_iadd (v := i + nI 1) dL_law_630 rfl ?_
  refine xi_sld (v := x1) dL_law_631 e1.1 e1.2 ?_
  refine xi_aload_nS 3 dL_law_632 rfl ?_
  refine xi_iload_n 0 dL_law_633 rfl ?_
  refine xi_iconst (v := nI 2) dL_law_634 (by decide) ?_
  refine xi_iadd (v := i + nI 2) dL_law_635 rfl ?_
  refine xi_sld (v := x2) dL_law_636 e2.1 e2.2 ?_
  refine xi_aload_nS 3 dL_law_637 rfl ?_
  refine xi_iload_n 0 dL_law_638 rfl ?_
  refine xi_iconst (v := nI 3) dL_law_639 (by decide) ?_
  refine xi_iadd (v := i + nI 3) dL_law_640 rfl ?_
  refine xi_sld (v := x3) dL_law_641 e3.1 e3.2 ?_
  refine xi_callV (as := [.int x1, .int x2, .int x3]) (rest := []) dL_law_642 (KX11_price G Gb x1 x2 x3 σ r u f1) mkX11_price w_616 w_617 w_615 (mem_get sh_0) rfl rfl rfl rfl (Nat.le_of_ble_eq_true rfl) (Nat.le_of_ble_eq_true rfl) (Nat.le_of_ble_eq_true rfl) (rm_c (by omega)) (rm_s (by omega)) ?_
  intro v M2 hq
  obtain ⟨rfl, rfl⟩ := hq
  show xW G (mL nm) room_1 (xLZ G) 645 (LV i) [.int r] (mem u Gb) k n
  refine xi_pop dL_law_645 rfl ?_
  refine xi_aload_n 1 dL_law_646 rfl ?_
  refine xi_aload_nS 3 dL_law_647 rfl ?_
  refine xi_iload_n 0 dL_law_648 rfl ?_
  refine xi_iconst (v := nI 1) dL_law_649 (by decide) ?_
  refine xi_iadd (v := i + nI 1) dL_law_650 rfl ?_
  refine xi_sld (v := x1) dL_law_651 e1.1 e1.2 ?_
  refine xi_aload_nS 3 dL_law_652 rfl ?_
  refine xi_iload_n 0 dL_law_653 rfl ?_
  refine xi_iconst (v := nI 2) dL_law_654 (by decide) ?_
  refine xi_iadd (v := i + nI 2) dL_law_655 rfl ?_
  refine xi_sld (v := x2) dL_law_656 e2.1 e2.2 ?_
  refine xi_aload_nS 3 dL_law_657 rfl ?_
  refine xi_iload_n 0 dL_law_658 rfl ?_
  refine xi_iconst (v := nI 3) dL_law_659 (by decide) ?_
  refine xi_iadd (v := i + nI 3) dL_law_660 rfl ?_
  refine xi_sld (v := x3) dL_law_661 e3.1 e3.2 ?_
  refine xi_callV (as := [.int x1, .int x2, .int x3]) (rest := []) dL_law_662 (KX12_price G Gb x1 x2 x3 u r2 w f2) mkX12_price w_1325 w_1326 w_1324 (mem_get sh_149) rfl rfl rfl rfl (Nat.le_of_ble_eq_true rfl) (Nat.le_of_ble_eq_true rfl) (Nat.le_of_ble_eq_true rfl) (rm_c (by omega)) (rm_s (by omega)) ?_
  intro v M2 hq
  obtain ⟨rfl, rfl⟩ := hq
  show xW G (mL nm) room_1 (xLZ G) 665 (LV i) [.int r2] (mem w Gb) k n
  refine xi_pop dL_law_665 rfl ?_
  refine xi_goto (tgt := 1719) dL_law_666 (by decide) ?_
  exact K w _ _ _ hw (by omega) (by omega)
set_option maxHeartbeats 4000000 in
set_option maxRecDepth 100000 in
theorem law_13 {nm : String} (G : xG) (i x1 x2 x3 x4 x5 : Int32) (e1 : XA G i (nI 1) x1) (e2 : XA G i (nI 2) x2) (e3 : XA G i (nI 3) x3) (e4 : XA G i (nI 4) x4) (e5 : XA G i (nI 5) x5) {σ : St} {Gb : xMem} {k n : Nat} (hI : INV3 σ) (hk : k ≤ 599000) (hn : n ≤ 7300000) (K : ∀ (w : St) (Gb' : xMem) (k' n' : Nat), INV3 w → k' ≤ k + 1 → n' ≤ n + 5 → xW G (mL nm) room_1 (xLZ G) 1719 (LV i) [] (mem w Gb') k' n') : xW G (mL nm) room_1 (xLZ G) 669 (LV i) [] (mem σ Gb) k n := by
  obtain ⟨r, u, f1, r2, w, f2, hw, -⟩ := z3_worst hI x1 x2
  refine xi_aload_n 2 dL_law_669 rfl ?_
  refine xi_aload_nS 3 dL_law_670 rfl ?_
  refine xi_iload_n 0 dL_law_671 rfl ?_
  refine xi_iconst (v := nI 1) dL_law_672 (by decide) ?_
  refine xi_iadd (v := i + nI 1) dL_law_673 rfl ?_
  refine xi_sld (v := x1) dL_law_674 e1.1 e1.2 ?_
  refine xi_aload_nS 3 dL_law_675 rfl ?_
  refine xi_iload_n 0 dL_law_676 rfl ?_
  refine xi_iconst (v := nI 2) dL_law_677 (by decide) ?_
  refine xi_iadd (v := i + nI 2) dL_law_678 rfl ?_
  refine xi_sld (v := x2) dL_law_679 e2.1 e2.2 ?_
  refine xi_callV (as := [.int x1, .int x2]) (rest := []) dL_law_680 (KX11_worst G Gb x1 x2 σ r u f1) mkX11_worst w_634 w_635 w_633 (mem_get sh_0) rfl rfl rfl rfl (Nat.le_of_ble_eq_true rfl) (Nat.le_of_ble_eq_true rfl) (Nat.le_of_ble_eq_true rfl) (rm_c (by omega)) (rm_s (by omega)) ?_
  intro v M2 hq
  obtain ⟨rfl, rfl⟩ := hq
  show xW G (mL nm) room_1 (xLZ G) 683 (LV i) [.int r] (mem u Gb) k n
  refine xi_pop dL_law_683 rfl ?_
  refine xi_aload_n 1 dL_law_684 rfl ?_
  refine xi_aload_nS 3 dL_law_685 rfl ?_
  refine xi_iload_n 0 dL_law_686 rfl ?_
  refine xi_iconst (v := nI 1) dL_law_687 (by decide) ?_
  refine xi_iadd (v := i + nI 1) dL_law_688 rfl ?_
  refine xi_sld (v := x1) dL_law_689 e1.1 e1.2 ?_
  refine xi_aload_nS 3 dL_law_690 rfl ?_
  refine xi_iload_n 0 dL_law_691 rfl ?_
  refine xi_iconst (v := nI 2) dL_law_692 (by decide) ?_
  refine xi_iadd (v := i + nI 2) dL_law_693 rfl ?_
  refine xi_sld (v := x2) dL_law_694 e2.1 e2.2 ?_
  refine xi_callV (as := [.int x1, .int x2]) (rest := []) dL_law_695 (KX12_worst G Gb x1 x2 u r2 w f2) mkX12_worst w_1340 w_1341 w_1339 (mem_get sh_149) rfl rfl rfl rfl (Nat.le_of_ble_eq_true rfl) (Nat.le_of_ble_eq_true rfl) (Nat.le_of_ble_eq_true rfl) (rm_c (by omega)) (rm_s (by omega)) ?_
  intro v M2 hq
  obtain ⟨rfl, rfl⟩ := hq
  show xW G (mL nm) room_1 (xLZ G) 698 (LV i) [.int r2] (mem w Gb) k n
  refine xi_pop dL_law_698 rfl ?_
  refine xi_goto (tgt := 1719) dL_law_699 (by decide) ?_
  exact K w _ _ _ hw (by omega) (by omega)
set_option maxHeartbeats 4000000 in
set_option maxRecDepth 100000 in
theorem law_14 {nm : String} (G : xG) (i x1 x2 x3 x4 x5 : Int32) (e1 : XA G i (nI 1) x1) (e2 : XA G i (nI 2) x2) (e3 : XA G i (nI 3) x3) (e4 : XA G i (nI 4) x4) (e5 : XA G i (nI 5) x5) {σ : St} {Gb : xMem} {k n : Nat} (hI : INV3 σ) (hk : k ≤ 599000) (hn : n ≤ 7300000) (K : ∀ (w : St) (Gb' : xMem) (k' n' : Nat), INV3 w → k' ≤ k + 1 → n' ≤ n + 5 → xW G (mL nm) room_1 (xLZ G) 1719 (LV i) [] (mem w Gb') k' n') : xW G (mL nm) room_1 (xLZ G) 702 (LV i) [] (mem σ Gb) k n := by
  obtain ⟨r, u, f1, r2, w, f2, hw, -⟩ := z3_longest hI x1
  refine xi_aload_n 2 dL_law_702 rfl ?_
  refine xi_aload_nS 3 dL_law_703 rfl ?_
  refine xi_iload_n 0 dL_law_704 rfl ?_
  refine xi_iconst (v := nI 1) dL_law_705 (by decide) ?_
  refine xi_iadd (v := i + nI 1) dL_law_706 rfl ?_
  refine xi_sld (v := x1) dL_law_707 e1.1 e1.2 ?_
  refine xi_callV (as := [.int x1]) (rest := []) dL_law_708 (KX11_longest G Gb x1 σ r u f1) mkX11_longest w_643 w_644 w_642 (mem_get sh_0) rfl rfl rfl rfl (Nat.le_of_ble_eq_true rfl) (Nat.le_of_ble_eq_true rfl) (Nat.le_of_ble_eq_true rfl) (rm_c (by omega)) (rm_s (by omega)) ?_
  intro v M2 hq
  obtain ⟨rfl, rfl⟩ := hq
  show xW G (mL nm) room_1 (xLZ G) 711 (LV i) [.int r] (mem u Gb) k n
  refine xi_pop dL_law_711 rfl ?_
  refine xi_aload_n 1 dL_law_712 rfl ?_
  refine xi_aload_nS 3 dL_law_713 rfl ?_
  refine xi_iload_n 0 dL_law_714 rfl ?_
  refine xi_iconst (v := nI 1) dL_law_715 (by decide) ?_
  refine xi_iadd (v := i + nI 1) dL_law_716 rfl ?_
  refine xi_sld (v := x1) dL_law_717 e1.1 e1.2 ?_
  refine xi_callV (as := [.int x1]) (rest := []) dL_law_718 (KX12_longest G Gb x1 u r2 w f2) mkX12_longest w_1344 w_1345 w_1343 (mem_get sh_149) rfl rfl rfl rfl (Nat.le_of_ble_eq_true rfl) (Nat.le_of_ble_eq_true rfl) (Nat.le_of_ble_eq_true rfl) (rm_c (by omega)) (rm_s (by omega)) ?_
  intro v M2 hq
  obtain ⟨rfl, rfl⟩ := hq
  show xW G (mL nm) room_1 (xLZ G) 721 (LV i) [.int r2] (mem w Gb) k n
  refine xi_pop dL_law_721 rfl ?_
  refine xi_goto (tgt := 1719) dL_law_722 (by decide) ?_
  exact K w _ _ _ hw (by omega) (by omega)
set_option maxHeartbeats 4000000 in
set_option maxRecDepth 100000 in
theorem law_15 {nm : String} (G : xG) (i x1 x2 x3 x4 x5 : Int32) (e1 : XA G i (nI 1) x1) (e2 : XA G i (nI 2) x2) (e3 : XA G i (nI 3) x3) (e4 : XA G i (nI 4) x4) (e5 : XA G i (nI 5) x5) {σ : St} {Gb : xMem} {k n : Nat} (hI : INV3 σ) (hk : k ≤ 599000) (hn : n ≤ 7300000) (K : ∀ (w : St) (Gb' : xMem) (k' n' : Nat), INV3 w → k' ≤ k + 1 → n' ≤ n + 5 → xW G (mL nm) room_1 (xLZ G) 1719 (LV i) [] (mem w Gb') k' n') : xW G (mL nm) room_1 (xLZ G) 725 (LV i) [] (mem σ Gb) k n := by
  obtain ⟨r, u, f1, r2, w, f2, hw, -⟩ := z3_least hI x1 x2
  refine xi_aload_n 2 dL_law_725 rfl ?_
  refine xi_aload_nS 3 dL_law_726 rfl ?_
  refine xi_iload_n 0 dL_law_727 rfl ?_
  refine xi_iconst (v := nI 1) dL_law_728 (by decide) ?_
  refine xi_iadd (v := i + nI 1) dL_law_729 rfl ?_
  refine xi_sld (v := x1) dL_law_730 e1.1 e1.2 ?_
  refine xi_aload_nS 3 dL_law_731 rfl ?_
  refine xi_iload_n 0 dL_law_732 rfl ?_
  refine xi_iconst (v := nI 2) dL_law_733 (by decide) ?_
  refine xi_iadd (v := i + nI 2) dL_law_734 rfl ?_
  refine xi_sld (v := x2) dL_law_735 e2.1 e2.2 ?_
  refine xi_callV (as := [.int x1, .int x2]) (rest := []) dL_law_736 (KX11_least G Gb x1 x2 σ r u f1) mkX11_least w_654 w_655 w_653 (mem_get sh_0) rfl rfl rfl rfl (Nat.le_of_ble_eq_true rfl) (Nat.le_of_ble_eq_true rfl) (Nat.le_of_ble_eq_true rfl) (rm_c (by omega)) (rm_s (by omega)) ?_
  intro v M2 hq
  obtain ⟨rfl, rfl⟩ := hq
  show xW G (mL nm) room_1 (xLZ G) 739 (LV i) [.int r] (mem u Gb) k n
  refine xi_pop dL_law_739 rfl ?_
  refine xi_aload_n 1 dL_law_740 rfl ?_
  refine xi_aload_nS 3 dL_law_741 rfl ?_
  refine xi_iload_n 0 dL_law_742 rfl ?_
  refine xi_iconst (v := nI 1) dL_law_743 (by decide) ?_
  refine xi_iadd (v := i + nI 1) dL_law_744 rfl ?_
  refine xi_sld (v := x1) dL_law_745 e1.1 e1.2 ?_
  refine xi_aload_nS 3 dL_law_746 rfl ?_
  refine xi_iload_n 0 dL_law_747 rfl ?_
  refine xi_iconst (v := nI 2) dL_law_748 (by decide) ?_
  refine xi_iadd (v := i + nI 2) dL_law_749 rfl ?_
  refine xi_sld (v := x2) dL_law_750 e2.1 e2.2 ?_
  refine xi_callV (as := [.int x1, .int x2]) (rest := []) dL_law_751 (KX12_least G Gb x1 x2 u r2 w f2) mkX12_least w_1349 w_1350 w_1348 (mem_get sh_149) rfl rfl rfl rfl (Nat.le_of_ble_eq_true rfl) (Nat.le_of_ble_eq_true rfl) (Nat.le_of_ble_eq_true rfl) (rm_c (by omega)) (rm_s (by omega)) ?_
  intro v M2 hq
  obtain ⟨rfl, rfl⟩ := hq
  show xW G (mL nm) room_1 (xLZ G) 754 (LV i) [.int r2] (mem w Gb) k n
  refine xi_pop dL_law_754 rfl ?_
  refine xi_goto (tgt := 1719) dL_law_755 (by decide) ?_
  exact K w _ _ _ hw (by omega) (by omega)
set_option maxHeartbeats 4000000 in
set_option maxRecDepth 100000 in
theorem law_16 {nm : String} (G : xG) (i x1 x2 x3 x4 x5 : Int32) (e1 : XA G i (nI 1) x1) (e2 : XA G i (nI 2) x2) (e3 : XA G i (nI 3) x3) (e4 : XA G i (nI 4) x4) (e5 : XA G i (nI 5) x5) {σ : St} {Gb : xMem} {k n : Nat} (hI : INV3 σ) (hk : k ≤ 599000) (hn : n ≤ 7300000) (K : ∀ (w : St) (Gb' : xMem) (k' n' : Nat), INV3 w → k' ≤ k + 1 → n' ≤ n + 5 → xW G (mL nm) room_1 (xLZ G) 1719 (LV i) [] (mem w Gb') k' n') : xW G (mL nm) room_1 (xLZ G) 758 (LV i) [] (mem σ Gb) k n := by
  obtain ⟨r, u, f1, r2, w, f2, hw, -⟩ := z3_best hI x1 x2 x3
  refine xi_aload_n 2 dL_law_758 rfl ?_
  refine xi_aload_nS 3 dL_law_759 rfl ?_
  refine xi_iload_n 0 dL_law_760 rfl ?_
  refine xi_iconst (v := nI 1) dL_law_761 (by decide) ?_
  refine xi_iadd (v := i + nI 1) dL_law_762 rfl ?_
  refine xi_sld (v := x1) dL_law_763 e1.1 e1.2 ?_
  refine xi_aload_nS 3 dL_law_764 rfl ?_
  refine xi_iload_n 0 dL_law_765 rfl ?_
  refine xi_iconst (v := nI 2) dL_law_766 (by decide) ?_
  refine xi_iadd (v := i + nI 2) dL_law_767 rfl ?_
  refine xi_sld (v := x2) dL_law_768 e2.1 e2.2 ?_
  refine xi_aload_nS 3 dL_law_769 rfl ?_
  refine xi_iload_n 0 dL_law_770 rfl ?_
  refine xi_iconst (v := nI 3) dL_law_771 (by decide) ?_
  refine xi_iadd (v := i + nI 3) dL_law_772 rfl ?_
  refine xi_sld (v := x3) dL_law_773 e3.1 e3.2 ?_
  refine xi_callV (as := [.int x1, .int x2, .int x3]) (rest := []) dL_law_774 (KX11_best G Gb x1 x2 x3 σ r u f1) mkX11_best w_747 w_748 w_746 (mem_get sh_0) rfl rfl rfl rfl (Nat.le_of_ble_eq_true rfl) (Nat.le_of_ble_eq_true rfl) (Nat.le_of_ble_eq_true rfl) (rm_c (by omega)) (rm_s (by omega)) ?_
  intro v M2 hq
  obtain ⟨rfl, rfl⟩ := hq
  show xW G (mL nm) room_1 (xLZ G) 777 (LV i) [.int r] (mem u Gb) k n
  refine xi_pop dL_law_777 rfl ?_
  refine xi_aload_n 1 dL_law_778 rfl ?_
  refine xi_aload_nS 3 dL_law_779 rfl ?_
  refine xi_iload_n 0 dL_law_780 rfl ?_
  refine xi_iconst (v := nI 1) dL_law_781 (by decide) ?_
  refine xi_iadd (v := i + nI 1) dL_law_782 rfl ?_
  refine xi_sld (v := x1) dL_law_783 e1.1 e1.2 ?_
  refine xi_aload_nS 3 dL_law_784 rfl ?_
  refine xi_iload_n 0 dL_law_785 rfl ?_
  refine xi_iconst (v := nI 2) dL_law_786 (by decide) ?_
  refine xi_iadd (v := i + nI 2) dL_law_787 rfl ?_
  refine xi_sld (v := x2) dL_law_788 e2.1 e2.2 ?_
  refine xi_aload_nS 3 dL_law_789 rfl ?_
  refine xi_iload_n 0 dL_law_790 rfl ?_
  refine xi_iconst (v := nI 3) dL_law_791 (by decide) ?_
  refine xi_iadd (v := i + nI 3) dL_law_792 rfl ?_
  refine xi_sld (v := x3) dL_law_793 e3.1 e3.2 ?_
  refine xi_callV (as := [.int x1, .int x2, .int x3]) (rest := []) dL_law_794 (KX12_best G Gb x1 x2 x3 u r2 w f2) mkX12_best w_1378 w_1379 w_1377 (mem_get sh_149) rfl rfl rfl rfl (Nat.le_of_ble_eq_true rfl) (Nat.le_of_ble_eq_true rfl) (Nat.le_of_ble_eq_true rfl) (rm_c (by omega)) (rm_s (by omega)) ?_
  intro v M2 hq
  obtain ⟨rfl, rfl⟩ := hq
  show xW G (mL nm) room_1 (xLZ G) 797 (LV i) [.int r2] (mem w Gb) k n
  refine xi_pop dL_law_797 rfl ?_
  refine xi_goto (tgt := 1719) dL_law_798 (by decide) ?_
  exact K w _ _ _ hw (by omega) (by omega)
set_option maxHeartbeats 4000000 in
set_option maxRecDepth 100000 in
theorem law_17 {nm : String} (G : xG) (i x1 x2 x3 x4 x5 : Int32) (e1 : XA G i (nI 1) x1) (e2 : XA G i (nI 2) x2) (e3 : XA G i (nI 3) x3) (e4 : XA G i (nI 4) x4) (e5 : XA G i (nI 5) x5) {σ : St} {Gb : xMem} {k n : Nat} (hI : INV3 σ) (hk : k ≤ 599000) (hn : n ≤ 7300000) (K : ∀ (w : St) (Gb' : xMem) (k' n' : Nat), INV3 w → k' ≤ k + 1 → n' ≤ n + 5 → xW G (mL nm) room_1 (xLZ G) 1719 (LV i) [] (mem w Gb') k' n') : xW G (mL nm) room_1 (xLZ G) 801 (LV i) [] (mem σ Gb) k n := by
  obtain ⟨r, u, f1, r2, w, f2, hw, -⟩ := z3_ways hI x1 x2
  refine xi_aload_n 2 dL_law_801 rfl ?_
  refine xi_aload_nS 3 dL_law_802 rfl ?_
  refine xi_iload_n 0 dL_law_803 rfl ?_
  refine xi_iconst (v := nI 1) dL_law_804 (by decide) ?_
  refine xi_iadd (v := i + nI 1) dL_law_805 rfl ?_
  refine xi_sld (v := x1) dL_law_806 e1.1 e1.2 ?_
  refine xi_aload_nS 3 dL_law_807 rfl ?_
  refine xi_iload_n 0 dL_law_808 rfl ?_
  refine xi_iconst (v := nI 2) dL_law_809 (by decide) ?_
  refine xi_iadd (v := i + nI 2) dL_law_810 rfl ?_
  refine xi_sld (v := x2) dL_law_811 e2.1 e2.2 ?_
  refine xi_callV (as := [.int x1, .int x2]) (rest := []) dL_law_812 (KX11_ways G Gb x1 x2 σ r u f1) mkX11_ways w_751 w_752 w_750 (mem_get sh_0) rfl rfl rfl rfl (Nat.le_of_ble_eq_true rfl) (Nat.le_of_ble_eq_true rfl) (Nat.le_of_ble_eq_true rfl) (rm_c (by omega)) (rm_s (by omega)) ?_
  intro v M2 hq
  obtain ⟨rfl, rfl⟩ := hq
  show xW G (mL nm) room_1 (xLZ G) 815 (LV i) [.int r] (mem u Gb) k n
  refine xi_pop dL_law_815 rfl ?_
  refine xi_aload_n 1 dL_law_816 rfl ?_
  refine xi_aload_nS 3 dL_law_817 rfl ?_
  refine xi_iload_n 0 dL_law_818 rfl ?_
  refine xi_iconst (v := nI 1) dL_law_819 (by decide) ?_
  refine xi_iadd (v := i + nI 1) dL_law_820 rfl ?_
  refine xi_sld (v := x1) dL_law_821 e1.1 e1.2 ?_
  refine xi_aload_nS 3 dL_law_822 rfl ?_
  refine xi_iload_n 0 dL_law_823 rfl ?_
  refine xi_iconst (v := nI 2) dL_law_824 (by decide) ?_
  refine xi_iadd (v := i + nI 2) dL_law_825 rfl ?_
  refine xi_sld (v := x2) dL_law_826 e2.1 e2.2 ?_
  refine xi_callV (as := [.int x1, .int x2]) (rest := []) dL_law_827 (KX12_ways G Gb x1 x2 u r2 w f2) mkX12_ways w_1390 w_1391 w_1389 (mem_get sh_149) rfl rfl rfl rfl (Nat.le_of_ble_eq_true rfl) (Nat.le_of_ble_eq_true rfl) (Nat.le_of_ble_eq_true rfl) (rm_c (by omega)) (rm_s (by omega)) ?_
  intro v M2 hq
  obtain ⟨rfl, rfl⟩ := hq
  show xW G (mL nm) room_1 (xLZ G) 830 (LV i) [.int r2] (mem w Gb) k n
  refine xi_pop dL_law_830 rfl ?_
  refine xi_goto (tgt := 1719) dL_law_831 (by decide) ?_
  exact K w _ _ _ hw (by omega) (by omega)
set_option maxHeartbeats 4000000 in
set_option maxRecDepth 100000 in
theorem law_18 {nm : String} (G : xG) (i x1 x2 x3 x4 x5 : Int32) (e1 : XA G i (nI 1) x1) (e2 : XA G i (nI 2) x2) (e3 : XA G i (nI 3) x3) (e4 : XA G i (nI 4) x4) (e5 : XA G i (nI 5) x5) {σ : St} {Gb : xMem} {k n : Nat} (hI : INV3 σ) (hk : k ≤ 599000) (hn : n ≤ 7300000) (K : ∀ (w : St) (Gb' : xMem) (k' n' : Nat), INV3 w → k' ≤ k + 1 → n' ≤ n + 5 → xW G (mL nm) room_1 (xLZ G) 1719 (LV i) [] (mem w Gb') k' n') : xW G (mL nm) room_1 (xLZ G) 834 (LV i) [] (mem σ Gb) k n := by
  obtain ⟨r, u, f1, r2, w, f2, hw, -⟩ := z3_within hI x1 x2 x3
  refine xi_aload_n 2 dL_law_834 rfl ?_
  refine xi_aload_nS 3 dL_law_835 rfl ?_
  refine xi_iload_n 0 dL_law_836 rfl ?_
  refine xi_iconst (v := nI 1) dL_law_837 (by decide) ?_
  refine xi_iadd (v := i + nI 1) dL_law_838 rfl ?_
  refine xi_sld (v := x1) dL_law_839 e1.1 e1.2 ?_
  refine xi_aload_nS 3 dL_law_840 rfl ?_
  refine xi_iload_n 0 dL_law_841 rfl ?_
  refine xi_iconst (v := nI 2) dL_law_842 (by decide) ?_
  refine xi_iadd (v := i + nI 2) dL_law_843 rfl ?_
  refine xi_sld (v := x2) dL_law_844 e2.1 e2.2 ?_
  refine xi_aload_nS 3 dL_law_845 rfl ?_
  refine xi_iload_n 0 dL_law_846 rfl ?_
  refine xi_iconst (v := nI 3) dL_law_847 (by decide) ?_
  refine xi_iadd (v := i + nI 3) dL_law_848 rfl ?_
  refine xi_sld (v := x3) dL_law_849 e3.1 e3.2 ?_
  refine xi_callV (as := [.int x1, .int x2, .int x3]) (rest := []) dL_law_850 (KX11_within G Gb x1 x2 x3 σ r u f1) mkX11_within w_755 w_756 w_754 (mem_get sh_0) rfl rfl rfl rfl (Nat.le_of_ble_eq_true rfl) (Nat.le_of_ble_eq_true rfl) (Nat.le_of_ble_eq_true rfl) (rm_c (by omega)) (rm_s (by omega)) ?_
  intro v M2 hq
  obtain ⟨rfl, rfl⟩ := hq
  show xW G (mL nm) room_1 (xLZ G) 853 (LV i) [.int r] (mem u Gb) k n
  refine xi_pop dL_law_853 rfl ?_
  refine xi_aload_n 1 dL_law_854 rfl ?_
  refine xi_aload_nS 3 dL_law_855 rfl ?_
  refine xi_iload_n 0 dL_law_856 rfl ?_
  refine xi_iconst (v := nI 1) dL_law_857 (by decide) ?_
  refine xi_iadd (v := i + nI 1) dL_law_858 rfl ?_
  refine xi_sld (v := x1) dL_law_859 e1.1 e1.2 ?_
  refine xi_aload_nS 3 dL_law_860 rfl ?_
  refine xi_iload_n 0 dL_law_861 rfl ?_
  refine xi_iconst (v := nI 2) dL_law_862 (by decide) ?_
  refine xi_iadd (v := i + nI 2) dL_law_863 rfl ?_
  refine xi_sld (v := x2) dL_law_864 e2.1 e2.2 ?_
  refine xi_aload_nS 3 dL_law_865 rfl ?_
  refine xi_iload_n 0 dL_law_866 rfl ?_
  refine xi_iconst (v := nI 3) dL_law_867 (by decide) ?_
  refine xi_iadd (v := i + nI 3) dL_law_868 rfl ?_
  refine xi_sld (v := x3) dL_law_869 e3.1 e3.2 ?_
  refine xi_callV (as := [.int x1, .int x2, .int x3]) (rest := []) dL_law_870 (KX12_within G Gb x1 x2 x3 u r2 w f2) mkX12_within w_1402 w_1403 w_1401 (mem_get sh_149) rfl rfl rfl rfl (Nat.le_of_ble_eq_true rfl) (Nat.le_of_ble_eq_true rfl) (Nat.le_of_ble_eq_true rfl) (rm_c (by omega)) (rm_s (by omega)) ?_
  intro v M2 hq
  obtain ⟨rfl, rfl⟩ := hq
  show xW G (mL nm) room_1 (xLZ G) 873 (LV i) [.int r2] (mem w Gb) k n
  refine xi_pop dL_law_873 rfl ?_
  refine xi_goto (tgt := 1719) dL_law_874 (by decide) ?_
  exact K w _ _ _ hw (by omega) (by omega)
set_option maxHeartbeats 4000000 in
set_option maxRecDepth 100000 in
theorem law_19 {nm : String} (G : xG) (i x1 x2 x3 x4 x5 : Int32) (e1 : XA G i (nI 1) x1) (e2 : XA G i (nI 2) x2) (e3 : XA G i (nI 3) x3) (e4 : XA G i (nI 4) x4) (e5 : XA G i (nI 5) x5) {σ : St} {Gb : xMem} {k n : Nat} (hI : INV3 σ) (hk : k ≤ 599000) (hn : n ≤ 7300000) (K : ∀ (w : St) (Gb' : xMem) (k' n' : Nat), INV3 w → k' ≤ k + 1 → n' ≤ n + 5 → xW G (mL nm) room_1 (xLZ G) 1719 (LV i) [] (mem w Gb') k' n') : xW G (mL nm) room_1 (xLZ G) 877 (LV i) [] (mem σ Gb) k n := by
  obtain ⟨r, u, f1, r2, w, f2, hw, -⟩ := z3_firsts hI x1 x2
  refine xi_aload_n 2 dL_law_877 rfl ?_
  refine xi_aload_nS 3 dL_law_878 rfl ?_
  refine xi_iload_n 0 dL_law_879 rfl ?_
  refine xi_iconst (v := nI 1) dL_law_880 (by decide) ?_
  refine xi_iadd (v := i + nI 1) dL_law_881 rfl ?_
  refine xi_sld (v := x1) dL_law_882 e1.1 e1.2 ?_
  refine xi_aload_nS 3 dL_law_883 rfl ?_
  refine xi_iload_n 0 dL_law_884 rfl ?_
  refine xi_iconst (v := nI 2) dL_law_885 (by decide) ?_
  refine xi_iadd (v := i + nI 2) dL_law_886 rfl ?_
  refine xi_sld (v := x2) dL_law_887 e2.1 e2.2 ?_
  refine xi_callV (as := [.int x1, .int x2]) (rest := []) dL_law_888 (KX11_firsts G Gb x1 x2 σ r u f1) mkX11_firsts w_770 w_771 w_769 (mem_get sh_0) rfl rfl rfl rfl (Nat.le_of_ble_eq_true rfl) (Nat.le_of_ble_eq_true rfl) (Nat.le_of_ble_eq_true rfl) (rm_c (by omega)) (rm_s (by omega)) ?_
  intro v M2 hq
  obtain ⟨rfl, rfl⟩ := hq
  show xW G (mL nm) room_1 (xLZ G) 891 (LV i) [.int r] (mem u Gb) k n
  refine xi_pop dL_law_891 rfl ?_
  refine xi_aload_n 1 dL_law_892 rfl ?_
  refine xi_aload_nS 3 dL_law_893 rfl ?_
  refine xi_iload_n 0 dL_law_894 rfl ?_
  refine xi_iconst (v := nI 1) dL_law_895 (by decide) ?_
  refine xi_iadd (v := i + nI 1) dL_law_896 rfl ?_
  refine xi_sld (v := x1) dL_law_897 e1.1 e1.2 ?_
  refine xi_aload_nS 3 dL_law_898 rfl ?_
  refine xi_iload_n 0 dL_law_899 rfl ?_
  refine xi_iconst (v := nI 2) dL_law_900 (by decide) ?_
  refine xi_iadd (v := i + nI 2) dL_law_901 rfl ?_
  refine xi_sld (v := x2) dL_law_902 e2.1 e2.2 ?_
  refine xi_callV (as := [.int x1, .int x2]) (rest := []) dL_law_903 (KX12_firsts G Gb x1 x2 u r2 w f2) mkX12_firsts w_1407 w_1408 w_1406 (mem_get sh_149) rfl rfl rfl rfl (Nat.le_of_ble_eq_true rfl) (Nat.le_of_ble_eq_true rfl) (Nat.le_of_ble_eq_true rfl) (rm_c (by omega)) (rm_s (by omega)) ?_
  intro v M2 hq
  obtain ⟨rfl, rfl⟩ := hq
  show xW G (mL nm) room_1 (xLZ G) 906 (LV i) [.int r2] (mem w Gb) k n
  refine xi_pop dL_law_906 rfl ?_
  refine xi_goto (tgt := 1719) dL_law_907 (by decide) ?_
  exact K w _ _ _ hw (by omega) (by omega)
set_option maxHeartbeats 4000000 in
set_option maxRecDepth 100000 in
theorem law_20 {nm : String} (G : xG) (i x1 x2 x3 x4 x5 : Int32) (e1 : XA G i (nI 1) x1) (e2 : XA G i (nI 2) x2) (e3 : XA G i (nI 3) x3) (e4 : XA G i (nI 4) x4) (e5 : XA G i (nI 5) x5) {σ : St} {Gb : xMem} {k n : Nat} (hI : INV3 σ) (hk : k ≤ 599000) (hn : n ≤ 7300000) (K : ∀ (w : St) (Gb' : xMem) (k' n' : Nat), INV3 w → k' ≤ k + 1 → n' ≤ n + 5 → xW G (mL nm) room_1 (xLZ G) 1719 (LV i) [] (mem w Gb') k' n') : xW G (mL nm) room_1 (xLZ G) 910 (LV i) [] (mem σ Gb) k n := by
  obtain ⟨r, u, f1, r2, w, f2, hw, -⟩ := z3_bound hI x1 x2 x3
  refine xi_aload_n 2 dL_law_910 rfl ?_
  refine xi_aload_nS 3 dL_law_911 rfl ?_
  refine xi_iload_n 0 dL_law_912 rfl ?_
  refine xi_iconst (v := nI 1) dL_law_913 (by decide) ?_
  refine xi_iadd (v := i + nI 1) dL_law_914 rfl ?_
  refine xi_sld (v := x1) dL_law_915 e1.1 e1.2 ?_
  refine xi_aload_nS 3 dL_law_916 rfl ?_
  refine xi_iload_n 0 dL_law_917 rfl ?_
  refine xi_iconst (v := nI 2) dL_law_918 (by decide) ?_
  refine xi_iadd (v := i + nI 2) dL_law_919 rfl ?_
  refine xi_sld (v := x2) dL_law_920 e2.1 e2.2 ?_
  refine xi_aload_nS 3 dL_law_921 rfl ?_
  refine xi_iload_n 0 dL_law_922 rfl ?_
  refine xi_iconst (v := nI 3) dL_law_923 (by decide) ?_
  refine xi_iadd (v := i + nI 3) dL_law_924 rfl ?_
  refine xi_sld (v := x3) dL_law_925 e3.1 e3.2 ?_
  refine xi_callV (as := [.int x1, .int x2, .int x3]) (rest := []) dL_law_926 (KX11_bound G Gb x1 x2 x3 σ r u f1) mkX11_bound w_774 w_775 w_773 (mem_get sh_0) rfl rfl rfl rfl (Nat.le_of_ble_eq_true rfl) (Nat.le_of_ble_eq_true rfl) (Nat.le_of_ble_eq_true rfl) (rm_c (by omega)) (rm_s (by omega)) ?_
  intro v M2 hq
  obtain ⟨rfl, rfl⟩ := hq
  show xW G (mL nm) room_1 (xLZ G) 929 (LV i) [.int r] (mem u Gb) k n
  refine xi_pop dL_law_929 rfl ?_
  refine xi_aload_n 1 dL_law_930 rfl ?_
  refine xi_aload_nS 3 dL_law_931 rfl ?_
  refine xi_iload_n 0 dL_law_932 rfl ?_
  refine xi_iconst (v := nI 1) dL_law_933 (by decide) ?_
  refine xi_iadd (v := i + nI 1) dL_law_934 rfl ?_
  refine xi_sld (v := x1) dL_law_935 e1.1 e1.2 ?_
  refine xi_aload_nS 3 dL_law_936 rfl ?_
  refine xi_iload_n 0 dL_law_937 rfl ?_
  refine xi_iconst (v := nI 2) dL_law_938 (by decide) ?_
  refine xi_iadd (v := i + nI 2) dL_law_939 rfl ?_
  refine xi_sld (v := x2) dL_law_940 e2.1 e2.2 ?_
  refine xi_aload_nS 3 dL_law_941 rfl ?_
  refine xi_iload_n 0 dL_law_942 rfl ?_
  refine xi_iconst (v := nI 3) dL_law_943 (by decide) ?_
  refine xi_iadd (v := i + nI 3) dL_law_944 rfl ?_
  refine xi_sld (v := x3) dL_law_945 e3.1 e3.2 ?_
  refine xi_callV (as := [.int x1, .int x2, .int x3]) (rest := []) dL_law_946 (KX12_bound G Gb x1 x2 x3 u r2 w f2) mkX12_bound w_1415 w_1416 w_1414 (mem_get sh_149) rfl rfl rfl rfl (Nat.le_of_ble_eq_true rfl) (Nat.le_of_ble_eq_true rfl) (Nat.le_of_ble_eq_true rfl) (rm_c (by omega)) (rm_s (by omega)) ?_
  intro v M2 hq
  obtain ⟨rfl, rfl⟩ := hq
  show xW G (mL nm) room_1 (xLZ G) 949 (LV i) [.int r2] (mem w Gb) k n
  refine xi_pop dL_law_949 rfl ?_
  refine xi_goto (tgt := 1719) dL_law_950 (by decide) ?_
  exact K w _ _ _ hw (by omega) (by omega)
set_option maxHeartbeats 4000000 in
set_option maxRecDepth 100000 in
theorem law_21 {nm : String} (G : xG) (i x1 x2 x3 x4 x5 : Int32) (e1 : XA G i (nI 1) x1) (e2 : XA G i (nI 2) x2) (e3 : XA G i (nI 3) x3) (e4 : XA G i (nI 4) x4) (e5 : XA G i (nI 5) x5) {σ : St} {Gb : xMem} {k n : Nat} (hI : INV3 σ) (hk : k ≤ 599000) (hn : n ≤ 7300000) (K : ∀ (w : St) (Gb' : xMem) (k' n' : Nat), INV3 w → k' ≤ k + 1 → n' ≤ n + 5 → xW G (mL nm) room_1 (xLZ G) 1719 (LV i) [] (mem w Gb') k' n') : xW G (mL nm) room_1 (xLZ G) 953 (LV i) [] (mem σ Gb) k n := by
  obtain ⟨r, u, f1, r2, w, f2, hw⟩ := zw_minor hI x1
  refine xi_aload_n 2 dL_law_953 rfl ?_
  refine xi_aload_nS 3 dL_law_954 rfl ?_
  refine xi_iload_n 0 dL_law_955 rfl ?_
  refine xi_iconst (v := nI 1) dL_law_956 (by decide) ?_
  refine xi_iadd (v := i + nI 1) dL_law_957 rfl ?_
  refine xi_sld (v := x1) dL_law_958 e1.1 e1.2 ?_
  refine xi_callV (as := [.int x1]) (rest := []) dL_law_959 (KX11_minor G Gb x1 σ r u f1) mkX11_minor w_789 w_790 w_788 (mem_get sh_0) rfl rfl rfl rfl (Nat.le_of_ble_eq_true rfl) (Nat.le_of_ble_eq_true rfl) (Nat.le_of_ble_eq_true rfl) (rm_c (by omega)) (rm_s (by omega)) ?_
  intro v M2 hq
  obtain ⟨rfl, rfl⟩ := hq
  show xW G (mL nm) room_1 (xLZ G) 962 (LV i) [.int r] (mem u Gb) k n
  refine xi_pop dL_law_962 rfl ?_
  refine xi_aload_n 1 dL_law_963 rfl ?_
  refine xi_aload_nS 3 dL_law_964 rfl ?_
  refine xi_iload_n 0 dL_law_965 rfl ?_
  refine xi_iconst (v := nI 1) dL_law_966 (by decide) ?_
  refine xi_iadd (v := i + nI 1) dL_law_967 rfl ?_
  refine xi_sld (v := x1) dL_law_968 e1.1 e1.2 ?_
  refine xi_callV (as := [.int x1]) (rest := []) dL_law_969 (KX12_minor G Gb x1 u r2 w f2) mkX12_minor w_1423 w_1424 w_1422 (mem_get sh_149) rfl rfl rfl rfl (Nat.le_of_ble_eq_true rfl) (Nat.le_of_ble_eq_true rfl) (Nat.le_of_ble_eq_true rfl) (rm_c (by omega)) (rm_s (by omega)) ?_
  intro v M2 hq
  obtain ⟨rfl, rfl⟩ := hq
  show xW G (mL nm) room_1 (xLZ G) 972 (LV i) [.int r2] (mem w Gb) k n
  refine xi_pop dL_law_972 rfl ?_
  refine xi_goto (tgt := 1719) dL_law_973 (by decide) ?_
  exact K w _ _ _ hw (by omega) (by omega)
set_option maxHeartbeats 4000000 in
set_option maxRecDepth 100000 in
theorem law_22 {nm : String} (G : xG) (i x1 x2 x3 x4 x5 : Int32) (e1 : XA G i (nI 1) x1) (e2 : XA G i (nI 2) x2) (e3 : XA G i (nI 3) x3) (e4 : XA G i (nI 4) x4) (e5 : XA G i (nI 5) x5) {σ : St} {Gb : xMem} {k n : Nat} (hI : INV3 σ) (hk : k ≤ 599000) (hn : n ≤ 7300000) (K : ∀ (w : St) (Gb' : xMem) (k' n' : Nat), INV3 w → k' ≤ k + 1 → n' ≤ n + 5 → xW G (mL nm) room_1 (xLZ G) 1719 (LV i) [] (mem w Gb') k' n') : xW G (mL nm) room_1 (xLZ G) 976 (LV i) [] (mem σ Gb) k n := by
  obtain ⟨r, u, f1, r2, w, f2, hw, -⟩ := z3_among hI x1 x2 x3
  refine xi_aload_n 2 dL_law_976 rfl ?_
  refine xi_aload_nS 3 dL_law_977 rfl ?_
  refine xi_iload_n 0 dL_law_978 rfl ?_
  refine xi_iconst (v := nI 1) dL_law_979 (by decide) ?_
  refine xi_iadd (v := i + nI 1) dL_law_980 rfl ?_
  refine xi_sld (v := x1) dL_law_981 e1.1 e1.2 ?_
  refine xi_aload_nS 3 dL_law_982 rfl ?_
  refine xi_iload_n 0 dL_law_983 rfl ?_
  refine xi_iconst (v := nI 2) dL_law_984 (by decide) ?_
  refine xi_iadd (v := i + nI 2) dL_law_985 rfl ?_
  refine xi_sld (v := x2) dL_law_986 e2.1 e2.2 ?_
  refine xi_aload_nS 3 dL_law_987 rfl ?_
  refine xi_iload_n 0 dL_law_988 rfl ?_
  refine xi_iconst (v := nI 3) dL_law_989 (by decide) ?_
  refine xi_iadd (v := i + nI 3) dL_law_990 rfl ?_
  refine xi_sld (v := x3) dL_law_991 e3.1 e3.2 ?_
  refine xi_callV (as := [.int x1, .int x2, .int x3]) (rest := []) dL_law_992 (KX11_among G Gb x1 x2 x3 σ r u f1) mkX11_among w_812 w_813 w_811 (mem_get sh_0) rfl rfl rfl rfl (Nat.le_of_ble_eq_true rfl) (Nat.le_of_ble_eq_true rfl) (Nat.le_of_ble_eq_true rfl) (rm_c (by omega)) (rm_s (by omega)) ?_
  intro v M2 hq
  obtain ⟨rfl, rfl⟩ := hq
  show xW G (mL nm) room_1 (xLZ G) 995 (LV i) [.int r] (mem u Gb) k n
  refine xi_pop dL_law_995 rfl ?_
  refine xi_aload_n 1 dL_law_996 rfl ?_
  refine xi_aload_nS 3 dL_law_997 rfl ?_
  refine xi_iload_n 0 dL_law_998 rfl ?_
  refine xi_iconst (v := nI 1) dL_law_999 (by decide) ?_
  refine xi_iadd (v := i + nI 1) dL_law_1000 rfl ?_
  refine xi_sld (v := x1) dL_law_1001 e1.1 e1.2 ?_
  refine xi_aload_nS 3 dL_law_1002 rfl ?_
  refine xi_iload_n 0 dL_law_1003 rfl ?_
  refine xi_iconst (v := nI 2) dL_law_1004 (by decide) ?_
  refine xi_iadd (v := i + nI 2) dL_law_1005 rfl ?_
  refine xi_sld (v := x2) dL_law_1006 e2.1 e2.2 ?_
  refine xi_aload_nS 3 dL_law_1007 rfl ?_
  refine xi_iload_n 0 dL_law_1008 rfl ?_
  refine xi_iconst (v := nI 3) dL_law_1009 (by decide) ?_
  refine xi_iadd (v := i + nI 3) dL_law_1010 rfl ?_
  refine xi_sld (v := x3) dL_law_1011 e3.1 e3.2 ?_
  refine xi_callV (as := [.int x1, .int x2, .int x3]) (rest := []) dL_law_1012 (KX12_among G Gb x1 x2 x3 u r2 w f2) mkX12_among w_1411 w_1412 w_1410 (mem_get sh_149) rfl rfl rfl rfl (Nat.le_of_ble_eq_true rfl) (Nat.le_of_ble_eq_true rfl) (Nat.le_of_ble_eq_true rfl) (rm_c (by omega)) (rm_s (by omega)) ?_
  intro v M2 hq
  obtain ⟨rfl, rfl⟩ := hq
  show xW G (mL nm) room_1 (xLZ G) 1015 (LV i) [.int r2] (mem w Gb) k n
  refine xi_pop dL_law_1015 rfl ?_
  refine xi_goto (tgt := 1719) dL_law_1016 (by decide) ?_
  exact K w _ _ _ hw (by omega) (by omega)
set_option maxHeartbeats 4000000 in
set_option maxRecDepth 100000 in
theorem law_23 {nm : String} (G : xG) (i x1 x2 x3 x4 x5 : Int32) (e1 : XA G i (nI 1) x1) (e2 : XA G i (nI 2) x2) (e3 : XA G i (nI 3) x3) (e4 : XA G i (nI 4) x4) (e5 : XA G i (nI 5) x5) {σ : St} {Gb : xMem} {k n : Nat} (hI : INV3 σ) (hk : k ≤ 599000) (hn : n ≤ 7300000) (K : ∀ (w : St) (Gb' : xMem) (k' n' : Nat), INV3 w → k' ≤ k + 1 → n' ≤ n + 5 → xW G (mL nm) room_1 (xLZ G) 1719 (LV i) [] (mem w Gb') k' n') : xW G (mL nm) room_1 (xLZ G) 1019 (LV i) [] (mem σ Gb) k n := by
  obtain ⟨r, u, f1, r2, w, f2, hw, -⟩ := z3_split hI x1 x2 x3
  refine xi_aload_n 2 dL_law_1019 rfl ?_
  refine xi_aload_nS 3 dL_law_1020 rfl ?_
  refine xi_iload_n 0 dL_law_1021 rfl ?_
  refine xi_iconst (v := nI 1) dL_law_1022 (by decide) ?_
  refine xi_iadd (v := i + nI 1) dL_law_1023 rfl ?_
  refine xi_sld (v := x1) dL_law_1024 e1.1 e1.2 ?_
  refine xi_aload_nS 3 dL_law_1025 rfl ?_
  refine xi_iload_n 0 dL_law_1026 rfl ?_
  refine xi_iconst (v := nI 2) dL_law_1027 (by decide) ?_
  refine xi_iadd (v := i + nI 2) dL_law_1028 rfl ?_
  refine xi_sld (v := x2) dL_law_1029 e2.1 e2.2 ?_
  refine xi_aload_nS 3 dL_law_1030 rfl ?_
  refine xi_iload_n 0 dL_law_1031 rfl ?_
  refine xi_iconst (v := nI 3) dL_law_1032 (by decide) ?_
  refine xi_iadd (v := i + nI 3) dL_law_1033 rfl ?_
  refine xi_sld (v := x3) dL_law_1034 e3.1 e3.2 ?_
  refine xi_callV (as := [.int x1, .int x2, .int x3]) (rest := []) dL_law_1035 (KX11_split G Gb x1 x2 x3 σ r u f1) mkX11_split w_820 w_821 w_819 (mem_get sh_0) rfl rfl rfl rfl (Nat.le_of_ble_eq_true rfl) (Nat.le_of_ble_eq_true rfl) (Nat.le_of_ble_eq_true rfl) (rm_c (by omega)) (rm_s (by omega)) ?_
  intro v M2 hq
  obtain ⟨rfl, rfl⟩ := hq
  show xW G (mL nm) room_1 (xLZ G) 1038 (LV i) [.int r] (mem u Gb) k n
  refine xi_pop dL_law_1038 rfl ?_
  refine xi_aload_n 1 dL_law_1039 rfl ?_
  refine xi_aload_nS 3 dL_law_1040 rfl ?_
  refine xi_iload_n 0 dL_law_1041 rfl ?_
  refine xi_iconst (v := nI 1) dL_law_1042 (by decide) ?_
  refine xi_iadd (v := i + nI 1) dL_law_1043 rfl ?_
  refine xi_sld (v := x1) dL_law_1044 e1.1 e1.2 ?_
  refine xi_aload_nS 3 dL_law_1045 rfl ?_
  refine xi_iload_n 0 dL_law_1046 rfl ?_
  refine xi_iconst (v := nI 2) dL_law_1047 (by decide) ?_
  refine xi_iadd (v := i + nI 2) dL_law_1048 rfl ?_
  refine xi_sld (v := x2) dL_law_1049 e2.1 e2.2 ?_
  refine xi_aload_nS 3 dL_law_1050 rfl ?_
  refine xi_iload_n 0 dL_law_1051 rfl ?_
  refine xi_iconst (v := nI 3) dL_law_1052 (by decide) ?_
  refine xi_iadd (v := i + nI 3) dL_law_1053 rfl ?_
  refine xi_sld (v := x3) dL_law_1054 e3.1 e3.2 ?_
  refine xi_callV (as := [.int x1, .int x2, .int x3]) (rest := []) dL_law_1055 (KX12_split G Gb x1 x2 x3 u r2 w f2) mkX12_split w_1431 w_1432 w_1430 (mem_get sh_149) rfl rfl rfl rfl (Nat.le_of_ble_eq_true rfl) (Nat.le_of_ble_eq_true rfl) (Nat.le_of_ble_eq_true rfl) (rm_c (by omega)) (rm_s (by omega)) ?_
  intro v M2 hq
  obtain ⟨rfl, rfl⟩ := hq
  show xW G (mL nm) room_1 (xLZ G) 1058 (LV i) [.int r2] (mem w Gb) k n
  refine xi_pop dL_law_1058 rfl ?_
  refine xi_goto (tgt := 1719) dL_law_1059 (by decide) ?_
  exact K w _ _ _ hw (by omega) (by omega)
set_option maxHeartbeats 4000000 in
set_option maxRecDepth 100000 in
theorem law_24 {nm : String} (G : xG) (i x1 x2 x3 x4 x5 : Int32) (e1 : XA G i (nI 1) x1) (e2 : XA G i (nI 2) x2) (e3 : XA G i (nI 3) x3) (e4 : XA G i (nI 4) x4) (e5 : XA G i (nI 5) x5) {σ : St} {Gb : xMem} {k n : Nat} (hI : INV3 σ) (hk : k ≤ 599000) (hn : n ≤ 7300000) (K : ∀ (w : St) (Gb' : xMem) (k' n' : Nat), INV3 w → k' ≤ k + 1 → n' ≤ n + 5 → xW G (mL nm) room_1 (xLZ G) 1719 (LV i) [] (mem w Gb') k' n') : xW G (mL nm) room_1 (xLZ G) 1062 (LV i) [] (mem σ Gb) k n := by
  obtain ⟨r, u, f1, r2, w, f2, hw, -⟩ := z3_halve hI x1
  refine xi_aload_n 2 dL_law_1062 rfl ?_
  refine xi_aload_nS 3 dL_law_1063 rfl ?_
  refine xi_iload_n 0 dL_law_1064 rfl ?_
  refine xi_iconst (v := nI 1) dL_law_1065 (by decide) ?_
  refine xi_iadd (v := i + nI 1) dL_law_1066 rfl ?_
  refine xi_sld (v := x1) dL_law_1067 e1.1 e1.2 ?_
  refine xi_callV (as := [.int x1]) (rest := []) dL_law_1068 (KX11_halve G Gb x1 σ r u f1) mkX11_halve w_828 w_829 w_827 (mem_get sh_0) rfl rfl rfl rfl (Nat.le_of_ble_eq_true rfl) (Nat.le_of_ble_eq_true rfl) (Nat.le_of_ble_eq_true rfl) (rm_c (by omega)) (rm_s (by omega)) ?_
  intro v M2 hq
  obtain ⟨rfl, rfl⟩ := hq
  show xW G (mL nm) room_1 (xLZ G) 1071 (LV i) [.int r] (mem u Gb) k n
  refine xi_pop dL_law_1071 rfl ?_
  refine xi_aload_n 1 dL_law_1072 rfl ?_
  refine xi_aload_nS 3 dL_law_1073 rfl ?_
  refine xi_iload_n 0 dL_law_1074 rfl ?_
  refine xi_iconst (v := nI 1) dL_law_1075 (by decide) ?_
  refine xi_iadd (v := i + nI 1) dL_law_1076 rfl ?_
  refine xi_sld (v := x1) dL_law_1077 e1.1 e1.2 ?_
  refine xi_callV (as := [.int x1]) (rest := []) dL_law_1078 (KX12_halve G Gb x1 u r2 w f2) mkX12_halve w_1435 w_1436 w_1434 (mem_get sh_149) rfl rfl rfl rfl (Nat.le_of_ble_eq_true rfl) (Nat.le_of_ble_eq_true rfl) (Nat.le_of_ble_eq_true rfl) (rm_c (by omega)) (rm_s (by omega)) ?_
  intro v M2 hq
  obtain ⟨rfl, rfl⟩ := hq
  show xW G (mL nm) room_1 (xLZ G) 1081 (LV i) [.int r2] (mem w Gb) k n
  refine xi_pop dL_law_1081 rfl ?_
  refine xi_goto (tgt := 1719) dL_law_1082 (by decide) ?_
  exact K w _ _ _ hw (by omega) (by omega)
set_option maxHeartbeats 4000000 in
set_option maxRecDepth 100000 in
theorem law_25 {nm : String} (G : xG) (i x1 x2 x3 x4 x5 : Int32) (e1 : XA G i (nI 1) x1) (e2 : XA G i (nI 2) x2) (e3 : XA G i (nI 3) x3) (e4 : XA G i (nI 4) x4) (e5 : XA G i (nI 5) x5) {σ : St} {Gb : xMem} {k n : Nat} (hI : INV3 σ) (hk : k ≤ 599000) (hn : n ≤ 7300000) (K : ∀ (w : St) (Gb' : xMem) (k' n' : Nat), INV3 w → k' ≤ k + 1 → n' ≤ n + 5 → xW G (mL nm) room_1 (xLZ G) 1719 (LV i) [] (mem w Gb') k' n') : xW G (mL nm) room_1 (xLZ G) 1085 (LV i) [] (mem σ Gb) k n := by
  obtain ⟨r, u, f1, r2, w, f2, hw, -⟩ := z3_bag hI x1 x2 x3
  refine xi_aload_n 2 dL_law_1085 rfl ?_
  refine xi_aload_nS 3 dL_law_1086 rfl ?_
  refine xi_iload_n 0 dL_law_1087 rfl ?_
  refine xi_iconst (v := nI 1) dL_law_1088 (by decide) ?_
  refine xi_iadd (v := i + nI 1) dL_law_1089 rfl ?_
  refine xi_sld (v := x1) dL_law_1090 e1.1 e1.2 ?_
  refine xi_aload_nS 3 dL_law_1091 rfl ?_
  refine xi_iload_n 0 dL_law_1092 rfl ?_
  refine xi_iconst (v := nI 2) dL_law_1093 (by decide) ?_
  refine xi_iadd (v := i + nI 2) dL_law_1094 rfl ?_
  refine xi_sld (v := x2) dL_law_1095 e2.1 e2.2 ?_
  refine xi_aload_nS 3 dL_law_1096 rfl ?_
  refine xi_iload_n 0 dL_law_1097 rfl ?_
  refine xi_iconst (v := nI 3) dL_law_1098 (by decide) ?_
  refine xi_iadd (v := i + nI 3) dL_law_1099 rfl ?_
  refine xi_sld (v := x3) dL_law_1100 e3.1 e3.2 ?_
  refine xi_callV (as := [.int x1, .int x2, .int x3]) (rest := []) dL_law_1101 (KX11_bag G Gb x1 x2 x3 σ r u f1) mkX11_bag w_837 w_838 w_836 (mem_get sh_0) rfl rfl rfl rfl (Nat.le_of_ble_eq_true rfl) (Nat.le_of_ble_eq_true rfl) (Nat.le_of_ble_eq_true rfl) (rm_c (by omega)) (rm_s (by omega)) ?_
  intro v M2 hq
  obtain ⟨rfl, rfl⟩ := hq
  show xW G (mL nm) room_1 (xLZ G) 1104 (LV i) [.int r] (mem u Gb) k n
  refine xi_pop dL_law_1104 rfl ?_
  refine xi_aload_n 1 dL_law_1105 rfl ?_
  refine xi_aload_nS 3 dL_law_1106 rfl ?_
  refine xi_iload_n 0 dL_law_1107 rfl ?_
  refine xi_iconst (v := nI 1) dL_law_1108 (by decide) ?_
  refine xi_iadd (v := i + nI 1) dL_law_1109 rfl ?_
  refine xi_sld (v := x1) dL_law_1110 e1.1 e1.2 ?_
  refine xi_aload_nS 3 dL_law_1111 rfl ?_
  refine xi_iload_n 0 dL_law_1112 rfl ?_
  refine xi_iconst (v := nI 2) dL_law_1113 (by decide) ?_
  refine xi_iadd (v := i + nI 2) dL_law_1114 rfl ?_
  refine xi_sld (v := x2) dL_law_1115 e2.1 e2.2 ?_
  refine xi_aload_nS 3 dL_law_1116 rfl ?_
  refine xi_iload_n 0 dL_law_1117 rfl ?_
  refine xi_iconst (v := nI 3) dL_law_1118 (by decide) ?_
  refine xi_iadd (v := i + nI 3) dL_law_1119 rfl ?_
  refine xi_sld (v := x3) dL_law_1120 e3.1 e3.2 ?_
  refine xi_callV (as := [.int x1, .int x2, .int x3]) (rest := []) dL_law_1121 (KX12_bag G Gb x1 x2 x3 u r2 w f2) mkX12_bag w_1439 w_1440 w_1438 (mem_get sh_149) rfl rfl rfl rfl (Nat.le_of_ble_eq_true rfl) (Nat.le_of_ble_eq_true rfl) (Nat.le_of_ble_eq_true rfl) (rm_c (by omega)) (rm_s (by omega)) ?_
  intro v M2 hq
  obtain ⟨rfl, rfl⟩ := hq
  show xW G (mL nm) room_1 (xLZ G) 1124 (LV i) [.int r2] (mem w Gb) k n
  refine xi_pop dL_law_1124 rfl ?_
  refine xi_goto (tgt := 1719) dL_law_1125 (by decide) ?_
  exact K w _ _ _ hw (by omega) (by omega)
set_option maxHeartbeats 4000000 in
set_option maxRecDepth 100000 in
theorem law_26 {nm : String} (G : xG) (i x1 x2 x3 x4 x5 : Int32) (e1 : XA G i (nI 1) x1) (e2 : XA G i (nI 2) x2) (e3 : XA G i (nI 3) x3) (e4 : XA G i (nI 4) x4) (e5 : XA G i (nI 5) x5) {σ : St} {Gb : xMem} {k n : Nat} (hI : INV3 σ) (hk : k ≤ 599000) (hn : n ≤ 7300000) (K : ∀ (w : St) (Gb' : xMem) (k' n' : Nat), INV3 w → k' ≤ k + 1 → n' ≤ n + 5 → xW G (mL nm) room_1 (xLZ G) 1719 (LV i) [] (mem w Gb') k' n') : xW G (mL nm) room_1 (xLZ G) 1128 (LV i) [] (mem σ Gb) k n := by
  obtain ⟨r, u, f1, r2, w, f2, hw, -⟩ := z3_filled hI x1 x2
  refine xi_aload_n 2 dL_law_1128 rfl ?_
  refine xi_aload_nS 3 dL_law_1129 rfl ?_
  refine xi_iload_n 0 dL_law_1130 rfl ?_
  refine xi_iconst (v := nI 1) dL_law_1131 (by decide) ?_
  refine xi_iadd (v := i + nI 1) dL_law_1132 rfl ?_
  refine xi_sld (v := x1) dL_law_1133 e1.1 e1.2 ?_
  refine xi_aload_nS 3 dL_law_1134 rfl ?_
  refine xi_iload_n 0 dL_law_1135 rfl ?_
  refine xi_iconst (v := nI 2) dL_law_1136 (by decide) ?_
  refine xi_iadd (v := i + nI 2) dL_law_1137 rfl ?_
  refine xi_sld (v := x2) dL_law_1138 e2.1 e2.2 ?_
  refine xi_callV (as := [.int x1, .int x2]) (rest := []) dL_law_1139 (KX11_filled G Gb x1 x2 σ r u f1) mkX11_filled w_850 w_851 w_849 (mem_get sh_0) rfl rfl rfl rfl (Nat.le_of_ble_eq_true rfl) (Nat.le_of_ble_eq_true rfl) (Nat.le_of_ble_eq_true rfl) (rm_c (by omega)) (rm_s (by omega)) ?_
  intro v M2 hq
  obtain ⟨rfl, rfl⟩ := hq
  show xW G (mL nm) room_1 (xLZ G) 1142 (LV i) [.int r] (mem u Gb) k n
  refine xi_pop dL_law_1142 rfl ?_
  refine xi_aload_n 1 dL_law_1143 rfl ?_
  refine xi_aload_nS 3 dL_law_1144 rfl ?_
  refine xi_iload_n 0 dL_law_1145 rfl ?_
  refine xi_iconst (v := nI 1) dL_law_1146 (by decide) ?_
  refine xi_iadd (v := i + nI 1) dL_law_1147 rfl ?_
  refine xi_sld (v := x1) dL_law_1148 e1.1 e1.2 ?_
  refine xi_aload_nS 3 dL_law_1149 rfl ?_
  refine xi_iload_n 0 dL_law_1150 rfl ?_
  refine xi_iconst (v := nI 2) dL_law_1151 (by decide) ?_
  refine xi_iadd (v := i + nI 2) dL_law_1152 rfl ?_
  refine xi_sld (v := x2) dL_law_1153 e2.1 e2.2 ?_
  refine xi_callV (as := [.int x1, .int x2]) (rest := []) dL_law_1154 (KX12_filled G Gb x1 x2 u r2 w f2) mkX12_filled w_1443 w_1444 w_1442 (mem_get sh_149) rfl rfl rfl rfl (Nat.le_of_ble_eq_true rfl) (Nat.le_of_ble_eq_true rfl) (Nat.le_of_ble_eq_true rfl) (rm_c (by omega)) (rm_s (by omega)) ?_
  intro v M2 hq
  obtain ⟨rfl, rfl⟩ := hq
  show xW G (mL nm) room_1 (xLZ G) 1157 (LV i) [.int r2] (mem w Gb) k n
  refine xi_pop dL_law_1157 rfl ?_
  refine xi_goto (tgt := 1719) dL_law_1158 (by decide) ?_
  exact K w _ _ _ hw (by omega) (by omega)
set_option maxHeartbeats 4000000 in
set_option maxRecDepth 100000 in
theorem law_27 {nm : String} (G : xG) (i x1 x2 x3 x4 x5 : Int32) (e1 : XA G i (nI 1) x1) (e2 : XA G i (nI 2) x2) (e3 : XA G i (nI 3) x3) (e4 : XA G i (nI 4) x4) (e5 : XA G i (nI 5) x5) {σ : St} {Gb : xMem} {k n : Nat} (hI : INV3 σ) (hk : k ≤ 599000) (hn : n ≤ 7300000) (K : ∀ (w : St) (Gb' : xMem) (k' n' : Nat), INV3 w → k' ≤ k + 1 → n' ≤ n + 5 → xW G (mL nm) room_1 (xLZ G) 1719 (LV i) [] (mem w Gb') k' n') : xW G (mL nm) room_1 (xLZ G) 1161 (LV i) [] (mem σ Gb) k n := by
  obtain ⟨r, u, f1, r2, w, f2, hw, -⟩ := z3_gain hI x1 x2 x3 x4
  refine xi_aload_n 2 dL_law_1161 rfl ?_
  refine xi_aload_nS 3 dL_law_1162 rfl ?_
  refine xi_iload_n 0 dL_law_1163 rfl ?_
  refine xi_iconst (v := nI 1) dL_law_1164 (by decide) ?_
  refine xi_iadd (v := i + nI 1) dL_law_1165 rfl ?_
  refine xi_sld (v := x1) dL_law_1166 e1.1 e1.2 ?_
  refine xi_aload_nS 3 dL_law_1167 rfl ?_
  refine xi_iload_n 0 dL_law_1168 rfl ?_
  refine xi_iconst (v := nI 2) dL_law_1169 (by decide) ?_
  refine xi_iadd (v := i + nI 2) dL_law_1170 rfl ?_
  refine xi_sld (v := x2) dL_law_1171 e2.1 e2.2 ?_
  refine xi_aload_nS 3 dL_law_1172 rfl ?_
  refine xi_iload_n 0 dL_law_1173 rfl ?_
  refine xi_iconst (v := nI 3) dL_law_1174 (by decide) ?_
  refine xi_iadd (v := i + nI 3) dL_law_1175 rfl ?_
  refine xi_sld (v := x3) dL_law_1176 e3.1 e3.2 ?_
  refine xi_aload_nS 3 dL_law_1177 rfl ?_
  refine xi_iload_n 0 dL_law_1178 rfl ?_
  refine xi_iconst (v := nI 4) dL_law_1179 (by decide) ?_
  refine xi_iadd (v := i + nI 4) dL_law_1180 rfl ?_
  refine xi_sld (v := x4) dL_law_1181 e4.1 e4.2 ?_
  refine xi_callV (as := [.int x1, .int x2, .int x3, .int x4]) (rest := []) dL_law_1182 (KX11_gain G Gb x1 x2 x3 x4 σ r u f1) mkX11_gain w_862 w_863 w_861 (mem_get sh_0) rfl rfl rfl rfl (Nat.le_of_ble_eq_true rfl) (Nat.le_of_ble_eq_true rfl) (Nat.le_of_ble_eq_true rfl) (rm_c (by omega)) (rm_s (by omega)) ?_
  intro v M2 hq
  obtain ⟨rfl, rfl⟩ := hq
  show xW G (mL nm) room_1 (xLZ G) 1185 (LV i) [.int r] (mem u Gb) k n
  refine xi_pop dL_law_1185 rfl ?_
  refine xi_aload_n 1 dL_law_1186 rfl ?_
  refine xi_aload_nS 3 dL_law_1187 rfl ?_
  refine xi_iload_n 0 dL_law_1188 rfl ?_
  refine xi_iconst (v := nI 1) dL_law_1189 (by decide) ?_
  refine xi_iadd (v := i + nI 1) dL_law_1190 rfl ?_
  refine xi_sld (v := x1) dL_law_1191 e1.1 e1.2 ?_
  refine xi_aload_nS 3 dL_law_1192 rfl ?_
  refine xi_iload_n 0 dL_law_1193 rfl ?_
  refine xi_iconst (v := nI 2) dL_law_1194 (by decide) ?_
  refine xi_iadd (v := i + nI 2) dL_law_1195 rfl ?_
  refine xi_sld (v := x2) dL_law_1196 e2.1 e2.2 ?_
  refine xi_aload_nS 3 dL_law_1197 rfl ?_
  refine xi_iload_n 0 dL_law_1198 rfl ?_
  refine xi_iconst (v := nI 3) dL_law_1199 (by decide) ?_
  refine xi_iadd (v := i + nI 3) dL_law_1200 rfl ?_
  refine xi_sld (v := x3) dL_law_1201 e3.1 e3.2 ?_
  refine xi_aload_nS 3 dL_law_1202 rfl ?_
  refine xi_iload_n 0 dL_law_1203 rfl ?_
  refine xi_iconst (v := nI 4) dL_law_1204 (by decide) ?_
  refine xi_iadd (v := i + nI 4) dL_law_1205 rfl ?_
  refine xi_sld (v := x4) dL_law_1206 e4.1 e4.2 ?_
  refine xi_callV (as := [.int x1, .int x2, .int x3, .int x4]) (rest := []) dL_law_1207 (KX12_gain G Gb x1 x2 x3 x4 u r2 w f2) mkX12_gain w_1447 w_1448 w_1446 (mem_get sh_149) rfl rfl rfl rfl (Nat.le_of_ble_eq_true rfl) (Nat.le_of_ble_eq_true rfl) (Nat.le_of_ble_eq_true rfl) (rm_c (by omega)) (rm_s (by omega)) ?_
  intro v M2 hq
  obtain ⟨rfl, rfl⟩ := hq
  show xW G (mL nm) room_1 (xLZ G) 1210 (LV i) [.int r2] (mem w Gb) k n
  refine xi_pop dL_law_1210 rfl ?_
  refine xi_goto (tgt := 1719) dL_law_1211 (by decide) ?_
  exact K w _ _ _ hw (by omega) (by omega)
set_option maxHeartbeats 4000000 in
set_option maxRecDepth 100000 in
theorem law_28 {nm : String} (G : xG) (i x1 x2 x3 x4 x5 : Int32) (e1 : XA G i (nI 1) x1) (e2 : XA G i (nI 2) x2) (e3 : XA G i (nI 3) x3) (e4 : XA G i (nI 4) x4) (e5 : XA G i (nI 5) x5) {σ : St} {Gb : xMem} {k n : Nat} (hI : INV3 σ) (hk : k ≤ 599000) (hn : n ≤ 7300000) (K : ∀ (w : St) (Gb' : xMem) (k' n' : Nat), INV3 w → k' ≤ k + 1 → n' ≤ n + 5 → xW G (mL nm) room_1 (xLZ G) 1719 (LV i) [] (mem w Gb') k' n') : xW G (mL nm) room_1 (xLZ G) 1214 (LV i) [] (mem σ Gb) k n := by
  obtain ⟨r, u, f1, r2, w, f2, hw, -⟩ := z3_swaps hI x1 x2 x3
  refine xi_aload_n 2 dL_law_1214 rfl ?_
  refine xi_aload_nS 3 dL_law_1215 rfl ?_
  refine xi_iload_n 0 dL_law_1216 rfl ?_
  refine xi_iconst (v := nI 1) dL_law_1217 (by decide) ?_
  refine xi_iadd (v := i + nI 1) dL_law_1218 rfl ?_
  refine xi_sld (v := x1) dL_law_1219 e1.1 e1.2 ?_
  refine xi_aload_nS 3 dL_law_1220 rfl ?_
  refine xi_iload_n 0 dL_law_1221 rfl ?_
  refine xi_iconst (v := nI 2) dL_law_1222 (by decide) ?_
  refine xi_iadd (v := i + nI 2) dL_law_1223 rfl ?_
  refine xi_sld (v := x2) dL_law_1224 e2.1 e2.2 ?_
  refine xi_aload_nS 3 dL_law_1225 rfl ?_
  refine xi_iload_n 0 dL_law_1226 rfl ?_
  refine xi_iconst (v := nI 3) dL_law_1227 (by decide) ?_
  refine xi_iadd (v := i + nI 3) dL_law_1228 rfl ?_
  refine xi_sld (v := x3) dL_law_1229 e3.1 e3.2 ?_
  refine xi_callV (as := [.int x1, .int x2, .int x3]) (rest := []) dL_law_1230 (KX11_swaps G Gb x1 x2 x3 σ r u f1) mkX11_swaps w_870 w_871 w_869 (mem_get sh_0) rfl rfl rfl rfl (Nat.le_of_ble_eq_true rfl) (Nat.le_of_ble_eq_true rfl) (Nat.le_of_ble_eq_true rfl) (rm_c (by omega)) (rm_s (by omega)) ?_
  intro v M2 hq
  obtain ⟨rfl, rfl⟩ := hq
  show xW G (mL nm) room_1 (xLZ G) 1233 (LV i) [.int r] (mem u Gb) k n
  refine xi_pop dL_law_1233 rfl ?_
  refine xi_aload_n 1 dL_law_1234 rfl ?_
  refine xi_aload_nS 3 dL_law_1235 rfl ?_
  refine xi_iload_n 0 dL_law_1236 rfl ?_
  refine xi_iconst (v := nI 1) dL_law_1237 (by decide) ?_
  refine xi_iadd (v := i + nI 1) dL_law_1238 rfl ?_
  refine xi_sld (v := x1) dL_law_1239 e1.1 e1.2 ?_
  refine xi_aload_nS 3 dL_law_1240 rfl ?_
  refine xi_iload_n 0 dL_law_1241 rfl ?_
  refine xi_iconst (v := nI 2) dL_law_1242 (by decide) ?_
  refine xi_iadd (v := i + nI 2) dL_law_1243 rfl ?_
  refine xi_sld (v := x2) dL_law_1244 e2.1 e2.2 ?_
  refine xi_aload_nS 3 dL_law_1245 rfl ?_
  refine xi_iload_n 0 dL_law_1246 rfl ?_
  refine xi_iconst (v := nI 3) dL_law_1247 (by decide) ?_
  refine xi_iadd (v := i + nI 3) dL_law_1248 rfl ?_
  refine xi_sld (v := x3) dL_law_1249 e3.1 e3.2 ?_
  refine xi_callV (as := [.int x1, .int x2, .int x3]) (rest := []) dL_law_1250 (KX12_swaps G Gb x1 x2 x3 u r2 w f2) mkX12_swaps w_1455 w_1456 w_1454 (mem_get sh_149) rfl rfl rfl rfl (Nat.le_of_ble_eq_true rfl) (Nat.le_of_ble_eq_true rfl) (Nat.le_of_ble_eq_true rfl) (rm_c (by omega)) (rm_s (by omega)) ?_
  intro v M2 hq
  obtain ⟨rfl, rfl⟩ := hq
  show xW G (mL nm) room_1 (xLZ G) 1253 (LV i) [.int r2] (mem w Gb) k n
  refine xi_pop dL_law_1253 rfl ?_
  refine xi_goto (tgt := 1719) dL_law_1254 (by decide) ?_
  exact K w _ _ _ hw (by omega) (by omega)
set_option maxHeartbeats 4000000 in
set_option maxRecDepth 100000 in
theorem law_29 {nm : String} (G : xG) (i x1 x2 x3 x4 x5 : Int32) (e1 : XA G i (nI 1) x1) (e2 : XA G i (nI 2) x2) (e3 : XA G i (nI 3) x3) (e4 : XA G i (nI 4) x4) (e5 : XA G i (nI 5) x5) {σ : St} {Gb : xMem} {k n : Nat} (hI : INV3 σ) (hk : k ≤ 599000) (hn : n ≤ 7300000) (K : ∀ (w : St) (Gb' : xMem) (k' n' : Nat), INV3 w → k' ≤ k + 1 → n' ≤ n + 5 → xW G (mL nm) room_1 (xLZ G) 1719 (LV i) [] (mem w Gb') k' n') : xW G (mL nm) room_1 (xLZ G) 1257 (LV i) [] (mem σ Gb) k n := by
  obtain ⟨r, u, f1, r2, w, f2, hw, -⟩ := z3_moves hI x1 x2 x3
  refine xi_aload_n 2 dL_law_1257 rfl ?_
  refine xi_aload_nS 3 dL_law_1258 rfl ?_
  refine xi_iload_n 0 dL_law_1259 rfl ?_
  refine xi_iconst (v := nI 1) dL_law_1260 (by decide) ?_
  refine xi_iadd (v := i + nI 1) dL_law_1261 rfl ?_
  refine xi_sld (v := x1) dL_law_1262 e1.1 e1.2 ?_
  refine xi_aload_nS 3 dL_law_1263 rfl ?_
  refine xi_iload_n 0 dL_law_1264 rfl ?_
  refine xi_iconst (v := nI 2) dL_law_1265 (by decide) ?_
  refine xi_iadd (v := i + nI 2) dL_law_1266 rfl ?_
  refine xi_sld (v := x2) dL_law_1267 e2.1 e2.2 ?_
  refine xi_aload_nS 3 dL_law_1268 rfl ?_
  refine xi_iload_n 0 dL_law_1269 rfl ?_
  refine xi_iconst (v := nI 3) dL_law_1270 (by decide) ?_
  refine xi_iadd (v := i + nI 3) dL_law_1271 rfl ?_
  refine xi_sld (v := x3) dL_law_1272 e3.1 e3.2 ?_
  refine xi_callV (as := [.int x1, .int x2, .int x3]) (rest := []) dL_law_1273 (KX11_moves G Gb x1 x2 x3 σ r u f1) mkX11_moves w_874 w_875 w_873 (mem_get sh_0) rfl rfl rfl rfl (Nat.le_of_ble_eq_true rfl) (Nat.le_of_ble_eq_true rfl) (Nat.le_of_ble_eq_true rfl) (rm_c (by omega)) (rm_s (by omega)) ?_
  intro v M2 hq
  obtain ⟨rfl, rfl⟩ := hq
  show xW G (mL nm) room_1 (xLZ G) 1276 (LV i) [.int r] (mem u Gb) k n
  refine xi_pop dL_law_1276 rfl ?_
  refine xi_aload_n 1 dL_law_1277 rfl ?_
  refine xi_aload_nS 3 dL_law_1278 rfl ?_
  refine xi_iload_n 0 dL_law_1279 rfl ?_
  refine xi_iconst (v := nI 1) dL_law_1280 (by decide) ?_
  refine xi_iadd (v := i + nI 1) dL_law_1281 rfl ?_
  refine xi_sld (v := x1) dL_law_1282 e1.1 e1.2 ?_
  refine xi_aload_nS 3 dL_law_1283 rfl ?_
  refine xi_iload_n 0 dL_law_1284 rfl ?_
  refine xi_iconst (v := nI 2) dL_law_1285 (by decide) ?_
  refine xi_iadd (v := i + nI 2) dL_law_1286 rfl ?_
  refine xi_sld (v := x2) dL_law_1287 e2.1 e2.2 ?_
  refine xi_aload_nS 3 dL_law_1288 rfl ?_
  refine xi_iload_n 0 dL_law_1289 rfl ?_
  refine xi_iconst (v := nI 3) dL_law_1290 (by decide) ?_
  refine xi_iadd (v := i + nI 3) dL_law_1291 rfl ?_
  refine xi_sld (v := x3) dL_law_1292 e3.1 e3.2 ?_
  refine xi_callV (as := [.int x1, .int x2, .int x3]) (rest := []) dL_law_1293 (KX12_moves G Gb x1 x2 x3 u r2 w f2) mkX12_moves w_1463 w_1464 w_1462 (mem_get sh_149) rfl rfl rfl rfl (Nat.le_of_ble_eq_true rfl) (Nat.le_of_ble_eq_true rfl) (Nat.le_of_ble_eq_true rfl) (rm_c (by omega)) (rm_s (by omega)) ?_
  intro v M2 hq
  obtain ⟨rfl, rfl⟩ := hq
  show xW G (mL nm) room_1 (xLZ G) 1296 (LV i) [.int r2] (mem w Gb) k n
  refine xi_pop dL_law_1296 rfl ?_
  refine xi_goto (tgt := 1719) dL_law_1297 (by decide) ?_
  exact K w _ _ _ hw (by omega) (by omega)
set_option maxHeartbeats 4000000 in
set_option maxRecDepth 100000 in
theorem law_30 {nm : String} (G : xG) (i x1 x2 x3 x4 x5 : Int32) (e1 : XA G i (nI 1) x1) (e2 : XA G i (nI 2) x2) (e3 : XA G i (nI 3) x3) (e4 : XA G i (nI 4) x4) (e5 : XA G i (nI 5) x5) {σ : St} {Gb : xMem} {k n : Nat} (hI : INV3 σ) (hk : k ≤ 599000) (hn : n ≤ 7300000) (K : ∀ (w : St) (Gb' : xMem) (k' n' : Nat), INV3 w → k' ≤ k + 1 → n' ≤ n + 5 → xW G (mL nm) room_1 (xLZ G) 1719 (LV i) [] (mem w Gb') k' n') : xW G (mL nm) room_1 (xLZ G) 1300 (LV i) [] (mem σ Gb) k n := by
  obtain ⟨r, u, f1, r2, w, f2, hw, -⟩ := z3_reverse hI x1
  refine xi_aload_n 2 dL_law_1300 rfl ?_
  refine xi_aload_nS 3 dL_law_1301 rfl ?_
  refine xi_iload_n 0 dL_law_1302 rfl ?_
  refine xi_iconst (v := nI 1) dL_law_1303 (by decide) ?_
  refine xi_iadd (v := i + nI 1) dL_law_1304 rfl ?_
  refine xi_sld (v := x1) dL_law_1305 e1.1 e1.2 ?_
  refine xi_callV (as := [.int x1]) (rest := []) dL_law_1306 (KX11_reverse G Gb x1 σ r u f1) mkX11_reverse w_883 w_884 w_882 (mem_get sh_0) rfl rfl rfl rfl (Nat.le_of_ble_eq_true rfl) (Nat.le_of_ble_eq_true rfl) (Nat.le_of_ble_eq_true rfl) (rm_c (by omega)) (rm_s (by omega)) ?_
  intro v M2 hq
  obtain ⟨rfl, rfl⟩ := hq
  show xW G (mL nm) room_1 (xLZ G) 1309 (LV i) [.int r] (mem u Gb) k n
  refine xi_pop dL_law_1309 rfl ?_
  refine xi_aload_n 1 dL_law_1310 rfl ?_
  refine xi_aload_nS 3 dL_law_1311 rfl ?_
  refine xi_iload_n 0 dL_law_1312 rfl ?_
  refine xi_iconst (v := nI 1) dL_law_1313 (by decide) ?_
  refine xi_iadd (v := i + nI 1) dL_law_1314 rfl ?_
  refine xi_sld (v := x1) dL_law_1315 e1.1 e1.2 ?_
  refine xi_callV (as := [.int x1]) (rest := []) dL_law_1316 (KX12_reverse G Gb x1 u r2 w f2) mkX12_reverse w_1467 w_1468 w_1466 (mem_get sh_149) rfl rfl rfl rfl (Nat.le_of_ble_eq_true rfl) (Nat.le_of_ble_eq_true rfl) (Nat.le_of_ble_eq_true rfl) (rm_c (by omega)) (rm_s (by omega)) ?_
  intro v M2 hq
  obtain ⟨rfl, rfl⟩ := hq
  show xW G (mL nm) room_1 (xLZ G) 1319 (LV i) [.int r2] (mem w Gb) k n
  refine xi_pop dL_law_1319 rfl ?_
  refine xi_goto (tgt := 1719) dL_law_1320 (by decide) ?_
  exact K w _ _ _ hw (by omega) (by omega)
set_option maxHeartbeats 4000000 in
set_option maxRecDepth 100000 in
theorem law_31 {nm : String} (G : xG) (i x1 x2 x3 x4 x5 : Int32) (e1 : XA G i (nI 1) x1) (e2 : XA G i (nI 2) x2) (e3 : XA G i (nI 3) x3) (e4 : XA G i (nI 4) x4) (e5 : XA G i (nI 5) x5) {σ : St} {Gb : xMem} {k n : Nat} (hI : INV3 σ) (hk : k ≤ 599000) (hn : n ≤ 7300000) (K : ∀ (w : St) (Gb' : xMem) (k' n' : Nat), INV3 w → k' ≤ k + 1 → n' ≤ n + 5 → xW G (mL nm) room_1 (xLZ G) 1719 (LV i) [] (mem w Gb') k' n') : xW G (mL nm) room_1 (xLZ G) 1323 (LV i) [] (mem σ Gb) k n := by
  obtain ⟨r, u, f1, r2, w, f2, hw, -⟩ := z3_takes hI x1 x2
  refine xi_aload_n 2 dL_law_1323 rfl ?_
  refine xi_aload_nS 3 dL_law_1324 rfl ?_
  refine xi_iload_n 0 dL_law_1325 rfl ?_
  refine xi_iconst (v := nI 1) dL_law_1326 (by decide) ?_
  refine xi_iadd (v := i + nI 1) dL_law_1327 rfl ?_
  refine xi_sld (v := x1) dL_law_1328 e1.1 e1.2 ?_
  refine xi_aload_nS 3 dL_law_1329 rfl ?_
  refine xi_iload_n 0 dL_law_1330 rfl ?_
  refine xi_iconst (v := nI 2) dL_law_1331 (by decide) ?_
  refine xi_iadd (v := i + nI 2) dL_law_1332 rfl ?_
  refine xi_sld (v := x2) dL_law_1333 e2.1 e2.2 ?_
  refine xi_callV (as := [.int x1, .int x2]) (rest := []) dL_law_1334 (KX11_takes G Gb x1 x2 σ r u f1) mkX11_takes w_891 w_892 w_890 (mem_get sh_0) rfl rfl rfl rfl (Nat.le_of_ble_eq_true rfl) (Nat.le_of_ble_eq_true rfl) (Nat.le_of_ble_eq_true rfl) (rm_c (by omega)) (rm_s (by omega)) ?_
  intro v M2 hq
  obtain ⟨rfl, rfl⟩ := hq
  show xW G (mL nm) room_1 (xLZ G) 1337 (LV i) [.int r] (mem u Gb) k n
  refine xi_pop dL_law_1337 rfl ?_
  refine xi_aload_n 1 dL_law_1338 rfl ?_
  refine xi_aload_nS 3 dL_law_1339 rfl ?_
  refine xi_iload_n 0 dL_law_1340 rfl ?_
  refine xi_iconst (v := nI 1) dL_law_1341 (by decide) ?_
  refine xi_iadd (v := i + nI 1) dL_law_1342 rfl ?_
  refine xi_sld (v := x1) dL_law_1343 e1.1 e1.2 ?_
  refine xi_aload_nS 3 dL_law_1344 rfl ?_
  refine xi_iload_n 0 dL_law_1345 rfl ?_
  refine xi_iconst (v := nI 2) dL_law_1346 (by decide) ?_
  refine xi_iadd (v := i + nI 2) dL_law_1347 rfl ?_
  refine xi_sld (v := x2) dL_law_1348 e2.1 e2.2 ?_
  refine xi_callV (as := [.int x1, .int x2]) (rest := []) dL_law_1349 (KX12_takes G Gb x1 x2 u r2 w f2) mkX12_takes w_1471 w_1472 w_1470 (mem_get sh_149) rfl rfl rfl rfl (Nat.le_of_ble_eq_true rfl) (Nat.le_of_ble_eq_true rfl) (Nat.le_of_ble_eq_true rfl) (rm_c (by omega)) (rm_s (by omega)) ?_
  intro v M2 hq
  obtain ⟨rfl, rfl⟩ := hq
  show xW G (mL nm) room_1 (xLZ G) 1352 (LV i) [.int r2] (mem w Gb) k n
  refine xi_pop dL_law_1352 rfl ?_
  refine xi_goto (tgt := 1719) dL_law_1353 (by decide) ?_
  exact K w _ _ _ hw (by omega) (by omega)
set_option maxHeartbeats 4000000 in
set_option maxRecDepth 100000 in
theorem law_32 {nm : String} (G : xG) (i x1 x2 x3 x4 x5 : Int32) (e1 : XA G i (nI 1) x1) (e2 : XA G i (nI 2) x2) (e3 : XA G i (nI 3) x3) (e4 : XA G i (nI 4) x4) (e5 : XA G i (nI 5) x5) {σ : St} {Gb : xMem} {k n : Nat} (hI : INV3 σ) (hk : k ≤ 599000) (hn : n ≤ 7300000) (K : ∀ (w : St) (Gb' : xMem) (k' n' : Nat), INV3 w → k' ≤ k + 1 → n' ≤ n + 5 → xW G (mL nm) room_1 (xLZ G) 1719 (LV i) [] (mem w Gb') k' n') : xW G (mL nm) room_1 (xLZ G) 1356 (LV i) [] (mem σ Gb) k n := by
  obtain ⟨r, u, f1, r2, w, f2, hw, -⟩ := z3_polish hI x1 x2
  refine xi_aload_n 2 dL_law_1356 rfl ?_
  refine xi_aload_nS 3 dL_law_1357 rfl ?_
  refine xi_iload_n 0 dL_law_1358 rfl ?_
  refine xi_iconst (v := nI 1) dL_law_1359 (by decide) ?_
  refine xi_iadd (v := i + nI 1) dL_law_1360 rfl ?_
  refine xi_sld (v := x1) dL_law_1361 e1.1 e1.2 ?_
  refine xi_aload_nS 3 dL_law_1362 rfl ?_
  refine xi_iload_n 0 dL_law_1363 rfl ?_
  refine xi_iconst (v := nI 2) dL_law_1364 (by decide) ?_
  refine xi_iadd (v := i + nI 2) dL_law_1365 rfl ?_
  refine xi_sld (v := x2) dL_law_1366 e2.1 e2.2 ?_
  refine xi_callV (as := [.int x1, .int x2]) (rest := []) dL_law_1367 (KX11_polish G Gb x1 x2 σ r u f1) mkX11_polish w_897 w_898 w_896 (mem_get sh_0) rfl rfl rfl rfl (Nat.le_of_ble_eq_true rfl) (Nat.le_of_ble_eq_true rfl) (Nat.le_of_ble_eq_true rfl) (rm_c (by omega)) (rm_s (by omega)) ?_
  intro v M2 hq
  obtain ⟨rfl, rfl⟩ := hq
  show xW G (mL nm) room_1 (xLZ G) 1370 (LV i) [.int r] (mem u Gb) k n
  refine xi_pop dL_law_1370 rfl ?_
  refine xi_aload_n 1 dL_law_1371 rfl ?_
  refine xi_aload_nS 3 dL_law_1372 rfl ?_
  refine xi_iload_n 0 dL_law_1373 rfl ?_
  refine xi_iconst (v := nI 1) dL_law_1374 (by decide) ?_
  refine xi_iadd (v := i + nI 1) dL_law_1375 rfl ?_
  refine xi_sld (v := x1) dL_law_1376 e1.1 e1.2 ?_
  refine xi_aload_nS 3 dL_law_1377 rfl ?_
  refine xi_iload_n 0 dL_law_1378 rfl ?_
  refine xi_iconst (v := nI 2) dL_law_1379 (by decide) ?_
  refine xi_iadd (v := i + nI 2) dL_law_1380 rfl ?_
  refine xi_sld (v := x2) dL_law_1381 e2.1 e2.2 ?_
  refine xi_callV (as := [.int x1, .int x2]) (rest := []) dL_law_1382 (KX12_polish G Gb x1 x2 u r2 w f2) mkX12_polish w_1475 w_1476 w_1474 (mem_get sh_149) rfl rfl rfl rfl (Nat.le_of_ble_eq_true rfl) (Nat.le_of_ble_eq_true rfl) (Nat.le_of_ble_eq_true rfl) (rm_c (by omega)) (rm_s (by omega)) ?_
  intro v M2 hq
  obtain ⟨rfl, rfl⟩ := hq
  show xW G (mL nm) room_1 (xLZ G) 1385 (LV i) [.int r2] (mem w Gb) k n
  refine xi_pop dL_law_1385 rfl ?_
  refine xi_goto (tgt := 1719) dL_law_1386 (by decide) ?_
  exact K w _ _ _ hw (by omega) (by omega)
set_option maxHeartbeats 4000000 in
set_option maxRecDepth 100000 in
theorem law_33 {nm : String} (G : xG) (i x1 x2 x3 x4 x5 : Int32) (e1 : XA G i (nI 1) x1) (e2 : XA G i (nI 2) x2) (e3 : XA G i (nI 3) x3) (e4 : XA G i (nI 4) x4) (e5 : XA G i (nI 5) x5) {σ : St} {Gb : xMem} {k n : Nat} (hI : INV3 σ) (hk : k ≤ 599000) (hn : n ≤ 7300000) (K : ∀ (w : St) (Gb' : xMem) (k' n' : Nat), INV3 w → k' ≤ k + 1 → n' ≤ n + 5 → xW G (mL nm) room_1 (xLZ G) 1719 (LV i) [] (mem w Gb') k' n') : xW G (mL nm) room_1 (xLZ G) 1389 (LV i) [] (mem σ Gb) k n := by
  obtain ⟨r, u, f1, r2, w, f2, hw, rfl⟩ := z3_polished hI x1 x2
  refine xi_aload_n 2 dL_law_1389 rfl ?_
  refine xi_aload_nS 3 dL_law_1390 rfl ?_
  refine xi_iload_n 0 dL_law_1391 rfl ?_
  refine xi_iconst (v := nI 1) dL_law_1392 (by decide) ?_
  refine xi_iadd (v := i + nI 1) dL_law_1393 rfl ?_
  refine xi_sld (v := x1) dL_law_1394 e1.1 e1.2 ?_
  refine xi_aload_nS 3 dL_law_1395 rfl ?_
  refine xi_iload_n 0 dL_law_1396 rfl ?_
  refine xi_iconst (v := nI 2) dL_law_1397 (by decide) ?_
  refine xi_iadd (v := i + nI 2) dL_law_1398 rfl ?_
  refine xi_sld (v := x2) dL_law_1399 e2.1 e2.2 ?_
  refine xi_callV (as := [.int x1, .int x2]) (rest := []) dL_law_1400 (KX11_polished G Gb x1 x2 σ r u f1) mkX11_polished w_909 w_910 w_908 (mem_get sh_0) rfl rfl rfl rfl (Nat.le_of_ble_eq_true rfl) (Nat.le_of_ble_eq_true rfl) (Nat.le_of_ble_eq_true rfl) (rm_c (by omega)) (rm_s (by omega)) ?_
  intro v M2 hq
  obtain ⟨rfl, rfl⟩ := hq
  show xW G (mL nm) room_1 (xLZ G) 1403 (LV i) [.int r] (mem u Gb) k n
  refine xi_aload_n 1 dL_law_1403 rfl ?_
  refine xi_aload_nS 3 dL_law_1404 rfl ?_
  refine xi_iload_n 0 dL_law_1405 rfl ?_
  refine xi_iconst (v := nI 1) dL_law_1406 (by decide) ?_
  refine xi_iadd (v := i + nI 1) dL_law_1407 rfl ?_
  refine xi_sld (v := x1) dL_law_1408 e1.1 e1.2 ?_
  refine xi_aload_nS 3 dL_law_1409 rfl ?_
  refine xi_iload_n 0 dL_law_1410 rfl ?_
  refine xi_iconst (v := nI 2) dL_law_1411 (by decide) ?_
  refine xi_iadd (v := i + nI 2) dL_law_1412 rfl ?_
  refine xi_sld (v := x2) dL_law_1413 e2.1 e2.2 ?_
  refine xi_callV (as := [.int x1, .int x2]) (rest := [.int r]) dL_law_1414 (KX12_polished G Gb x1 x2 u r w f2) mkX12_polished w_1483 w_1484 w_1482 (mem_get sh_149) rfl rfl rfl rfl (Nat.le_of_ble_eq_true rfl) (Nat.le_of_ble_eq_true rfl) (Nat.le_of_ble_eq_true rfl) (rm_c (by omega)) (rm_s (by omega)) ?_
  intro v M2 hq
  obtain ⟨rfl, rfl⟩ := hq
  show xW G (mL nm) room_1 (xLZ G) 1417 (LV i) [.int r, .int r] (mem w Gb) k n
  refine xi_icmp_eq_t (tgt := 1719) dL_law_1417 (by decide) rfl ?_
  exact K w _ _ _ hw (by omega) (by omega)
set_option maxHeartbeats 4000000 in
set_option maxRecDepth 100000 in
theorem law_34 {nm : String} (G : xG) (i x1 x2 x3 x4 x5 : Int32) (e1 : XA G i (nI 1) x1) (e2 : XA G i (nI 2) x2) (e3 : XA G i (nI 3) x3) (e4 : XA G i (nI 4) x4) (e5 : XA G i (nI 5) x5) {σ : St} {Gb : xMem} {k n : Nat} (hI : INV3 σ) (hk : k ≤ 599000) (hn : n ≤ 7300000) (K : ∀ (w : St) (Gb' : xMem) (k' n' : Nat), INV3 w → k' ≤ k + 1 → n' ≤ n + 5 → xW G (mL nm) room_1 (xLZ G) 1719 (LV i) [] (mem w Gb') k' n') : xW G (mL nm) room_1 (xLZ G) 1422 (LV i) [] (mem σ Gb) k n := by
  obtain ⟨r, u, f1, r2, w, f2, hw, -⟩ := z3_greedy hI x1 x2
  refine xi_aload_n 2 dL_law_1422 rfl ?_
  refine xi_aload_nS 3 dL_law_1423 rfl ?_
  refine xi_iload_n 0 dL_law_1424 rfl ?_
  refine xi_iconst (v := nI 1) dL_law_1425 (by decide) ?_
  refine xi_iadd (v := i + nI 1) dL_law_1426 rfl ?_
  refine xi_sld (v := x1) dL_law_1427 e1.1 e1.2 ?_
  refine xi_aload_nS 3 dL_law_1428 rfl ?_
  refine xi_iload_n 0 dL_law_1429 rfl ?_
  refine xi_iconst (v := nI 2) dL_law_1430 (by decide) ?_
  refine xi_iadd (v := i + nI 2) dL_law_1431 rfl ?_
  refine xi_sld (v := x2) dL_law_1432 e2.1 e2.2 ?_
  refine xi_callV (as := [.int x1, .int x2]) (rest := []) dL_law_1433 (KX11_greedy G Gb x1 x2 σ r u f1) mkX11_greedy w_913 w_914 w_912 (mem_get sh_0) rfl rfl rfl rfl (Nat.le_of_ble_eq_true rfl) (Nat.le_of_ble_eq_true rfl) (Nat.le_of_ble_eq_true rfl) (rm_c (by omega)) (rm_s (by omega)) ?_
  intro v M2 hq
  obtain ⟨rfl, rfl⟩ := hq
  show xW G (mL nm) room_1 (xLZ G) 1436 (LV i) [.int r] (mem u Gb) k n
  refine xi_pop dL_law_1436 rfl ?_
  refine xi_aload_n 1 dL_law_1437 rfl ?_
  refine xi_aload_nS 3 dL_law_1438 rfl ?_
  refine xi_iload_n 0 dL_law_1439 rfl ?_
  refine xi_iconst (v := nI 1) dL_law_1440 (by decide) ?_
  refine xi_iadd (v := i + nI 1) dL_law_1441 rfl ?_
  refine xi_sld (v := x1) dL_law_1442 e1.1 e1.2 ?_
  refine xi_aload_nS 3 dL_law_1443 rfl ?_
  refine xi_iload_n 0 dL_law_1444 rfl ?_
  refine xi_iconst (v := nI 2) dL_law_1445 (by decide) ?_
  refine xi_iadd (v := i + nI 2) dL_law_1446 rfl ?_
  refine xi_sld (v := x2) dL_law_1447 e2.1 e2.2 ?_
  refine xi_callV (as := [.int x1, .int x2]) (rest := []) dL_law_1448 (KX12_greedy G Gb x1 x2 u r2 w f2) mkX12_greedy w_1487 w_1488 w_1486 (mem_get sh_149) rfl rfl rfl rfl (Nat.le_of_ble_eq_true rfl) (Nat.le_of_ble_eq_true rfl) (Nat.le_of_ble_eq_true rfl) (rm_c (by omega)) (rm_s (by omega)) ?_
  intro v M2 hq
  obtain ⟨rfl, rfl⟩ := hq
  show xW G (mL nm) room_1 (xLZ G) 1451 (LV i) [.int r2] (mem w Gb) k n
  refine xi_pop dL_law_1451 rfl ?_
  refine xi_goto (tgt := 1719) dL_law_1452 (by decide) ?_
  exact K w _ _ _ hw (by omega) (by omega)
set_option maxHeartbeats 4000000 in
set_option maxRecDepth 100000 in
theorem law_35 {nm : String} (G : xG) (i x1 x2 x3 x4 x5 : Int32) (e1 : XA G i (nI 1) x1) (e2 : XA G i (nI 2) x2) (e3 : XA G i (nI 3) x3) (e4 : XA G i (nI 4) x4) (e5 : XA G i (nI 5) x5) {σ : St} {Gb : xMem} {k n : Nat} (hI : INV3 σ) (hk : k ≤ 599000) (hn : n ≤ 7300000) (K : ∀ (w : St) (Gb' : xMem) (k' n' : Nat), INV3 w → k' ≤ k + 1 → n' ≤ n + 5 → xW G (mL nm) room_1 (xLZ G) 1719 (LV i) [] (mem w Gb') k' n') : xW G (mL nm) room_1 (xLZ G) 1455 (LV i) [] (mem σ Gb) k n := by
  obtain ⟨r, u, f1, r2, w, f2, hw, -⟩ := z3_layers hI x1 x2
  refine xi_aload_n 2 dL_law_1455 rfl ?_
  refine xi_aload_nS 3 dL_law_1456 rfl ?_
  refine xi_iload_n 0 dL_law_1457 rfl ?_
  refine xi_iconst (v := nI 1) dL_law_1458 (by decide) ?_
  refine xi_iadd (v := i + nI 1) dL_law_1459 rfl ?_
  refine xi_sld (v := x1) dL_law_1460 e1.1 e1.2 ?_
  refine xi_aload_nS 3 dL_law_1461 rfl ?_
  refine xi_iload_n 0 dL_law_1462 rfl ?_
  refine xi_iconst (v := nI 2) dL_law_1463 (by decide) ?_
  refine xi_iadd (v := i + nI 2) dL_law_1464 rfl ?_
  refine xi_sld (v := x2) dL_law_1465 e2.1 e2.2 ?_
  refine xi_callV (as := [.int x1, .int x2]) (rest := []) dL_law_1466 (KX11_layers G Gb x1 x2 σ r u f1) mkX11_layers w_921 w_922 w_920 (mem_get sh_0) rfl rfl rfl rfl (Nat.le_of_ble_eq_true rfl) (Nat.le_of_ble_eq_true rfl) (Nat.le_of_ble_eq_true rfl) (rm_c (by omega)) (rm_s (by omega)) ?_
  intro v M2 hq
  obtain ⟨rfl, rfl⟩ := hq
  show xW G (mL nm) room_1 (xLZ G) 1469 (LV i) [.int r] (mem u Gb) k n
  refine xi_pop dL_law_1469 rfl ?_
  refine xi_aload_n 1 dL_law_1470 rfl ?_
  refine xi_aload_nS 3 dL_law_1471 rfl ?_
  refine xi_iload_n 0 dL_law_1472 rfl ?_
  refine xi_iconst (v := nI 1) dL_law_1473 (by decide) ?_
  refine xi_iadd (v := i + nI 1) dL_law_1474 rfl ?_
  refine xi_sld (v := x1) dL_law_1475 e1.1 e1.2 ?_
  refine xi_aload_nS 3 dL_law_1476 rfl ?_
  refine xi_iload_n 0 dL_law_1477 rfl ?_
  refine xi_iconst (v := nI 2) dL_law_1478 (by decide) ?_
  refine xi_iadd (v := i + nI 2) dL_law_1479 rfl ?_
  refine xi_sld (v := x2) dL_law_1480 e2.1 e2.2 ?_
  refine xi_callV (as := [.int x1, .int x2]) (rest := []) dL_law_1481 (KX12_layers G Gb x1 x2 u r2 w f2) mkX12_layers w_1491 w_1492 w_1490 (mem_get sh_149) rfl rfl rfl rfl (Nat.le_of_ble_eq_true rfl) (Nat.le_of_ble_eq_true rfl) (Nat.le_of_ble_eq_true rfl) (rm_c (by omega)) (rm_s (by omega)) ?_
  intro v M2 hq
  obtain ⟨rfl, rfl⟩ := hq
  show xW G (mL nm) room_1 (xLZ G) 1484 (LV i) [.int r2] (mem w Gb) k n
  refine xi_pop dL_law_1484 rfl ?_
  refine xi_goto (tgt := 1719) dL_law_1485 (by decide) ?_
  exact K w _ _ _ hw (by omega) (by omega)
set_option maxHeartbeats 4000000 in
set_option maxRecDepth 100000 in
theorem law_36 {nm : String} (G : xG) (i x1 x2 x3 x4 x5 : Int32) (e1 : XA G i (nI 1) x1) (e2 : XA G i (nI 2) x2) (e3 : XA G i (nI 3) x3) (e4 : XA G i (nI 4) x4) (e5 : XA G i (nI 5) x5) {σ : St} {Gb : xMem} {k n : Nat} (hI : INV3 σ) (hk : k ≤ 599000) (hn : n ≤ 7300000) (K : ∀ (w : St) (Gb' : xMem) (k' n' : Nat), INV3 w → k' ≤ k + 1 → n' ≤ n + 5 → xW G (mL nm) room_1 (xLZ G) 1719 (LV i) [] (mem w Gb') k' n') : xW G (mL nm) room_1 (xLZ G) 1488 (LV i) [] (mem σ Gb) k n := by
  obtain ⟨r, u, f1, r2, w, f2, hw, -⟩ := z3_adds hI x1 x2 x3 x4
  refine xi_aload_n 2 dL_law_1488 rfl ?_
  refine xi_aload_nS 3 dL_law_1489 rfl ?_
  refine xi_iload_n 0 dL_law_1490 rfl ?_
  refine xi_iconst (v := nI 1) dL_law_1491 (by decide) ?_
  refine xi_iadd (v := i + nI 1) dL_law_1492 rfl ?_
  refine xi_sld (v := x1) dL_law_1493 e1.1 e1.2 ?_
  refine xi_aload_nS 3 dL_law_1494 rfl ?_
  refine xi_iload_n 0 dL_law_1495 rfl ?_
  refine xi_iconst (v := nI 2) dL_law_1496 (by decide) ?_
  refine xi_iadd (v := i + nI 2) dL_law_1497 rfl ?_
  refine xi_sld (v := x2) dL_law_1498 e2.1 e2.2 ?_
  refine xi_aload_nS 3 dL_law_1499 rfl ?_
  refine xi_iload_n 0 dL_law_1500 rfl ?_
  refine xi_iconst (v := nI 3) dL_law_1501 (by decide) ?_
  refine xi_iadd (v := i + nI 3) dL_law_1502 rfl ?_
  refine xi_sld (v := x3) dL_law_1503 e3.1 e3.2 ?_
  refine xi_aload_nS 3 dL_law_1504 rfl ?_
  refine xi_iload_n 0 dL_law_1505 rfl ?_
  refine xi_iconst (v := nI 4) dL_law_1506 (by decide) ?_
  refine xi_iadd (v := i + nI 4) dL_law_1507 rfl ?_
  refine xi_sld (v := x4) dL_law_1508 e4.1 e4.2 ?_
  refine xi_callV (as := [.int x1, .int x2, .int x3, .int x4]) (rest := []) dL_law_1509 (KX11_adds G Gb x1 x2 x3 x4 σ r u f1) mkX11_adds w_933 w_934 w_932 (mem_get sh_0) rfl rfl rfl rfl (Nat.le_of_ble_eq_true rfl) (Nat.le_of_ble_eq_true rfl) (Nat.le_of_ble_eq_true rfl) (rm_c (by omega)) (rm_s (by omega)) ?_
  intro v M2 hq
  obtain ⟨rfl, rfl⟩ := hq
  show xW G (mL nm) room_1 (xLZ G) 1512 (LV i) [.int r] (mem u Gb) k n
  refine xi_pop dL_law_1512 rfl ?_
  refine xi_aload_n 1 dL_law_1513 rfl ?_
  refine xi_aload_nS 3 dL_law_1514 rfl ?_
  refine xi_iload_n 0 dL_law_1515 rfl ?_
  refine xi_iconst (v := nI 1) dL_law_1516 (by decide) ?_
  refine xi_iadd (v := i + nI 1) dL_law_1517 rfl ?_
  refine xi_sld (v := x1) dL_law_1518 e1.1 e1.2 ?_
  refine xi_aload_nS 3 dL_law_1519 rfl ?_
  refine xi_iload_n 0 dL_law_1520 rfl ?_
  refine xi_iconst (v := nI 2) dL_law_1521 (by decide) ?_
  refine xi_iadd (v := i + nI 2) dL_law_1522 rfl ?_
  refine xi_sld (v := x2) dL_law_1523 e2.1 e2.2 ?_
  refine xi_aload_nS 3 dL_law_1524 rfl ?_
  refine xi_iload_n 0 dL_law_1525 rfl ?_
  refine xi_iconst (v := nI 3) dL_law_1526 (by decide) ?_
  refine xi_iadd (v := i + nI 3) dL_law_1527 rfl ?_
  refine xi_sld (v := x3) dL_law_1528 e3.1 e3.2 ?_
  refine xi_aload_nS 3 dL_law_1529 rfl ?_
  refine xi_iload_n 0 dL_law_1530 rfl ?_
  refine xi_iconst (v := nI 4) dL_law_1531 (by decide) ?_
  refine xi_iadd (v := i + nI 4) dL_law_1532 rfl ?_
  refine xi_sld (v := x4) dL_law_1533 e4.1 e4.2 ?_
  refine xi_callV (as := [.int x1, .int x2, .int x3, .int x4]) (rest := []) dL_law_1534 (KX12_adds G Gb x1 x2 x3 x4 u r2 w f2) mkX12_adds w_1495 w_1496 w_1494 (mem_get sh_149) rfl rfl rfl rfl (Nat.le_of_ble_eq_true rfl) (Nat.le_of_ble_eq_true rfl) (Nat.le_of_ble_eq_true rfl) (rm_c (by omega)) (rm_s (by omega)) ?_
  intro v M2 hq
  obtain ⟨rfl, rfl⟩ := hq
  show xW G (mL nm) room_1 (xLZ G) 1537 (LV i) [.int r2] (mem w Gb) k n
  refine xi_pop dL_law_1537 rfl ?_
  refine xi_goto (tgt := 1719) dL_law_1538 (by decide) ?_
  exact K w _ _ _ hw (by omega) (by omega)
set_option maxHeartbeats 4000000 in
set_option maxRecDepth 100000 in
theorem law_37 {nm : String} (G : xG) (i x1 x2 x3 x4 x5 : Int32) (e1 : XA G i (nI 1) x1) (e2 : XA G i (nI 2) x2) (e3 : XA G i (nI 3) x3) (e4 : XA G i (nI 4) x4) (e5 : XA G i (nI 5) x5) {σ : St} {Gb : xMem} {k n : Nat} (hI : INV3 σ) (hk : k ≤ 599000) (hn : n ≤ 7300000) (K : ∀ (w : St) (Gb' : xMem) (k' n' : Nat), INV3 w → k' ≤ k + 1 → n' ≤ n + 5 → xW G (mL nm) room_1 (xLZ G) 1719 (LV i) [] (mem w Gb') k' n') : xW G (mL nm) room_1 (xLZ G) 1541 (LV i) [] (mem σ Gb) k n := by
  obtain ⟨r, u, f1, r2, w, f2, hw, -⟩ := z3_cuts hI x1 x2 x3
  refine xi_aload_n 2 dL_law_1541 rfl ?_
  refine xi_aload_nS 3 dL_law_1542 rfl ?_
  refine xi_iload_n 0 dL_law_1543 rfl ?_
  refine xi_iconst (v := nI 1) dL_law_1544 (by decide) ?_
  refine xi_iadd (v := i + nI 1) dL_law_1545 rfl ?_
  refine xi_sld (v := x1) dL_law_1546 e1.1 e1.2 ?_
  refine xi_aload_nS 3 dL_law_1547 rfl ?_
  refine xi_iload_n 0 dL_law_1548 rfl ?_
  refine xi_iconst (v := nI 2) dL_law_1549 (by decide) ?_
  refine xi_iadd (v := i + nI 2) dL_law_1550 rfl ?_
  refine xi_sld (v := x2) dL_law_1551 e2.1 e2.2 ?_
  refine xi_aload_nS 3 dL_law_1552 rfl ?_
  refine xi_iload_n 0 dL_law_1553 rfl ?_
  refine xi_iconst (v := nI 3) dL_law_1554 (by decide) ?_
  refine xi_iadd (v := i + nI 3) dL_law_1555 rfl ?_
  refine xi_sld (v := x3) dL_law_1556 e3.1 e3.2 ?_
  refine xi_callV (as := [.int x1, .int x2, .int x3]) (rest := []) dL_law_1557 (KX11_cuts G Gb x1 x2 x3 σ r u f1) mkX11_cuts w_943 w_944 w_942 (mem_get sh_0) rfl rfl rfl rfl (Nat.le_of_ble_eq_true rfl) (Nat.le_of_ble_eq_true rfl) (Nat.le_of_ble_eq_true rfl) (rm_c (by omega)) (rm_s (by omega)) ?_
  intro v M2 hq
  obtain ⟨rfl, rfl⟩ := hq
  show xW G (mL nm) room_1 (xLZ G) 1560 (LV i) [.int r] (mem u Gb) k n
  refine xi_pop dL_law_1560 rfl ?_
  refine xi_aload_n 1 dL_law_1561 rfl ?_
  refine xi_aload_nS 3 dL_law_1562 rfl ?_
  refine xi_iload_n 0 dL_law_1563 rfl ?_
  refine xi_iconst (v := nI 1) dL_law_1564 (by decide) ?_
  refine xi_iadd (v := i + nI 1) dL_law_1565 rfl ?_
  refine xi_sld (v := x1) dL_law_1566 e1.1 e1.2 ?_
  refine xi_aload_nS 3 dL_law_1567 rfl ?_
  refine xi_iload_n 0 dL_law_1568 rfl ?_
  refine xi_iconst (v := nI 2) dL_law_1569 (by decide) ?_
  refine xi_iadd (v := i + nI 2) dL_law_1570 rfl ?_
  refine xi_sld (v := x2) dL_law_1571 e2.1 e2.2 ?_
  refine xi_aload_nS 3 dL_law_1572 rfl ?_
  refine xi_iload_n 0 dL_law_1573 rfl ?_
  refine xi_iconst (v := nI 3) dL_law_1574 (by decide) ?_
  refine xi_iadd (v := i + nI 3) dL_law_1575 rfl ?_
  refine xi_sld (v := x3) dL_law_1576 e3.1 e3.2 ?_
  refine xi_callV (as := [.int x1, .int x2, .int x3]) (rest := []) dL_law_1577 (KX12_cuts G Gb x1 x2 x3 u r2 w f2) mkX12_cuts w_1504 w_1505 w_1503 (mem_get sh_149) rfl rfl rfl rfl (Nat.le_of_ble_eq_true rfl) (Nat.le_of_ble_eq_true rfl) (Nat.le_of_ble_eq_true rfl) (rm_c (by omega)) (rm_s (by omega)) ?_
  intro v M2 hq
  obtain ⟨rfl, rfl⟩ := hq
  show xW G (mL nm) room_1 (xLZ G) 1580 (LV i) [.int r2] (mem w Gb) k n
  refine xi_pop dL_law_1580 rfl ?_
  refine xi_goto (tgt := 1719) dL_law_1581 (by decide) ?_
  exact K w _ _ _ hw (by omega) (by omega)
set_option maxHeartbeats 4000000 in
set_option maxRecDepth 100000 in
theorem law_38 {nm : String} (G : xG) (i x1 x2 x3 x4 x5 : Int32) (e1 : XA G i (nI 1) x1) (e2 : XA G i (nI 2) x2) (e3 : XA G i (nI 3) x3) (e4 : XA G i (nI 4) x4) (e5 : XA G i (nI 5) x5) {σ : St} {Gb : xMem} {k n : Nat} (hI : INV3 σ) (hk : k ≤ 599000) (hn : n ≤ 7300000) (K : ∀ (w : St) (Gb' : xMem) (k' n' : Nat), INV3 w → k' ≤ k + 1 → n' ≤ n + 5 → xW G (mL nm) room_1 (xLZ G) 1719 (LV i) [] (mem w Gb') k' n') : xW G (mL nm) room_1 (xLZ G) 1584 (LV i) [] (mem σ Gb) k n := by
  obtain ⟨r, u, f1, r2, w, f2, hw, -⟩ := z3_merges hI x1 x2 x3
  refine xi_aload_n 2 dL_law_1584 rfl ?_
  refine xi_aload_nS 3 dL_law_1585 rfl ?_
  refine xi_iload_n 0 dL_law_1586 rfl ?_
  refine xi_iconst (v := nI 1) dL_law_1587 (by decide) ?_
  refine xi_iadd (v := i + nI 1) dL_law_1588 rfl ?_
  refine xi_sld (v := x1) dL_law_1589 e1.1 e1.2 ?_
  refine xi_aload_nS 3 dL_law_1590 rfl ?_
  refine xi_iload_n 0 dL_law_1591 rfl ?_
  refine xi_iconst (v := nI 2) dL_law_1592 (by decide) ?_
  refine xi_iadd (v := i + nI 2) dL_law_1593 rfl ?_
  refine xi_sld (v := x2) dL_law_1594 e2.1 e2.2 ?_
  refine xi_aload_nS 3 dL_law_1595 rfl ?_
  refine xi_iload_n 0 dL_law_1596 rfl ?_
  refine xi_iconst (v := nI 3) dL_law_1597 (by decide) ?_
  refine xi_iadd (v := i + nI 3) dL_law_1598 rfl ?_
  refine xi_sld (v := x3) dL_law_1599 e3.1 e3.2 ?_
  refine xi_callV (as := [.int x1, .int x2, .int x3]) (rest := []) dL_law_1600 (KX11_merges G Gb x1 x2 x3 σ r u f1) mkX11_merges w_947 w_948 w_946 (mem_get sh_0) rfl rfl rfl rfl (Nat.le_of_ble_eq_true rfl) (Nat.le_of_ble_eq_true rfl) (Nat.le_of_ble_eq_true rfl) (rm_c (by omega)) (rm_s (by omega)) ?_
  intro v M2 hq
  obtain ⟨rfl, rfl⟩ := hq
  show xW G (mL nm) room_1 (xLZ G) 1603 (LV i) [.int r] (mem u Gb) k n
  refine xi_pop dL_law_1603 rfl ?_
  refine xi_aload_n 1 dL_law_1604 rfl ?_
  refine xi_aload_nS 3 dL_law_1605 rfl ?_
  refine xi_iload_n 0 dL_law_1606 rfl ?_
  refine xi_iconst (v := nI 1) dL_law_1607 (by decide) ?_
  refine xi_iadd (v := i + nI 1) dL_law_1608 rfl ?_
  refine xi_sld (v := x1) dL_law_1609 e1.1 e1.2 ?_
  refine xi_aload_nS 3 dL_law_1610 rfl ?_
  refine xi_iload_n 0 dL_law_1611 rfl ?_
  refine xi_iconst (v := nI 2) dL_law_1612 (by decide) ?_
  refine xi_iadd (v := i + nI 2) dL_law_1613 rfl ?_
  refine xi_sld (v := x2) dL_law_1614 e2.1 e2.2 ?_
  refine xi_aload_nS 3 dL_law_1615 rfl ?_
  refine xi_iload_n 0 dL_law_1616 rfl ?_
  refine xi_iconst (v := nI 3) dL_law_1617 (by decide) ?_
  refine xi_iadd (v := i + nI 3) dL_law_1618 rfl ?_
  refine xi_sld (v := x3) dL_law_1619 e3.1 e3.2 ?_
  refine xi_callV (as := [.int x1, .int x2, .int x3]) (rest := []) dL_law_1620 (KX12_merges G Gb x1 x2 x3 u r2 w f2) mkX12_merges w_1508 w_1509 w_1507 (mem_get sh_149) rfl rfl rfl rfl (Nat.le_of_ble_eq_true rfl) (Nat.le_of_ble_eq_true rfl) (Nat.le_of_ble_eq_true rfl) (rm_c (by omega)) (rm_s (by omega)) ?_
  intro v M2 hq
  obtain ⟨rfl, rfl⟩ := hq
  show xW G (mL nm) room_1 (xLZ G) 1623 (LV i) [.int r2] (mem w Gb) k n
  refine xi_pop dL_law_1623 rfl ?_
  refine xi_goto (tgt := 1719) dL_law_1624 (by decide) ?_
  exact K w _ _ _ hw (by omega) (by omega)
set_option maxHeartbeats 4000000 in
set_option maxRecDepth 100000 in
theorem law_39 {nm : String} (G : xG) (i x1 x2 x3 x4 x5 : Int32) (e1 : XA G i (nI 1) x1) (e2 : XA G i (nI 2) x2) (e3 : XA G i (nI 3) x3) (e4 : XA G i (nI 4) x4) (e5 : XA G i (nI 5) x5) {σ : St} {Gb : xMem} {k n : Nat} (hI : INV3 σ) (hk : k ≤ 599000) (hn : n ≤ 7300000) (K : ∀ (w : St) (Gb' : xMem) (k' n' : Nat), INV3 w → k' ≤ k + 1 → n' ≤ n + 5 → xW G (mL nm) room_1 (xLZ G) 1719 (LV i) [] (mem w Gb') k' n') : xW G (mL nm) room_1 (xLZ G) 1627 (LV i) [] (mem σ Gb) k n := by
  obtain ⟨r, u, f1, r2, w, f2, hw, -⟩ := z3_drops hI x1
  refine xi_aload_n 2 dL_law_1627 rfl ?_
  refine xi_aload_nS 3 dL_law_1628 rfl ?_
  refine xi_iload_n 0 dL_law_1629 rfl ?_
  refine xi_iconst (v := nI 1) dL_law_1630 (by decide) ?_
  refine xi_iadd (v := i + nI 1) dL_law_1631 rfl ?_
  refine xi_sld (v := x1) dL_law_1632 e1.1 e1.2 ?_
  refine xi_callV (as := [.int x1]) (rest := []) dL_law_1633 (KX11_drops G Gb x1 σ r u f1) mkX11_drops w_952 w_953 w_951 (mem_get sh_0) rfl rfl rfl rfl (Nat.le_of_ble_eq_true rfl) (Nat.le_of_ble_eq_true rfl) (Nat.le_of_ble_eq_true rfl) (rm_c (by omega)) (rm_s (by omega)) ?_
  intro v M2 hq
  obtain ⟨rfl, rfl⟩ := hq
  show xW G (mL nm) room_1 (xLZ G) 1636 (LV i) [.int r] (mem u Gb) k n
  refine xi_pop dL_law_1636 rfl ?_
  refine xi_aload_n 1 dL_law_1637 rfl ?_
  refine xi_aload_nS 3 dL_law_1638 rfl ?_
  refine xi_iload_n 0 dL_law_1639 rfl ?_
  refine xi_iconst (v := nI 1) dL_law_1640 (by decide) ?_
  refine xi_iadd (v := i + nI 1) dL_law_1641 rfl ?_
  refine xi_sld (v := x1) dL_law_1642 e1.1 e1.2 ?_
  refine xi_callV (as := [.int x1]) (rest := []) dL_law_1643 (KX12_drops G Gb x1 u r2 w f2) mkX12_drops w_1092 w_1093 w_1091 (mem_get sh_149) rfl rfl rfl rfl (Nat.le_of_ble_eq_true rfl) (Nat.le_of_ble_eq_true rfl) (Nat.le_of_ble_eq_true rfl) (rm_c (by omega)) (rm_s (by omega)) ?_
  intro v M2 hq
  obtain ⟨rfl, rfl⟩ := hq
  show xW G (mL nm) room_1 (xLZ G) 1646 (LV i) [.int r2] (mem w Gb) k n
  refine xi_pop dL_law_1646 rfl ?_
  refine xi_goto (tgt := 1719) dL_law_1647 (by decide) ?_
  exact K w _ _ _ hw (by omega) (by omega)
set_option maxHeartbeats 4000000 in
set_option maxRecDepth 100000 in
theorem law_40 {nm : String} (G : xG) (i x1 x2 x3 x4 x5 : Int32) (e1 : XA G i (nI 1) x1) (e2 : XA G i (nI 2) x2) (e3 : XA G i (nI 3) x3) (e4 : XA G i (nI 4) x4) (e5 : XA G i (nI 5) x5) {σ : St} {Gb : xMem} {k n : Nat} (hI : INV3 σ) (hk : k ≤ 599000) (hn : n ≤ 7300000) (K : ∀ (w : St) (Gb' : xMem) (k' n' : Nat), INV3 w → k' ≤ k + 1 → n' ≤ n + 5 → xW G (mL nm) room_1 (xLZ G) 1719 (LV i) [] (mem w Gb') k' n') : xW G (mL nm) room_1 (xLZ G) 1650 (LV i) [] (mem σ Gb) k n := by
  obtain ⟨r, u, f1, r2, w, f2, hw, -⟩ := z3_undo hI
  refine xi_aload_n 2 dL_law_1650 rfl ?_
  refine xi_callV (as := []) (rest := []) dL_law_1651 (KX11_undo G Gb σ r u f1) mkX11_undo w_957 w_958 w_956 (mem_get sh_0) rfl rfl rfl rfl (Nat.le_of_ble_eq_true rfl) (Nat.le_of_ble_eq_true rfl) (Nat.le_of_ble_eq_true rfl) (rm_c (by omega)) (rm_s (by omega)) ?_
  intro v M2 hq
  obtain ⟨rfl, rfl⟩ := hq
  show xW G (mL nm) room_1 (xLZ G) 1654 (LV i) [.int r] (mem u Gb) k n
  refine xi_pop dL_law_1654 rfl ?_
  refine xi_aload_n 1 dL_law_1655 rfl ?_
  refine xi_callV (as := []) (rest := []) dL_law_1656 (KX12_undo G Gb u r2 w f2) mkX12_undo w_1088 w_1089 w_1087 (mem_get sh_149) rfl rfl rfl rfl (Nat.le_of_ble_eq_true rfl) (Nat.le_of_ble_eq_true rfl) (Nat.le_of_ble_eq_true rfl) (rm_c (by omega)) (rm_s (by omega)) ?_
  intro v M2 hq
  obtain ⟨rfl, rfl⟩ := hq
  show xW G (mL nm) room_1 (xLZ G) 1659 (LV i) [.int r2] (mem w Gb) k n
  refine xi_pop dL_law_1659 rfl ?_
  refine xi_goto (tgt := 1719) dL_law_1660 (by decide) ?_
  exact K w _ _ _ hw (by omega) (by omega)
set_option maxHeartbeats 4000000 in
set_option maxRecDepth 100000 in
theorem law_41 {nm : String} (G : xG) (i x1 x2 x3 x4 x5 : Int32) (e1 : XA G i (nI 1) x1) (e2 : XA G i (nI 2) x2) (e3 : XA G i (nI 3) x3) (e4 : XA G i (nI 4) x4) (e5 : XA G i (nI 5) x5) {σ : St} {Gb : xMem} {k n : Nat} (hI : INV3 σ) (hk : k ≤ 599000) (hn : n ≤ 7300000) (K : ∀ (w : St) (Gb' : xMem) (k' n' : Nat), INV3 w → k' ≤ k + 1 → n' ≤ n + 5 → xW G (mL nm) room_1 (xLZ G) 1719 (LV i) [] (mem w Gb') k' n') : xW G (mL nm) room_1 (xLZ G) 1663 (LV i) [] (mem σ Gb) k n := by
  obtain ⟨r, u, f1, r2, w, f2, hw, -⟩ := z3_tell hI x1 x2
  refine xi_aload_n 2 dL_law_1663 rfl ?_
  refine xi_aload_nS 3 dL_law_1664 rfl ?_
  refine xi_iload_n 0 dL_law_1665 rfl ?_
  refine xi_iconst (v := nI 1) dL_law_1666 (by decide) ?_
  refine xi_iadd (v := i + nI 1) dL_law_1667 rfl ?_
  refine xi_sld (v := x1) dL_law_1668 e1.1 e1.2 ?_
  refine xi_aload_nS 3 dL_law_1669 rfl ?_
  refine xi_iload_n 0 dL_law_1670 rfl ?_
  refine xi_iconst (v := nI 2) dL_law_1671 (by decide) ?_
  refine xi_iadd (v := i + nI 2) dL_law_1672 rfl ?_
  refine xi_sld (v := x2) dL_law_1673 e2.1 e2.2 ?_
  refine xi_callV (as := [.int x1, .int x2]) (rest := []) dL_law_1674 (KX11_tell G Gb x1 x2 σ r u f1) mkX11_tell w_965 w_966 w_964 (mem_get sh_0) rfl rfl rfl rfl (Nat.le_of_ble_eq_true rfl) (Nat.le_of_ble_eq_true rfl) (Nat.le_of_ble_eq_true rfl) (rm_c (by omega)) (rm_s (by omega)) ?_
  intro v M2 hq
  obtain ⟨rfl, rfl⟩ := hq
  show xW G (mL nm) room_1 (xLZ G) 1677 (LV i) [.int r] (mem u Gb) k n
  refine xi_pop dL_law_1677 rfl ?_
  refine xi_aload_n 1 dL_law_1678 rfl ?_
  refine xi_aload_nS 3 dL_law_1679 rfl ?_
  refine xi_iload_n 0 dL_law_1680 rfl ?_
  refine xi_iconst (v := nI 1) dL_law_1681 (by decide) ?_
  refine xi_iadd (v := i + nI 1) dL_law_1682 rfl ?_
  refine xi_sld (v := x1) dL_law_1683 e1.1 e1.2 ?_
  refine xi_aload_nS 3 dL_law_1684 rfl ?_
  refine xi_iload_n 0 dL_law_1685 rfl ?_
  refine xi_iconst (v := nI 2) dL_law_1686 (by decide) ?_
  refine xi_iadd (v := i + nI 2) dL_law_1687 rfl ?_
  refine xi_sld (v := x2) dL_law_1688 e2.1 e2.2 ?_
  refine xi_callV (as := [.int x1, .int x2]) (rest := []) dL_law_1689 (KX12_tell G Gb x1 x2 u r2 w f2) mkX12_tell w_1512 w_1513 w_1511 (mem_get sh_149) rfl rfl rfl rfl (Nat.le_of_ble_eq_true rfl) (Nat.le_of_ble_eq_true rfl) (Nat.le_of_ble_eq_true rfl) (rm_c (by omega)) (rm_s (by omega)) ?_
  intro v M2 hq
  obtain ⟨rfl, rfl⟩ := hq
  show xW G (mL nm) room_1 (xLZ G) 1692 (LV i) [.int r2] (mem w Gb) k n
  refine xi_pop dL_law_1692 rfl ?_
  refine xi_goto (tgt := 1719) dL_law_1693 (by decide) ?_
  exact K w _ _ _ hw (by omega) (by omega)
set_option maxHeartbeats 4000000 in
set_option maxRecDepth 100000 in
theorem law_42 {nm : String} (G : xG) (i x1 x2 x3 x4 x5 : Int32) (e1 : XA G i (nI 1) x1) (e2 : XA G i (nI 2) x2) (e3 : XA G i (nI 3) x3) (e4 : XA G i (nI 4) x4) (e5 : XA G i (nI 5) x5) {σ : St} {Gb : xMem} {k n : Nat} (hI : INV3 σ) (hk : k ≤ 599000) (hn : n ≤ 7300000) (K : ∀ (w : St) (Gb' : xMem) (k' n' : Nat), INV3 w → k' ≤ k + 1 → n' ≤ n + 5 → xW G (mL nm) room_1 (xLZ G) 1719 (LV i) [] (mem w Gb') k' n') : xW G (mL nm) room_1 (xLZ G) 1696 (LV i) [] (mem σ Gb) k n := by
  obtain ⟨r, u, f1, r2, w, f2, hw, -⟩ := z3_octet hI x1
  refine xi_aload_n 2 dL_law_1696 rfl ?_
  refine xi_aload_nS 3 dL_law_1697 rfl ?_
  refine xi_iload_n 0 dL_law_1698 rfl ?_
  refine xi_iconst (v := nI 1) dL_law_1699 (by decide) ?_
  refine xi_iadd (v := i + nI 1) dL_law_1700 rfl ?_
  refine xi_sld (v := x1) dL_law_1701 e1.1 e1.2 ?_
  refine xi_callV (as := [.int x1]) (rest := []) dL_law_1702 (KX11_octet G Gb x1 σ r u f1) mkX11_octet w_998 w_999 w_997 (mem_get sh_0) rfl rfl rfl rfl (Nat.le_of_ble_eq_true rfl) (Nat.le_of_ble_eq_true rfl) (Nat.le_of_ble_eq_true rfl) (rm_c (by omega)) (rm_s (by omega)) ?_
  intro v M2 hq
  obtain ⟨rfl, rfl⟩ := hq
  show xW G (mL nm) room_1 (xLZ G) 1705 (LV i) [.int r] (mem u Gb) k n
  refine xi_pop dL_law_1705 rfl ?_
  refine xi_aload_n 1 dL_law_1706 rfl ?_
  refine xi_aload_nS 3 dL_law_1707 rfl ?_
  refine xi_iload_n 0 dL_law_1708 rfl ?_
  refine xi_iconst (v := nI 1) dL_law_1709 (by decide) ?_
  refine xi_iadd (v := i + nI 1) dL_law_1710 rfl ?_
  refine xi_sld (v := x1) dL_law_1711 e1.1 e1.2 ?_
  refine xi_callV (as := [.int x1]) (rest := []) dL_law_1712 (KX12_octet G Gb x1 u r2 w f2) mkX12_octet w_1537 w_1538 w_1536 (mem_get sh_149) rfl rfl rfl rfl (Nat.le_of_ble_eq_true rfl) (Nat.le_of_ble_eq_true rfl) (Nat.le_of_ble_eq_true rfl) (rm_c (by omega)) (rm_s (by omega)) ?_
  intro v M2 hq
  obtain ⟨rfl, rfl⟩ := hq
  show xW G (mL nm) room_1 (xLZ G) 1715 (LV i) [.int r2] (mem w Gb) k n
  refine xi_pop dL_law_1715 rfl ?_
  refine xi_goto (tgt := 1719) dL_law_1716 (by decide) ?_
  exact K w _ _ _ hw (by omega) (by omega)
