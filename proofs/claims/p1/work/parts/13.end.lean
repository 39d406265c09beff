set_option maxHeartbeats 4000000 in
set_option maxRecDepth 100000 in
theorem law_ctx (l : Launch) {s : State} {b L : Nat} {xs : Nat → Int32} (hts : ∀ w ∈ lw_tbl, w.before #[Value.ref b] s = true) (hX : va_X b L xs s s.heap) (hbl : b < s.heap.size) (hgv : (Jvm.Cond.and given_1 narrow_1).before #[Value.ref b] s = true) : ∃ (D : va_G) (arr : Nat → ClassId) (str : Nat → Nat), str 200 = b ∧ xK (l, D, arr, s.heap.size, s.heap, str, L, xs) s := by
  have hw : ∀ w ∈ xWall, w.before #[Value.ref b] s = true := fun w h => hts w (List.mem_filter.mp h).1
  have hs := flat_of_before _ hgv
  have hA : ∀ a : Nat, a < s.heap.size → ¬ (fun q : Nat => s.heap.size ≤ q) a := fun a h => Nat.not_le.mpr h
  obtain ⟨c0, i0, hk0⟩ := u_known (C := RX0) (T := TX0) (N := 4) (n := 4) hw ok_0.1 (hw _ w_200)
  obtain ⟨c1, i1, hk1⟩ := u_known (C := RX1) (T := TX1) (N := 2) (n := 2) hw ok_1.1 (hw _ w_31)
  obtain ⟨c2, i2, hk2⟩ := u_known (C := RX2) (T := TX2) (N := 5) (n := 5) hw ok_2.1 (hw _ w_138)
  obtain ⟨c3, i3, hk3⟩ := u_known (C := RX3) (T := TX3) (N := 2) (n := 2) hw ok_3.1 (hw _ w_129)
  obtain ⟨c4, i4, hk4⟩ := u_known (C := RX4) (T := TX4) (N := 4) (n := 4) hw ok_4.1 (hw _ w_221)
  obtain ⟨c5, i5, hk5⟩ := u_known (C := RX5) (T := TX5) (N := 5) (n := 5) hw ok_5.1 (hw _ w_56)
  obtain ⟨c6, i6, hk6⟩ := u_known (C := RX7) (T := TX7) (N := 8) (n := 8) hw ok_6.1 (hw _ w_50)
  obtain ⟨c7, i7, hk7⟩ := u_known (C := RX9) (T := TX9) (N := 5) (n := 5) hw ok_7.1 (hw _ w_178)
  obtain ⟨c8, i8, hk8⟩ := u_known (C := RX11) (T := TX11) (N := 10) (n := 10) hw ok_8.1 (hw _ w_23)
  obtain ⟨c9, i9, hk9⟩ := u_known (C := RX12) (T := TX12) (N := 26) (n := 26) hw ok_9.1 (hw _ w_1003)
  obtain ⟨cI, kI, pI, fI, gI, eI⟩ := Cond.arrayClass_spec (hw _ w_95)
  obtain ⟨cB, kB, pB, fB, gB, eB⟩ := Cond.arrayClass_spec (hw _ w_48)
  have ha2 : (Cond.arrayOver (.object RX5)).before #[Value.ref b] s = true := hts _ (List.mem_of_getElem? (i := 219) (by decide +kernel))
  obtain ⟨p2, q2, k2, f2, -, g2, e2, n2⟩ := Cond.arrayOver_spec ha2
  have ha3 : (Cond.arrayOver (.object RX3)).before #[Value.ref b] s = true := hts _ (List.mem_of_getElem? (i := 221) (by decide +kernel))
  obtain ⟨p3, q3, k3, f3, -, g3, e3, n3⟩ := Cond.arrayOver_spec ha3
  have ha4 : (Cond.arrayOver (.object RX2)).before #[Value.ref b] s = true := hts _ (List.mem_of_getElem? (i := 229) (by decide +kernel))
  obtain ⟨p4, q4, k4, f4, -, g4, e4, n4⟩ := Cond.arrayOver_spec ha4
  obtain ⟨ak0, av0, sS0, sE0⟩ := vk_Sof (args := #[Value.ref b]) (s := s) (N := 1) (tm := fun _ => .string RX7 45) (len := [3]) (byt := [[110, 101, 116]]) (A := fun q : Nat => s.heap.size ≤ q) (fun i hi => by (rcases (show i = 0 by omega) with rfl); decide) (fun i hi => hs (Cond.exactly (.string RX7 45) "java/lang/String") (by decide +kernel)) (fun i hi => hs (Cond.eq (.field (.string RX7 45) "java/lang/String" "coder" "B") (.int 0)) (by decide +kernel)) (fun i hi => hs (Cond.arrayOf (.field (.string RX7 45) "java/lang/String" "value" "[B") .byte) (by decide +kernel)) (fun i hi => by
      rcases (show i = 0 by omega) with rfl
      exact hs (Cond.eq (.length (.field (.string RX7 45) "java/lang/String" "value" "[B")) (.int 3)) (by decide +kernel)) (fun i hi j hj => by
      rcases (show i = 0 by omega) with rfl
      have hj : j < 3 := hj
      rcases (show j = 0 ∨ j = 1 ∨ j = 2 by omega) with rfl | rfl | rfl
      · exact hs (Cond.eq (.elem (.field (.string RX7 45) "java/lang/String" "value" "[B") (.int 0)) (.int 110)) (by decide +kernel)
      · exact hs (Cond.eq (.elem (.field (.string RX7 45) "java/lang/String" "value" "[B") (.int 1)) (.int 101)) (by decide +kernel)
      · exact hs (Cond.eq (.elem (.field (.string RX7 45) "java/lang/String" "value" "[B") (.int 2)) (.int 116)) (by decide +kernel)) (fun i j hi hj hij => absurd (by omega) hij) hA
  have sR0 : vk_R RX7 45 "net" (ak0 0) s := vk_R.of (A := #[Value.ref b]) (hts _ (List.mem_of_getElem? (i := 417) (by decide +kernel))) (sE0 0 (by decide))
  obtain ⟨ak1, av1, sS1, sE1⟩ := vk_Sof (args := #[Value.ref b]) (s := s) (N := 1) (tm := fun _ => .string RX7 96) (len := [3]) (byt := [[114, 111, 119]]) (A := fun q : Nat => s.heap.size ≤ q) (fun i hi => by (rcases (show i = 0 by omega) with rfl); decide) (fun i hi => hs (Cond.exactly (.string RX7 96) "java/lang/String") (by decide +kernel)) (fun i hi => hs (Cond.eq (.field (.string RX7 96) "java/lang/String" "coder" "B") (.int 0)) (by decide +kernel)) (fun i hi => hs (Cond.arrayOf (.field (.string RX7 96) "java/lang/String" "value" "[B") .byte) (by decide +kernel)) (fun i hi => by
      rcases (show i = 0 by omega) with rfl
      exact hs (Cond.eq (.length (.field (.string RX7 96) "java/lang/String" "value" "[B")) (.int 3)) (by decide +kernel)) (fun i hi j hj => by
      rcases (show i = 0 by omega) with rfl
      have hj : j < 3 := hj
      rcases (show j = 0 ∨ j = 1 ∨ j = 2 by omega) with rfl | rfl | rfl
      · exact hs (Cond.eq (.elem (.field (.string RX7 96) "java/lang/String" "value" "[B") (.int 0)) (.int 114)) (by decide +kernel)
      · exact hs (Cond.eq (.elem (.field (.string RX7 96) "java/lang/String" "value" "[B") (.int 1)) (.int 111)) (by decide +kernel)
      · exact hs (Cond.eq (.elem (.field (.string RX7 96) "java/lang/String" "value" "[B") (.int 2)) (.int 119)) (by decide +kernel)) (fun i j hi hj hij => absurd (by omega) hij) hA
  have sR1 : vk_R RX7 96 "row" (ak1 0) s := vk_R.of (A := #[Value.ref b]) (hts _ (List.mem_of_getElem? (i := 525) (by decide +kernel))) (sE1 0 (by decide))
  obtain ⟨ak4, av4, sS4, sE4⟩ := vk_Sof (args := #[Value.ref b]) (s := s) (N := 1) (tm := fun _ => .string RX12 173) (len := [3]) (byt := [[110, 101, 116]]) (A := fun q : Nat => s.heap.size ≤ q) (fun i hi => by (rcases (show i = 0 by omega) with rfl); decide) (fun i hi => hs (Cond.exactly (.string RX12 173) "java/lang/String") (by decide +kernel)) (fun i hi => hs (Cond.eq (.field (.string RX12 173) "java/lang/String" "coder" "B") (.int 0)) (by decide +kernel)) (fun i hi => hs (Cond.arrayOf (.field (.string RX12 173) "java/lang/String" "value" "[B") .byte) (by decide +kernel)) (fun i hi => by
      rcases (show i = 0 by omega) with rfl
      exact hs (Cond.eq (.length (.field (.string RX12 173) "java/lang/String" "value" "[B")) (.int 3)) (by decide +kernel)) (fun i hi j hj => by
      rcases (show i = 0 by omega) with rfl
      have hj : j < 3 := hj
      rcases (show j = 0 ∨ j = 1 ∨ j = 2 by omega) with rfl | rfl | rfl
      · exact hs (Cond.eq (.elem (.field (.string RX12 173) "java/lang/String" "value" "[B") (.int 0)) (.int 110)) (by decide +kernel)
      · exact hs (Cond.eq (.elem (.field (.string RX12 173) "java/lang/String" "value" "[B") (.int 1)) (.int 101)) (by decide +kernel)
      · exact hs (Cond.eq (.elem (.field (.string RX12 173) "java/lang/String" "value" "[B") (.int 2)) (.int 116)) (by decide +kernel)) (fun i j hi hj hij => absurd (by omega) hij) hA
  have sR4 : vk_R RX12 173 "net" (ak4 0) s := vk_R.of (A := #[Value.ref b]) (hts _ (List.mem_of_getElem? (i := 1241) (by decide +kernel))) (sE4 0 (by decide))
  obtain ⟨ak5, av5, sS5, sE5⟩ := vk_Sof (args := #[Value.ref b]) (s := s) (N := 1) (tm := fun _ => .string RX12 182) (len := [3]) (byt := [[114, 111, 119]]) (A := fun q : Nat => s.heap.size ≤ q) (fun i hi => by (rcases (show i = 0 by omega) with rfl); decide) (fun i hi => hs (Cond.exactly (.string RX12 182) "java/lang/String") (by decide +kernel)) (fun i hi => hs (Cond.eq (.field (.string RX12 182) "java/lang/String" "coder" "B") (.int 0)) (by decide +kernel)) (fun i hi => hs (Cond.arrayOf (.field (.string RX12 182) "java/lang/String" "value" "[B") .byte) (by decide +kernel)) (fun i hi => by
      rcases (show i = 0 by omega) with rfl
      exact hs (Cond.eq (.length (.field (.string RX12 182) "java/lang/String" "value" "[B")) (.int 3)) (by decide +kernel)) (fun i hi j hj => by
      rcases (show i = 0 by omega) with rfl
      have hj : j < 3 := hj
      rcases (show j = 0 ∨ j = 1 ∨ j = 2 by omega) with rfl | rfl | rfl
      · exact hs (Cond.eq (.elem (.field (.string RX12 182) "java/lang/String" "value" "[B") (.int 0)) (.int 114)) (by decide +kernel)
      · exact hs (Cond.eq (.elem (.field (.string RX12 182) "java/lang/String" "value" "[B") (.int 1)) (.int 111)) (by decide +kernel)
      · exact hs (Cond.eq (.elem (.field (.string RX12 182) "java/lang/String" "value" "[B") (.int 2)) (.int 119)) (by decide +kernel)) (fun i j hi hj hij => absurd (by omega) hij) hA
  have sR5 : vk_R RX12 182 "row" (ak5 0) s := vk_R.of (A := #[Value.ref b]) (hts _ (List.mem_of_getElem? (i := 1295) (by decide +kernel))) (sE5 0 (by decide))
  have hZ := va_Zof (args := #[Value.ref b]) (C := "java/lang/String") (n := "COMPACT_STRINGS") (d := "Z") (v := .int 1) (A := fun q : Nat => s.heap.size ≤ q) (hts _ (List.mem_of_getElem? (i := 431) (by decide +kernel))) (hts (Cond.initialized "java/lang/String") (List.mem_of_getElem? (i := 106) (by decide +kernel))) (va_eqi (hs (Cond.eq (.static "java/lang/String" "COMPACT_STRINGS" "Z") (.int 1)) (by decide +kernel))) hA
  refine ⟨(fun k => match k with | 0 => c0 | 1 => c1 | 2 => c2 | 3 => c3 | 4 => c4 | 5 => c5 | 6 => c6 | 7 => c7 | 8 => c8 | _ => c9, fun k => match k with | 0 => i0 | 1 => i1 | 2 => i2 | 3 => i3 | 4 => i4 | 5 => i5 | 6 => i6 | 7 => i7 | 8 => i8 | _ => i9), (fun t => match t with | 0 => cI | 1 => cB | 2 => q2 | 3 => q3 | _ => q4), (fun j => match j with | 200 => b | 0 => ak0 0 | 1 => ak1 0 | 4 => ak4 0 | 5 => ak5 0 | 100 => av0 0 | 101 => av1 0 | 104 => av4 0 | 105 => av5 0 | _ => 0), rfl, ⟨fun k q hq => ?_, fun k q hq => ?_⟩, fun w hwn => ?_, fun C hC => ?_, ⟨fun q hq => ?_, hZ, hX, hbl⟩⟩
  · match k, hq with
    | 0, hq => cases hq; exact hk0
    | 1, hq => cases hq; exact hk1
    | 2, hq => cases hq; exact hk2
    | 3, hq => cases hq; exact hk3
    | 4, hq => cases hq; exact hk4
    | 5, hq => cases hq; exact hk5
    | 6, hq => cases hq; exact hk6
    | 7, hq => cases hq; exact hk7
    | 8, hq => cases hq; exact hk8
    | 9, hq => cases hq; exact hk9
    | k + 10, hq => exact absurd hq (by simp [xcls])
  · match k, hq with
    | 0, hq => cases hq; exact ⟨fun n z => ⟨(fun k h => by cases h), kI, gI, pI, eI⟩, fI⟩
    | 1, hq => cases hq; exact ⟨fun n z => ⟨(fun k h => by cases h), kB, gB, pB, eB⟩, fB⟩
    | 2, hq => cases hq; exact ⟨fun n z => ⟨(fun k h => by cases h), k2, g2, p2, e2⟩, k2, p2, g2, e2, f2, n2⟩
    | 3, hq => cases hq; exact ⟨fun n z => ⟨(fun k h => by cases h), k3, g3, p3, e3⟩, k3, p3, g3, e3, f3, n3⟩
    | 4, hq => cases hq; exact ⟨fun n z => ⟨(fun k h => by cases h), k4, g4, p4, e4⟩, k4, p4, g4, e4, f4, n4⟩
    | k + 5, hq => exact absurd hq (by simp [xtys])
  · have h1 : w.onTables = true := by
      have := (List.mem_filter.mp hwn).2
      cases w <;> first | rfl | cases this
    exact va_Nw.of h1 (hts w (List.mem_filter.mp hwn).1)
  · rcases List.mem_cons.mp hC with rfl | hC
    · exact va_AO.of ha2
    rcases List.mem_cons.mp hC with rfl | hC
    · exact va_AO.of ha3
    rcases List.mem_cons.mp hC with rfl | hC
    · exact va_AO.of ha4
    cases hC
  · rcases List.mem_cons.mp hq with rfl | hq
    · exact ⟨sR0, (sS0.1 0 (by decide)).1, (sS0.1 0 (by decide)).2.1, (sS0.1 0 (by decide)).2.2.1, (sS0.1 0 (by decide)).2.2.2⟩
    rcases List.mem_cons.mp hq with rfl | hq
    · exact ⟨sR1, (sS1.1 0 (by decide)).1, (sS1.1 0 (by decide)).2.1, (sS1.1 0 (by decide)).2.2.1, (sS1.1 0 (by decide)).2.2.2⟩
    rcases List.mem_cons.mp hq with rfl | hq
    · exact ⟨sR4, (sS4.1 0 (by decide)).1, (sS4.1 0 (by decide)).2.1, (sS4.1 0 (by decide)).2.2.1, (sS4.1 0 (by decide)).2.2.2⟩
    rcases List.mem_cons.mp hq with rfl | hq
    · exact ⟨sR5, (sS5.1 0 (by decide)).1, (sS5.1 0 (by decide)).2.1, (sS5.1 0 (by decide)).2.2.1, (sS5.1 0 (by decide)).2.2.2⟩
    cases hq
set_option maxHeartbeats 4000000 in
set_option maxRecDepth 100000 in
theorem whole_start {p : Program} {e : Env} {s : State} {m : MethodId} {below : List Frame} {meth : Method} {c : Code} (l : Launch) (hflags : l.flags = flags0) {b L : Nat} {xs : Nat → Int32} (hL : L ≤ 6) (C0 : lw_At p s m meth c b L xs) : W p l e room_1 s m #[Value.ref b] below meth c s.heap [] 0 0 (lw_Z below #[Value.ref b] s) (entryFrame m ([Value.ref b] : List Value).toArray 4) := by
  obtain ⟨hx, hb, hr, hml, hown, hts, hX, hbl, hlocks, hgv⟩ := C0
  obtain ⟨D, arr, str, h200, hK⟩ := law_ctx l hts hX hbl hgv
  have hw : ∀ w ∈ xWall, w.before #[Value.ref b] s = true := fun w h => hts w (List.mem_filter.mp h).1
  have hle := lv_entry ([Value.ref b]) (n := 4) (Nat.le_of_ble_eq_true rfl)
  rw [lg_entry_eq]
  have hxl : lv_args 0 [Value.ref b] = xcl (l, D, arr, s.heap.size, s.heap, str, L, xs) [(0, .float 200)] := by
    show [(0, Value.ref b)] = [(0, Value.ref (str 200))]
    rw [h200]
  rw [hxl] at hle
  have h := law_start (nm := meth.name) (l, D, arr, s.heap.size, s.heap, str, L, xs) hL p e s m #[Value.ref b] below meth c s.heap [] _ ⟨hx, hb, hml, hr, hown, hw, hlocks, rfl, hK⟩ ⟨rfl, fun i c h => by simp at h, fun q _ => rfl⟩ (fun q hq => by cases hq) hle
  intro T hT X
  obtain ⟨t, a1, b1⟩ := h T hT X
  exact ⟨t, a1, b1 rfl⟩
set_option maxHeartbeats 4000000 in
theorem lw_walk (l : Launch) (hflags : l.flags = flags0) (b : Addr) (xs : List Int32) : MetFree l x (headSpec (Jvm.Cond.code x code maxLocals ret :: tables_1) room_1) (lw_P b xs) (fun _ _ _ _ _ => True) lw_Q := by
  refine MetFree.of_bodyS (code := code) (maxLocals := maxLocals) (ret := ret) (by decide) ?_ ?_
  · intro args s m h hn
    obtain ⟨meth, c, h1, h2, h3, h4, h5, h6, -, -⟩ := Cond.code_spec hn (atoms_spec (ws := Jvm.Cond.code x code maxLocals ret :: tables_1) h _ List.mem_cons_self)
    exact ⟨meth, c, h1, h2, h3, h4, h5, h6⟩
  · intro p e s m args below meth c s₁ B hml0 hP _
    obtain ⟨rfl, hx, hbd, hgv⟩ := hP
    obtain ⟨scr, harrAt, hlist, hof, hsmall⟩ := hx
    obtain ⟨hcb, hkn, -, -⟩ := State.arrayAt?_spec harrAt
    have hown : s.vm.findClass R_law = some m.cls := findClass_of_methodNamed B.named
    have hts0 : ∀ c ∈ (Jvm.Cond.code x code maxLocals ret :: tables_1), c.before #[Value.ref b] s = true := atoms_spec (ws := Jvm.Cond.code x code maxLocals ret :: tables_1) B.pre
    have hts : ∀ w ∈ lw_tbl, w.before #[Value.ref b] s = true := k2_hts_sels lw_privs (fun w hw => hts0 w (List.mem_cons_of_mem _ hw)) lw_privs_ok
    have hml : c.maxLocals = 4 := B.maxLocals_eq (hts0 _ List.mem_cons_self)
    have X₀ : Stand p l e room_1 s m #[Value.ref b] below meth c s₁ [] 0 0 := Stand.of_body B
    have hh0 : s₁.heap = s.heap := by rw [B.state]; rfl
    have hsz : scr.slots.size = xs.length := by rw [← Array.length_toList, hlist, List.length_map]
    have hval : ∀ j : Nat, j < xs.length → scr.slots[j]? = some (.int (xs.getD j 0)) := fun j hj => by
      rw [← Array.getElem?_toList, hlist]
      simp [hj]
    have hbl : b < s.heap.size := (Array.getElem?_eq_some_iff.mp hcb).1
    have hX : va_X b xs.length (fun j => xs.getD j 0) s s.heap := ⟨scr, hcb, hof, hkn, hsz, hval⟩
    have K : W p l e room_1 s m #[Value.ref b] below meth c s₁.heap [] 0 0 (lw_Z below #[Value.ref b] s) (entryFrame m ([Value.ref b] : List Value).toArray 4) := by
      rw [hh0]
      exact whole_start l hflags hbd ⟨B.exec, B.bytes, B.returns, hml, hown, hts, hX, hbl, B.notSynchronized, hgv⟩
    obtain ⟨t, a1, o, b1, b2, b3⟩ := K s₁ rfl X₀
    exact ⟨t, o, a1, b1, b2, b3⟩
theorem lw_pre_spec {args : Array Value} {s : State} (h : (Jvm.Cond.and given_1 narrow_1).before args s = true) (hr : rest_1_c.before args s = true) : ∃ (b : Addr) (xs : List Int32), lw_P b xs args s := by
  have hs := flat_of_before _ h
  have hq := flat_of_before _ hr
  have hc : (Cond.count 1).before args s = true := hs _ (by decide +kernel)
  have harr : (Cond.arrayOf (.arg 0) .int).before args s = true := hs _ (by decide +kernel)
  have hle : (Cond.le (.length (.arg 0)) (.int 6)).before args s = true := hs _ (by decide +kernel)
  have hlen : (Cond.isInt (.length (.arg 0))).before args s = true := hq _ (by decide +kernel)
  have hall : (Cond.all (.arg 0) (.isInt (.elem (.arg 0) (.index 0)))).before args s = true := hq _ (by decide +kernel)
  obtain ⟨b, xs, hb, hx⟩ := State.ints_of_pre rfl harr hlen hall
  have hsm : xs.length < 2 ^ 31 := hx.choose_spec.2.2.2
  have hev : (Term.length (.arg 0)).eval args s none [] s = some (.int xs.length.toInt32) := hx.length_eval hb
  have hv := Cond.le_ints hev (show (Term.int 6).eval args s none [] s = some (.int 6) from rfl)
  have hd : xs.length.toInt32 ≤ 6 := by
    simpa [Cond.before, Cond.holds, hv] using hle
  have hN : xs.length ≤ 6 := (Int32.ofNat_le_ofNat hsm (by decide)).mp (show Int32.ofNat xs.length ≤ Int32.ofNat 6 from hd)
  exact ⟨b, xs, Cond.one_arg hc (show args[0]? = some (.ref b) from hb), hx, hN, h⟩
theorem lw_comes (l : Launch) (hflags : l.flags = flags0) : Comes l x (Jvm.Cond.code x code maxLocals ret :: tables_1) room_1 (fun tb e args s => Calls_1 tb e args s ∧ rest_1 tb e args s ∧ Pre_1 tb e args s)
    (fun _ _ args s o t => lw_Q args s o t) := by
  intro p e ha hc hk s m args below hf hfit hheap happ hpre
  obtain ⟨b, xs, hP⟩ := lw_pre_spec hpre.2.2 hpre.2.1
  obtain ⟨k, o, h1, h2, h3, hQ⟩ := lw_walk l hflags b xs p e ha hc hk s m args below hf ((Spec.applies_iff_loose hf).mp happ).1 hP trivial
  exact ⟨k, o, h1, h2, h3, hQ⟩
theorem lw_frame {s t : State} {o : Outcome} {args : Array Value} (h : Framed s o t [] 600000 7302250) :
    Framed s o t (fieldLocs frame_1_writes args s ++ arrayLocs frame_1_arrays args s ++ staticLocs frame_1_statics s) 600000 7302250 := h
theorem lw_limb (L : Cond) (hL : ∀ (args : Array Value) (s t : State), L.after args s (.returned (some (.int 1))) t = true) :
    ArmFor flags0 classFile x code maxLocals ret World_1 tables_1 room_1 Calls_1 rest_1 Pre_1
      (fun tb e a s o t => postC L tb e a s o t ∧ Framed s o t (fieldLocs frame_1_writes a s ++ arrayLocs frame_1_arrays a s ++ staticLocs frame_1_statics s) 600000 7302250) := by
  intro l hflags _ _ p e ha hc hk s m args below hf hfit hheap happ hpre
  obtain ⟨k, o, h1, h2, h3, rfl, hF⟩ := lw_comes l hflags p e ha hc hk s m args below hf hfit hheap happ hpre
  exact ⟨k, _, h1, h2, h3, hL args s _, lw_frame hF⟩
theorem i_vc : Claimed_1_1 ∧ Claimed_1_2 := ⟨lw_limb limb_1_1 (fun args s t => by simp [limb_1_1, Cond.after, Cond.holds, Cond.value]), lw_limb limb_1_2 (fun args s t => Cond.after_iff.mpr (by
  first | (rw [show limb_1_2 = Cond.eq .result (.int 1) from rfl, Cond.eq_ints (x := 1) (y := 1) rfl rfl]; simp; done) | (simp [limb_1_2, Cond.value, Term.eval]; done)))⟩

