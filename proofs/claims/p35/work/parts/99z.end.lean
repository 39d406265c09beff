set_option maxHeartbeats 4000000 in
set_option maxRecDepth 100000 in
theorem str_0 {s : State} {b : Nat} (hts : ∀ w ∈ lw_tbl, w.before #[Value.ref b] s = true) (hgv : (Jvm.Cond.and given_1 narrow_1).before #[Value.ref b] s = true) : ∃ ak av : Nat, vk_R RX7 45 "net" ak s ∧ va_O "java/lang/String" ak (fun q : Nat => s.heap.size ≤ q) s s.heap ∧ va_OF "java/lang/String" "coder" "B" (.int 0) ak (fun q : Nat => s.heap.size ≤ q) s s.heap ∧ va_OF "java/lang/String" "value" "[B" (.ref av) ak (fun q : Nat => s.heap.size ≤ q) s s.heap ∧ va_T .byte av ([110, 101, 116] : List Int32).length (fun j => .int (([110, 101, 116] : List Int32).getD j 0)) (fun q : Nat => s.heap.size ≤ q) s s.heap := by
  have hs := flat_of_before _ hgv
  have hA : ∀ a : Nat, a < s.heap.size → ¬ (fun q : Nat => s.heap.size ≤ q) a := fun a h => Nat.not_le.mpr h
  obtain ⟨ak, av, sS, sE⟩ := vk_Sof (args := #[Value.ref b]) (s := s) (N := 1) (tm := fun _ => .string RX7 45) (len := [3]) (byt := [[110, 101, 116]]) (A := fun q : Nat => s.heap.size ≤ q) (fun i hi => by (rcases (show i = 0 by omega) with rfl); decide) (fun i hi => hs (Cond.exactly (.string RX7 45) "java/lang/String") (by decide +kernel)) (fun i hi => hs (Cond.eq (.field (.string RX7 45) "java/lang/String" "coder" "B") (.int 0)) (by decide +kernel)) (fun i hi => hs (Cond.arrayOf (.field (.string RX7 45) "java/lang/String" "value" "[B") .byte) (by decide +kernel)) (fun i hi => by
      rcases (show i = 0 by omega) with rfl
      exact hs (Cond.eq (.length (.field (.string RX7 45) "java/lang/String" "value" "[B")) (.int 3)) (by decide +kernel)) (fun i hi j hj => by
      rcases (show i = 0 by omega) with rfl
      have hj : j < 3 := hj
      rcases (show j = 0 ∨ j = 1 ∨ j = 2 by omega) with rfl | rfl | rfl
      · exact hs (Cond.eq (.elem (.field (.string RX7 45) "java/lang/String" "value" "[B") (.int 0)) (.int 110)) (by decide +kernel)
      · exact hs (Cond.eq (.elem (.field (.string RX7 45) "java/lang/String" "value" "[B") (.int 1)) (.int 101)) (by decide +kernel)
      · exact hs (Cond.eq (.elem (.field (.string RX7 45) "java/lang/String" "value" "[B") (.int 2)) (.int 116)) (by decide +kernel)) (fun i j hi hj hij => absurd (by omega) hij) hA
  exact ⟨ak 0, av 0, vk_R.of (A := #[Value.ref b]) (hts _ (List.mem_of_getElem? (i := 417) (by decide +kernel))) (sE 0 (by decide)), (sS.1 0 (by decide)).1, (sS.1 0 (by decide)).2.1, (sS.1 0 (by decide)).2.2.1, (sS.1 0 (by decide)).2.2.2⟩
set_option maxHeartbeats 4000000 in
set_option maxRecDepth 100000 in
theorem str_1 {s : State} {b : Nat} (hts : ∀ w ∈ lw_tbl, w.before #[Value.ref b] s = true) (hgv : (Jvm.Cond.and given_1 narrow_1).before #[Value.ref b] s = true) : ∃ ak av : Nat, vk_R RX7 96 "row" ak s ∧ va_O "java/lang/String" ak (fun q : Nat => s.heap.size ≤ q) s s.heap ∧ va_OF "java/lang/String" "coder" "B" (.int 0) ak (fun q : Nat => s.heap.size ≤ q) s s.heap ∧ va_OF "java/lang/String" "value" "[B" (.ref av) ak (fun q : Nat => s.heap.size ≤ q) s s.heap ∧ va_T .byte av ([114, 111, 119] : List Int32).length (fun j => .int (([114, 111, 119] : List Int32).getD j 0)) (fun q : Nat => s.heap.size ≤ q) s s.heap := by
  have hs := flat_of_before _ hgv
  have hA : ∀ a : Nat, a < s.heap.size → ¬ (fun q : Nat => s.heap.size ≤ q) a := fun a h => Nat.not_le.mpr h
  obtain ⟨ak, av, sS, sE⟩ := vk_Sof (args := #[Value.ref b]) (s := s) (N := 1) (tm := fun _ => .string RX7 96) (len := [3]) (byt := [[114, 111, 119]]) (A := fun q : Nat => s.heap.size ≤ q) (fun i hi => by (rcases (show i = 0 by omega) with rfl); decide) (fun i hi => hs (Cond.exactly (.string RX7 96) "java/lang/String") (by decide +kernel)) (fun i hi => hs (Cond.eq (.field (.string RX7 96) "java/lang/String" "coder" "B") (.int 0)) (by decide +kernel)) (fun i hi => hs (Cond.arrayOf (.field (.string RX7 96) "java/lang/String" "value" "[B") .byte) (by decide +kernel)) (fun i hi => by
      rcases (show i = 0 by omega) with rfl
      exact hs (Cond.eq (.length (.field (.string RX7 96) "java/lang/String" "value" "[B")) (.int 3)) (by decide +kernel)) (fun i hi j hj => by
      rcases (show i = 0 by omega) with rfl
      have hj : j < 3 := hj
      rcases (show j = 0 ∨ j = 1 ∨ j = 2 by omega) with rfl | rfl | rfl
      · exact hs (Cond.eq (.elem (.field (.string RX7 96) "java/lang/String" "value" "[B") (.int 0)) (.int 114)) (by decide +kernel)
      · exact hs (Cond.eq (.elem (.field (.string RX7 96) "java/lang/String" "value" "[B") (.int 1)) (.int 111)) (by decide +kernel)
      · exact hs (Cond.eq (.elem (.field (.string RX7 96) "java/lang/String" "value" "[B") (.int 2)) (.int 119)) (by decide +kernel)) (fun i j hi hj hij => absurd (by omega) hij) hA
  exact ⟨ak 0, av 0, vk_R.of (A := #[Value.ref b]) (hts _ (List.mem_of_getElem? (i := 525) (by decide +kernel))) (sE 0 (by decide)), (sS.1 0 (by decide)).1, (sS.1 0 (by decide)).2.1, (sS.1 0 (by decide)).2.2.1, (sS.1 0 (by decide)).2.2.2⟩
set_option maxHeartbeats 4000000 in
set_option maxRecDepth 100000 in
theorem str_2 {s : State} {b : Nat} (hts : ∀ w ∈ lw_tbl, w.before #[Value.ref b] s = true) (hgv : (Jvm.Cond.and given_1 narrow_1).before #[Value.ref b] s = true) : ∃ ak av : Nat, vk_R RX11 311 "net " ak s ∧ va_O "java/lang/String" ak (fun q : Nat => s.heap.size ≤ q) s s.heap ∧ va_OF "java/lang/String" "coder" "B" (.int 0) ak (fun q : Nat => s.heap.size ≤ q) s s.heap ∧ va_OF "java/lang/String" "value" "[B" (.ref av) ak (fun q : Nat => s.heap.size ≤ q) s s.heap ∧ va_T .byte av ([110, 101, 116, 32] : List Int32).length (fun j => .int (([110, 101, 116, 32] : List Int32).getD j 0)) (fun q : Nat => s.heap.size ≤ q) s s.heap := by
  have hs := flat_of_before _ hgv
  have hA : ∀ a : Nat, a < s.heap.size → ¬ (fun q : Nat => s.heap.size ≤ q) a := fun a h => Nat.not_le.mpr h
  obtain ⟨ak, av, sS, sE⟩ := vk_Sof (args := #[Value.ref b]) (s := s) (N := 1) (tm := fun _ => .string RX11 311) (len := [4]) (byt := [[110, 101, 116, 32]]) (A := fun q : Nat => s.heap.size ≤ q) (fun i hi => by (rcases (show i = 0 by omega) with rfl); decide) (fun i hi => hs (Cond.exactly (.string RX11 311) "java/lang/String") (by decide +kernel)) (fun i hi => hs (Cond.eq (.field (.string RX11 311) "java/lang/String" "coder" "B") (.int 0)) (by decide +kernel)) (fun i hi => hs (Cond.arrayOf (.field (.string RX11 311) "java/lang/String" "value" "[B") .byte) (by decide +kernel)) (fun i hi => by
      rcases (show i = 0 by omega) with rfl
      exact hs (Cond.eq (.length (.field (.string RX11 311) "java/lang/String" "value" "[B")) (.int 4)) (by decide +kernel)) (fun i hi j hj => by
      rcases (show i = 0 by omega) with rfl
      have hj : j < 4 := hj
      rcases (show j = 0 ∨ j = 1 ∨ j = 2 ∨ j = 3 by omega) with rfl | rfl | rfl | rfl
      · exact hs (Cond.eq (.elem (.field (.string RX11 311) "java/lang/String" "value" "[B") (.int 0)) (.int 110)) (by decide +kernel)
      · exact hs (Cond.eq (.elem (.field (.string RX11 311) "java/lang/String" "value" "[B") (.int 1)) (.int 101)) (by decide +kernel)
      · exact hs (Cond.eq (.elem (.field (.string RX11 311) "java/lang/String" "value" "[B") (.int 2)) (.int 116)) (by decide +kernel)
      · exact hs (Cond.eq (.elem (.field (.string RX11 311) "java/lang/String" "value" "[B") (.int 3)) (.int 32)) (by decide +kernel)) (fun i j hi hj hij => absurd (by omega) hij) hA
  exact ⟨ak 0, av 0, vk_R.of (A := #[Value.ref b]) (hts _ (List.mem_of_getElem? (i := 1066) (by decide +kernel))) (sE 0 (by decide)), (sS.1 0 (by decide)).1, (sS.1 0 (by decide)).2.1, (sS.1 0 (by decide)).2.2.1, (sS.1 0 (by decide)).2.2.2⟩
set_option maxHeartbeats 4000000 in
set_option maxRecDepth 100000 in
theorem str_3 {s : State} {b : Nat} (hts : ∀ w ∈ lw_tbl, w.before #[Value.ref b] s = true) (hgv : (Jvm.Cond.and given_1 narrow_1).before #[Value.ref b] s = true) : ∃ ak av : Nat, vk_R RX11 326 "row " ak s ∧ va_O "java/lang/String" ak (fun q : Nat => s.heap.size ≤ q) s s.heap ∧ va_OF "java/lang/String" "coder" "B" (.int 0) ak (fun q : Nat => s.heap.size ≤ q) s s.heap ∧ va_OF "java/lang/String" "value" "[B" (.ref av) ak (fun q : Nat => s.heap.size ≤ q) s s.heap ∧ va_T .byte av ([114, 111, 119, 32] : List Int32).length (fun j => .int (([114, 111, 119, 32] : List Int32).getD j 0)) (fun q : Nat => s.heap.size ≤ q) s s.heap := by
  have hs := flat_of_before _ hgv
  have hA : ∀ a : Nat, a < s.heap.size → ¬ (fun q : Nat => s.heap.size ≤ q) a := fun a h => Nat.not_le.mpr h
  obtain ⟨ak, av, sS, sE⟩ := vk_Sof (args := #[Value.ref b]) (s := s) (N := 1) (tm := fun _ => .string RX11 326) (len := [4]) (byt := [[114, 111, 119, 32]]) (A := fun q : Nat => s.heap.size ≤ q) (fun i hi => by (rcases (show i = 0 by omega) with rfl); decide) (fun i hi => hs (Cond.exactly (.string RX11 326) "java/lang/String") (by decide +kernel)) (fun i hi => hs (Cond.eq (.field (.string RX11 326) "java/lang/String" "coder" "B") (.int 0)) (by decide +kernel)) (fun i hi => hs (Cond.arrayOf (.field (.string RX11 326) "java/lang/String" "value" "[B") .byte) (by decide +kernel)) (fun i hi => by
      rcases (show i = 0 by omega) with rfl
      exact hs (Cond.eq (.length (.field (.string RX11 326) "java/lang/String" "value" "[B")) (.int 4)) (by decide +kernel)) (fun i hi j hj => by
      rcases (show i = 0 by omega) with rfl
      have hj : j < 4 := hj
      rcases (show j = 0 ∨ j = 1 ∨ j = 2 ∨ j = 3 by omega) with rfl | rfl | rfl | rfl
      · exact hs (Cond.eq (.elem (.field (.string RX11 326) "java/lang/String" "value" "[B") (.int 0)) (.int 114)) (by decide +kernel)
      · exact hs (Cond.eq (.elem (.field (.string RX11 326) "java/lang/String" "value" "[B") (.int 1)) (.int 111)) (by decide +kernel)
      · exact hs (Cond.eq (.elem (.field (.string RX11 326) "java/lang/String" "value" "[B") (.int 2)) (.int 119)) (by decide +kernel)
      · exact hs (Cond.eq (.elem (.field (.string RX11 326) "java/lang/String" "value" "[B") (.int 3)) (.int 32)) (by decide +kernel)) (fun i j hi hj hij => absurd (by omega) hij) hA
  exact ⟨ak 0, av 0, vk_R.of (A := #[Value.ref b]) (hts _ (List.mem_of_getElem? (i := 1086) (by decide +kernel))) (sE 0 (by decide)), (sS.1 0 (by decide)).1, (sS.1 0 (by decide)).2.1, (sS.1 0 (by decide)).2.2.1, (sS.1 0 (by decide)).2.2.2⟩
set_option maxHeartbeats 4000000 in
set_option maxRecDepth 100000 in
theorem str_4 {s : State} {b : Nat} (hts : ∀ w ∈ lw_tbl, w.before #[Value.ref b] s = true) (hgv : (Jvm.Cond.and given_1 narrow_1).before #[Value.ref b] s = true) : ∃ ak av : Nat, vk_R RX12 173 "net" ak s ∧ va_O "java/lang/String" ak (fun q : Nat => s.heap.size ≤ q) s s.heap ∧ va_OF "java/lang/String" "coder" "B" (.int 0) ak (fun q : Nat => s.heap.size ≤ q) s s.heap ∧ va_OF "java/lang/String" "value" "[B" (.ref av) ak (fun q : Nat => s.heap.size ≤ q) s s.heap ∧ va_T .byte av ([110, 101, 116] : List Int32).length (fun j => .int (([110, 101, 116] : List Int32).getD j 0)) (fun q : Nat => s.heap.size ≤ q) s s.heap := by
  have hs := flat_of_before _ hgv
  have hA : ∀ a : Nat, a < s.heap.size → ¬ (fun q : Nat => s.heap.size ≤ q) a := fun a h => Nat.not_le.mpr h
  obtain ⟨ak, av, sS, sE⟩ := vk_Sof (args := #[Value.ref b]) (s := s) (N := 1) (tm := fun _ => .string RX12 173) (len := [3]) (byt := [[110, 101, 116]]) (A := fun q : Nat => s.heap.size ≤ q) (fun i hi => by (rcases (show i = 0 by omega) with rfl); decide) (fun i hi => hs (Cond.exactly (.string RX12 173) "java/lang/String") (by decide +kernel)) (fun i hi => hs (Cond.eq (.field (.string RX12 173) "java/lang/String" "coder" "B") (.int 0)) (by decide +kernel)) (fun i hi => hs (Cond.arrayOf (.field (.string RX12 173) "java/lang/String" "value" "[B") .byte) (by decide +kernel)) (fun i hi => by
      rcases (show i = 0 by omega) with rfl
      exact hs (Cond.eq (.length (.field (.string RX12 173) "java/lang/String" "value" "[B")) (.int 3)) (by decide +kernel)) (fun i hi j hj => by
      rcases (show i = 0 by omega) with rfl
      have hj : j < 3 := hj
      rcases (show j = 0 ∨ j = 1 ∨ j = 2 by omega) with rfl | rfl | rfl
      · exact hs (Cond.eq (.elem (.field (.string RX12 173) "java/lang/String" "value" "[B") (.int 0)) (.int 110)) (by decide +kernel)
      · exact hs (Cond.eq (.elem (.field (.string RX12 173) "java/lang/String" "value" "[B") (.int 1)) (.int 101)) (by decide +kernel)
      · exact hs (Cond.eq (.elem (.field (.string RX12 173) "java/lang/String" "value" "[B") (.int 2)) (.int 116)) (by decide +kernel)) (fun i j hi hj hij => absurd (by omega) hij) hA
  exact ⟨ak 0, av 0, vk_R.of (A := #[Value.ref b]) (hts _ (List.mem_of_getElem? (i := 1241) (by decide +kernel))) (sE 0 (by decide)), (sS.1 0 (by decide)).1, (sS.1 0 (by decide)).2.1, (sS.1 0 (by decide)).2.2.1, (sS.1 0 (by decide)).2.2.2⟩
set_option maxHeartbeats 4000000 in
set_option maxRecDepth 100000 in
theorem str_5 {s : State} {b : Nat} (hts : ∀ w ∈ lw_tbl, w.before #[Value.ref b] s = true) (hgv : (Jvm.Cond.and given_1 narrow_1).before #[Value.ref b] s = true) : ∃ ak av : Nat, vk_R RX12 182 "row" ak s ∧ va_O "java/lang/String" ak (fun q : Nat => s.heap.size ≤ q) s s.heap ∧ va_OF "java/lang/String" "coder" "B" (.int 0) ak (fun q : Nat => s.heap.size ≤ q) s s.heap ∧ va_OF "java/lang/String" "value" "[B" (.ref av) ak (fun q : Nat => s.heap.size ≤ q) s s.heap ∧ va_T .byte av ([114, 111, 119] : List Int32).length (fun j => .int (([114, 111, 119] : List Int32).getD j 0)) (fun q : Nat => s.heap.size ≤ q) s s.heap := by
  have hs := flat_of_before _ hgv
  have hA : ∀ a : Nat, a < s.heap.size → ¬ (fun q : Nat => s.heap.size ≤ q) a := fun a h => Nat.not_le.mpr h
  obtain ⟨ak, av, sS, sE⟩ := vk_Sof (args := #[Value.ref b]) (s := s) (N := 1) (tm := fun _ => .string RX12 182) (len := [3]) (byt := [[114, 111, 119]]) (A := fun q : Nat => s.heap.size ≤ q) (fun i hi => by (rcases (show i = 0 by omega) with rfl); decide) (fun i hi => hs (Cond.exactly (.string RX12 182) "java/lang/String") (by decide +kernel)) (fun i hi => hs (Cond.eq (.field (.string RX12 182) "java/lang/String" "coder" "B") (.int 0)) (by decide +kernel)) (fun i hi => hs (Cond.arrayOf (.field (.string RX12 182) "java/lang/String" "value" "[B") .byte) (by decide +kernel)) (fun i hi => by
      rcases (show i = 0 by omega) with rfl
      exact hs (Cond.eq (.length (.field (.string RX12 182) "java/lang/String" "value" "[B")) (.int 3)) (by decide +kernel)) (fun i hi j hj => by
      rcases (show i = 0 by omega) with rfl
      have hj : j < 3 := hj
      rcases (show j = 0 ∨ j = 1 ∨ j = 2 by omega) with rfl | rfl | rfl
      · exact hs (Cond.eq (.elem (.field (.string RX12 182) "java/lang/String" "value" "[B") (.int 0)) (.int 114)) (by decide +kernel)
      · exact hs (Cond.eq (.elem (.field (.string RX12 182) "java/lang/String" "value" "[B") (.int 1)) (.int 111)) (by decide +kernel)
      · exact hs (Cond.eq (.elem (.field (.string RX12 182) "java/lang/String" "value" "[B") (.int 2)) (.int 119)) (by decide +kernel)) (fun i j hi hj hij => absurd (by omega) hij) hA
  exact ⟨ak 0, av 0, vk_R.of (A := #[Value.ref b]) (hts _ (List.mem_of_getElem? (i := 1295) (by decide +kernel))) (sE 0 (by decide)), (sS.1 0 (by decide)).1, (sS.1 0 (by decide)).2.1, (sS.1 0 (by decide)).2.2.1, (sS.1 0 (by decide)).2.2.2⟩
set_option maxHeartbeats 4000000 in
set_option maxRecDepth 100000 in
theorem str_6 {s : State} {b : Nat} (hts : ∀ w ∈ lw_tbl, w.before #[Value.ref b] s = true) (hgv : (Jvm.Cond.and given_1 narrow_1).before #[Value.ref b] s = true) : ∃ ak av : Nat, vk_R RX12 335 "net " ak s ∧ va_O "java/lang/String" ak (fun q : Nat => s.heap.size ≤ q) s s.heap ∧ va_OF "java/lang/String" "coder" "B" (.int 0) ak (fun q : Nat => s.heap.size ≤ q) s s.heap ∧ va_OF "java/lang/String" "value" "[B" (.ref av) ak (fun q : Nat => s.heap.size ≤ q) s s.heap ∧ va_T .byte av ([110, 101, 116, 32] : List Int32).length (fun j => .int (([110, 101, 116, 32] : List Int32).getD j 0)) (fun q : Nat => s.heap.size ≤ q) s s.heap := by
  have hs := flat_of_before _ hgv
  have hA : ∀ a : Nat, a < s.heap.size → ¬ (fun q : Nat => s.heap.size ≤ q) a := fun a h => Nat.not_le.mpr h
  obtain ⟨ak, av, sS, sE⟩ := vk_Sof (args := #[Value.ref b]) (s := s) (N := 1) (tm := fun _ => .string RX12 335) (len := [4]) (byt := [[110, 101, 116, 32]]) (A := fun q : Nat => s.heap.size ≤ q) (fun i hi => by (rcases (show i = 0 by omega) with rfl); decide) (fun i hi => hs (Cond.exactly (.string RX12 335) "java/lang/String") (by decide +kernel)) (fun i hi => hs (Cond.eq (.field (.string RX12 335) "java/lang/String" "coder" "B") (.int 0)) (by decide +kernel)) (fun i hi => hs (Cond.arrayOf (.field (.string RX12 335) "java/lang/String" "value" "[B") .byte) (by decide +kernel)) (fun i hi => by
      rcases (show i = 0 by omega) with rfl
      exact hs (Cond.eq (.length (.field (.string RX12 335) "java/lang/String" "value" "[B")) (.int 4)) (by decide +kernel)) (fun i hi j hj => by
      rcases (show i = 0 by omega) with rfl
      have hj : j < 4 := hj
      rcases (show j = 0 ∨ j = 1 ∨ j = 2 ∨ j = 3 by omega) with rfl | rfl | rfl | rfl
      · exact hs (Cond.eq (.elem (.field (.string RX12 335) "java/lang/String" "value" "[B") (.int 0)) (.int 110)) (by decide +kernel)
      · exact hs (Cond.eq (.elem (.field (.string RX12 335) "java/lang/String" "value" "[B") (.int 1)) (.int 101)) (by decide +kernel)
      · exact hs (Cond.eq (.elem (.field (.string RX12 335) "java/lang/String" "value" "[B") (.int 2)) (.int 116)) (by decide +kernel)
      · exact hs (Cond.eq (.elem (.field (.string RX12 335) "java/lang/String" "value" "[B") (.int 3)) (.int 32)) (by decide +kernel)) (fun i j hi hj hij => absurd (by omega) hij) hA
  exact ⟨ak 0, av 0, vk_R.of (A := #[Value.ref b]) (hts _ (List.mem_of_getElem? (i := 1613) (by decide +kernel))) (sE 0 (by decide)), (sS.1 0 (by decide)).1, (sS.1 0 (by decide)).2.1, (sS.1 0 (by decide)).2.2.1, (sS.1 0 (by decide)).2.2.2⟩
set_option maxHeartbeats 4000000 in
set_option maxRecDepth 100000 in
theorem str_7 {s : State} {b : Nat} (hts : ∀ w ∈ lw_tbl, w.before #[Value.ref b] s = true) (hgv : (Jvm.Cond.and given_1 narrow_1).before #[Value.ref b] s = true) : ∃ ak av : Nat, vk_R RX12 341 "," ak s ∧ va_O "java/lang/String" ak (fun q : Nat => s.heap.size ≤ q) s s.heap ∧ va_OF "java/lang/String" "coder" "B" (.int 0) ak (fun q : Nat => s.heap.size ≤ q) s s.heap ∧ va_OF "java/lang/String" "value" "[B" (.ref av) ak (fun q : Nat => s.heap.size ≤ q) s s.heap ∧ va_T .byte av ([44] : List Int32).length (fun j => .int (([44] : List Int32).getD j 0)) (fun q : Nat => s.heap.size ≤ q) s s.heap := by
  have hs := flat_of_before _ hgv
  have hA : ∀ a : Nat, a < s.heap.size → ¬ (fun q : Nat => s.heap.size ≤ q) a := fun a h => Nat.not_le.mpr h
  obtain ⟨ak, av, sS, sE⟩ := vk_Sof (args := #[Value.ref b]) (s := s) (N := 1) (tm := fun _ => .string RX12 341) (len := [1]) (byt := [[44]]) (A := fun q : Nat => s.heap.size ≤ q) (fun i hi => by (rcases (show i = 0 by omega) with rfl); decide) (fun i hi => hs (Cond.exactly (.string RX12 341) "java/lang/String") (by decide +kernel)) (fun i hi => hs (Cond.eq (.field (.string RX12 341) "java/lang/String" "coder" "B") (.int 0)) (by decide +kernel)) (fun i hi => hs (Cond.arrayOf (.field (.string RX12 341) "java/lang/String" "value" "[B") .byte) (by decide +kernel)) (fun i hi => by
      rcases (show i = 0 by omega) with rfl
      exact hs (Cond.eq (.length (.field (.string RX12 341) "java/lang/String" "value" "[B")) (.int 1)) (by decide +kernel)) (fun i hi j hj => by
      rcases (show i = 0 by omega) with rfl
      have hj : j < 1 := hj
      rcases (show j = 0 by omega) with rfl
      · exact hs (Cond.eq (.elem (.field (.string RX12 341) "java/lang/String" "value" "[B") (.int 0)) (.int 44)) (by decide +kernel)) (fun i j hi hj hij => absurd (by omega) hij) hA
  exact ⟨ak 0, av 0, vk_R.of (A := #[Value.ref b]) (hts _ (List.mem_of_getElem? (i := 1622) (by decide +kernel))) (sE 0 (by decide)), (sS.1 0 (by decide)).1, (sS.1 0 (by decide)).2.1, (sS.1 0 (by decide)).2.2.1, (sS.1 0 (by decide)).2.2.2⟩
set_option maxHeartbeats 4000000 in
set_option maxRecDepth 100000 in
theorem str_8 {s : State} {b : Nat} (hts : ∀ w ∈ lw_tbl, w.before #[Value.ref b] s = true) (hgv : (Jvm.Cond.and given_1 narrow_1).before #[Value.ref b] s = true) : ∃ ak av : Nat, vk_R RX12 343 ":" ak s ∧ va_O "java/lang/String" ak (fun q : Nat => s.heap.size ≤ q) s s.heap ∧ va_OF "java/lang/String" "coder" "B" (.int 0) ak (fun q : Nat => s.heap.size ≤ q) s s.heap ∧ va_OF "java/lang/String" "value" "[B" (.ref av) ak (fun q : Nat => s.heap.size ≤ q) s s.heap ∧ va_T .byte av ([58] : List Int32).length (fun j => .int (([58] : List Int32).getD j 0)) (fun q : Nat => s.heap.size ≤ q) s s.heap := by
  have hs := flat_of_before _ hgv
  have hA : ∀ a : Nat, a < s.heap.size → ¬ (fun q : Nat => s.heap.size ≤ q) a := fun a h => Nat.not_le.mpr h
  obtain ⟨ak, av, sS, sE⟩ := vk_Sof (args := #[Value.ref b]) (s := s) (N := 1) (tm := fun _ => .string RX12 343) (len := [1]) (byt := [[58]]) (A := fun q : Nat => s.heap.size ≤ q) (fun i hi => by (rcases (show i = 0 by omega) with rfl); decide) (fun i hi => hs (Cond.exactly (.string RX12 343) "java/lang/String") (by decide +kernel)) (fun i hi => hs (Cond.eq (.field (.string RX12 343) "java/lang/String" "coder" "B") (.int 0)) (by decide +kernel)) (fun i hi => hs (Cond.arrayOf (.field (.string RX12 343) "java/lang/String" "value" "[B") .byte) (by decide +kernel)) (fun i hi => by
      rcases (show i = 0 by omega) with rfl
      exact hs (Cond.eq (.length (.field (.string RX12 343) "java/lang/String" "value" "[B")) (.int 1)) (by decide +kernel)) (fun i hi j hj => by
      rcases (show i = 0 by omega) with rfl
      have hj : j < 1 := hj
      rcases (show j = 0 by omega) with rfl
      · exact hs (Cond.eq (.elem (.field (.string RX12 343) "java/lang/String" "value" "[B") (.int 0)) (.int 58)) (by decide +kernel)) (fun i j hi hj hij => absurd (by omega) hij) hA
  exact ⟨ak 0, av 0, vk_R.of (A := #[Value.ref b]) (hts _ (List.mem_of_getElem? (i := 1623) (by decide +kernel))) (sE 0 (by decide)), (sS.1 0 (by decide)).1, (sS.1 0 (by decide)).2.1, (sS.1 0 (by decide)).2.2.1, (sS.1 0 (by decide)).2.2.2⟩
set_option maxHeartbeats 4000000 in
set_option maxRecDepth 100000 in
theorem str_9 {s : State} {b : Nat} (hts : ∀ w ∈ lw_tbl, w.before #[Value.ref b] s = true) (hgv : (Jvm.Cond.and given_1 narrow_1).before #[Value.ref b] s = true) : ∃ ak av : Nat, vk_R RX12 345 "-" ak s ∧ va_O "java/lang/String" ak (fun q : Nat => s.heap.size ≤ q) s s.heap ∧ va_OF "java/lang/String" "coder" "B" (.int 0) ak (fun q : Nat => s.heap.size ≤ q) s s.heap ∧ va_OF "java/lang/String" "value" "[B" (.ref av) ak (fun q : Nat => s.heap.size ≤ q) s s.heap ∧ va_T .byte av ([45] : List Int32).length (fun j => .int (([45] : List Int32).getD j 0)) (fun q : Nat => s.heap.size ≤ q) s s.heap := by
  have hs := flat_of_before _ hgv
  have hA : ∀ a : Nat, a < s.heap.size → ¬ (fun q : Nat => s.heap.size ≤ q) a := fun a h => Nat.not_le.mpr h
  obtain ⟨ak, av, sS, sE⟩ := vk_Sof (args := #[Value.ref b]) (s := s) (N := 1) (tm := fun _ => .string RX12 345) (len := [1]) (byt := [[45]]) (A := fun q : Nat => s.heap.size ≤ q) (fun i hi => by (rcases (show i = 0 by omega) with rfl); decide) (fun i hi => hs (Cond.exactly (.string RX12 345) "java/lang/String") (by decide +kernel)) (fun i hi => hs (Cond.eq (.field (.string RX12 345) "java/lang/String" "coder" "B") (.int 0)) (by decide +kernel)) (fun i hi => hs (Cond.arrayOf (.field (.string RX12 345) "java/lang/String" "value" "[B") .byte) (by decide +kernel)) (fun i hi => by
      rcases (show i = 0 by omega) with rfl
      exact hs (Cond.eq (.length (.field (.string RX12 345) "java/lang/String" "value" "[B")) (.int 1)) (by decide +kernel)) (fun i hi j hj => by
      rcases (show i = 0 by omega) with rfl
      have hj : j < 1 := hj
      rcases (show j = 0 by omega) with rfl
      · exact hs (Cond.eq (.elem (.field (.string RX12 345) "java/lang/String" "value" "[B") (.int 0)) (.int 45)) (by decide +kernel)) (fun i j hi hj hij => absurd (by omega) hij) hA
  exact ⟨ak 0, av 0, vk_R.of (A := #[Value.ref b]) (hts _ (List.mem_of_getElem? (i := 1624) (by decide +kernel))) (sE 0 (by decide)), (sS.1 0 (by decide)).1, (sS.1 0 (by decide)).2.1, (sS.1 0 (by decide)).2.2.1, (sS.1 0 (by decide)).2.2.2⟩
set_option maxHeartbeats 4000000 in
set_option maxRecDepth 100000 in
theorem str_10 {s : State} {b : Nat} (hts : ∀ w ∈ lw_tbl, w.before #[Value.ref b] s = true) (hgv : (Jvm.Cond.and given_1 narrow_1).before #[Value.ref b] s = true) : ∃ ak av : Nat, vk_R RX12 347 "=" ak s ∧ va_O "java/lang/String" ak (fun q : Nat => s.heap.size ≤ q) s s.heap ∧ va_OF "java/lang/String" "coder" "B" (.int 0) ak (fun q : Nat => s.heap.size ≤ q) s s.heap ∧ va_OF "java/lang/String" "value" "[B" (.ref av) ak (fun q : Nat => s.heap.size ≤ q) s s.heap ∧ va_T .byte av ([61] : List Int32).length (fun j => .int (([61] : List Int32).getD j 0)) (fun q : Nat => s.heap.size ≤ q) s s.heap := by
  have hs := flat_of_before _ hgv
  have hA : ∀ a : Nat, a < s.heap.size → ¬ (fun q : Nat => s.heap.size ≤ q) a := fun a h => Nat.not_le.mpr h
  obtain ⟨ak, av, sS, sE⟩ := vk_Sof (args := #[Value.ref b]) (s := s) (N := 1) (tm := fun _ => .string RX12 347) (len := [1]) (byt := [[61]]) (A := fun q : Nat => s.heap.size ≤ q) (fun i hi => by (rcases (show i = 0 by omega) with rfl); decide) (fun i hi => hs (Cond.exactly (.string RX12 347) "java/lang/String") (by decide +kernel)) (fun i hi => hs (Cond.eq (.field (.string RX12 347) "java/lang/String" "coder" "B") (.int 0)) (by decide +kernel)) (fun i hi => hs (Cond.arrayOf (.field (.string RX12 347) "java/lang/String" "value" "[B") .byte) (by decide +kernel)) (fun i hi => by
      rcases (show i = 0 by omega) with rfl
      exact hs (Cond.eq (.length (.field (.string RX12 347) "java/lang/String" "value" "[B")) (.int 1)) (by decide +kernel)) (fun i hi j hj => by
      rcases (show i = 0 by omega) with rfl
      have hj : j < 1 := hj
      rcases (show j = 0 by omega) with rfl
      · exact hs (Cond.eq (.elem (.field (.string RX12 347) "java/lang/String" "value" "[B") (.int 0)) (.int 61)) (by decide +kernel)) (fun i j hi hj hij => absurd (by omega) hij) hA
  exact ⟨ak 0, av 0, vk_R.of (A := #[Value.ref b]) (hts _ (List.mem_of_getElem? (i := 1625) (by decide +kernel))) (sE 0 (by decide)), (sS.1 0 (by decide)).1, (sS.1 0 (by decide)).2.1, (sS.1 0 (by decide)).2.2.1, (sS.1 0 (by decide)).2.2.2⟩
set_option maxHeartbeats 4000000 in
set_option maxRecDepth 100000 in
theorem str_11 {s : State} {b : Nat} (hts : ∀ w ∈ lw_tbl, w.before #[Value.ref b] s = true) (hgv : (Jvm.Cond.and given_1 narrow_1).before #[Value.ref b] s = true) : ∃ ak av : Nat, vk_R RX12 349 ";row " ak s ∧ va_O "java/lang/String" ak (fun q : Nat => s.heap.size ≤ q) s s.heap ∧ va_OF "java/lang/String" "coder" "B" (.int 0) ak (fun q : Nat => s.heap.size ≤ q) s s.heap ∧ va_OF "java/lang/String" "value" "[B" (.ref av) ak (fun q : Nat => s.heap.size ≤ q) s s.heap ∧ va_T .byte av ([59, 114, 111, 119, 32] : List Int32).length (fun j => .int (([59, 114, 111, 119, 32] : List Int32).getD j 0)) (fun q : Nat => s.heap.size ≤ q) s s.heap := by
  have hs := flat_of_before _ hgv
  have hA : ∀ a : Nat, a < s.heap.size → ¬ (fun q : Nat => s.heap.size ≤ q) a := fun a h => Nat.not_le.mpr h
  obtain ⟨ak, av, sS, sE⟩ := vk_Sof (args := #[Value.ref b]) (s := s) (N := 1) (tm := fun _ => .string RX12 349) (len := [5]) (byt := [[59, 114, 111, 119, 32]]) (A := fun q : Nat => s.heap.size ≤ q) (fun i hi => by (rcases (show i = 0 by omega) with rfl); decide) (fun i hi => hs (Cond.exactly (.string RX12 349) "java/lang/String") (by decide +kernel)) (fun i hi => hs (Cond.eq (.field (.string RX12 349) "java/lang/String" "coder" "B") (.int 0)) (by decide +kernel)) (fun i hi => hs (Cond.arrayOf (.field (.string RX12 349) "java/lang/String" "value" "[B") .byte) (by decide +kernel)) (fun i hi => by
      rcases (show i = 0 by omega) with rfl
      exact hs (Cond.eq (.length (.field (.string RX12 349) "java/lang/String" "value" "[B")) (.int 5)) (by decide +kernel)) (fun i hi j hj => by
      rcases (show i = 0 by omega) with rfl
      have hj : j < 5 := hj
      rcases (show j = 0 ∨ j = 1 ∨ j = 2 ∨ j = 3 ∨ j = 4 by omega) with rfl | rfl | rfl | rfl | rfl
      · exact hs (Cond.eq (.elem (.field (.string RX12 349) "java/lang/String" "value" "[B") (.int 0)) (.int 59)) (by decide +kernel)
      · exact hs (Cond.eq (.elem (.field (.string RX12 349) "java/lang/String" "value" "[B") (.int 1)) (.int 114)) (by decide +kernel)
      · exact hs (Cond.eq (.elem (.field (.string RX12 349) "java/lang/String" "value" "[B") (.int 2)) (.int 111)) (by decide +kernel)
      · exact hs (Cond.eq (.elem (.field (.string RX12 349) "java/lang/String" "value" "[B") (.int 3)) (.int 119)) (by decide +kernel)
      · exact hs (Cond.eq (.elem (.field (.string RX12 349) "java/lang/String" "value" "[B") (.int 4)) (.int 32)) (by decide +kernel)) (fun i j hi hj hij => absurd (by omega) hij) hA
  exact ⟨ak 0, av 0, vk_R.of (A := #[Value.ref b]) (hts _ (List.mem_of_getElem? (i := 1626) (by decide +kernel))) (sE 0 (by decide)), (sS.1 0 (by decide)).1, (sS.1 0 (by decide)).2.1, (sS.1 0 (by decide)).2.2.1, (sS.1 0 (by decide)).2.2.2⟩
set_option maxHeartbeats 4000000 in
set_option maxRecDepth 100000 in
theorem str_12 {s : State} {b : Nat} (hts : ∀ w ∈ lw_tbl, w.before #[Value.ref b] s = true) (hgv : (Jvm.Cond.and given_1 narrow_1).before #[Value.ref b] s = true) : ∃ ak av : Nat, vk_R RX12 351 ";" ak s ∧ va_O "java/lang/String" ak (fun q : Nat => s.heap.size ≤ q) s s.heap ∧ va_OF "java/lang/String" "coder" "B" (.int 0) ak (fun q : Nat => s.heap.size ≤ q) s s.heap ∧ va_OF "java/lang/String" "value" "[B" (.ref av) ak (fun q : Nat => s.heap.size ≤ q) s s.heap ∧ va_T .byte av ([59] : List Int32).length (fun j => .int (([59] : List Int32).getD j 0)) (fun q : Nat => s.heap.size ≤ q) s s.heap := by
  have hs := flat_of_before _ hgv
  have hA : ∀ a : Nat, a < s.heap.size → ¬ (fun q : Nat => s.heap.size ≤ q) a := fun a h => Nat.not_le.mpr h
  obtain ⟨ak, av, sS, sE⟩ := vk_Sof (args := #[Value.ref b]) (s := s) (N := 1) (tm := fun _ => .string RX12 351) (len := [1]) (byt := [[59]]) (A := fun q : Nat => s.heap.size ≤ q) (fun i hi => by (rcases (show i = 0 by omega) with rfl); decide) (fun i hi => hs (Cond.exactly (.string RX12 351) "java/lang/String") (by decide +kernel)) (fun i hi => hs (Cond.eq (.field (.string RX12 351) "java/lang/String" "coder" "B") (.int 0)) (by decide +kernel)) (fun i hi => hs (Cond.arrayOf (.field (.string RX12 351) "java/lang/String" "value" "[B") .byte) (by decide +kernel)) (fun i hi => by
      rcases (show i = 0 by omega) with rfl
      exact hs (Cond.eq (.length (.field (.string RX12 351) "java/lang/String" "value" "[B")) (.int 1)) (by decide +kernel)) (fun i hi j hj => by
      rcases (show i = 0 by omega) with rfl
      have hj : j < 1 := hj
      rcases (show j = 0 by omega) with rfl
      · exact hs (Cond.eq (.elem (.field (.string RX12 351) "java/lang/String" "value" "[B") (.int 0)) (.int 59)) (by decide +kernel)) (fun i j hi hj hij => absurd (by omega) hij) hA
  exact ⟨ak 0, av 0, vk_R.of (A := #[Value.ref b]) (hts _ (List.mem_of_getElem? (i := 1627) (by decide +kernel))) (sE 0 (by decide)), (sS.1 0 (by decide)).1, (sS.1 0 (by decide)).2.1, (sS.1 0 (by decide)).2.2.1, (sS.1 0 (by decide)).2.2.2⟩
set_option maxHeartbeats 4000000 in
set_option maxRecDepth 100000 in
theorem str_13 {s : State} {b : Nat} (hts : ∀ w ∈ lw_tbl, w.before #[Value.ref b] s = true) (hgv : (Jvm.Cond.and given_1 narrow_1).before #[Value.ref b] s = true) : ∃ ak av : Nat, vk_R RX12 356 "" ak s ∧ va_O "java/lang/String" ak (fun q : Nat => s.heap.size ≤ q) s s.heap ∧ va_OF "java/lang/String" "coder" "B" (.int 0) ak (fun q : Nat => s.heap.size ≤ q) s s.heap ∧ va_OF "java/lang/String" "value" "[B" (.ref av) ak (fun q : Nat => s.heap.size ≤ q) s s.heap ∧ va_T .byte av ([] : List Int32).length (fun j => .int (([] : List Int32).getD j 0)) (fun q : Nat => s.heap.size ≤ q) s s.heap := by
  have hs := flat_of_before _ hgv
  have hA : ∀ a : Nat, a < s.heap.size → ¬ (fun q : Nat => s.heap.size ≤ q) a := fun a h => Nat.not_le.mpr h
  obtain ⟨ak, av, sS, sE⟩ := vk_Sof (args := #[Value.ref b]) (s := s) (N := 1) (tm := fun _ => .string RX12 356) (len := [0]) (byt := [[]]) (A := fun q : Nat => s.heap.size ≤ q) (fun i hi => by (rcases (show i = 0 by omega) with rfl); decide) (fun i hi => hs (Cond.exactly (.string RX12 356) "java/lang/String") (by decide +kernel)) (fun i hi => hs (Cond.eq (.field (.string RX12 356) "java/lang/String" "coder" "B") (.int 0)) (by decide +kernel)) (fun i hi => hs (Cond.arrayOf (.field (.string RX12 356) "java/lang/String" "value" "[B") .byte) (by decide +kernel)) (fun i hi => by
      rcases (show i = 0 by omega) with rfl
      exact hs (Cond.eq (.length (.field (.string RX12 356) "java/lang/String" "value" "[B")) (.int 0)) (by decide +kernel)) (fun i hi j hj => by
      rcases (show i = 0 by omega) with rfl
      have hj : j < 0 := hj
      exact absurd hj (Nat.not_lt_zero _)) (fun i j hi hj hij => absurd (by omega) hij) hA
  exact ⟨ak 0, av 0, vk_R.of (A := #[Value.ref b]) (hts _ (List.mem_of_getElem? (i := 1628) (by decide +kernel))) (sE 0 (by decide)), (sS.1 0 (by decide)).1, (sS.1 0 (by decide)).2.1, (sS.1 0 (by decide)).2.2.1, (sS.1 0 (by decide)).2.2.2⟩
set_option maxHeartbeats 4000000 in
set_option maxRecDepth 100000 in
theorem str_14 {s : State} {b : Nat} (hts : ∀ w ∈ lw_tbl, w.before #[Value.ref b] s = true) (hgv : (Jvm.Cond.and given_1 narrow_1).before #[Value.ref b] s = true) : ∃ ak av : Nat, vk_R RX12 358 " " ak s ∧ va_O "java/lang/String" ak (fun q : Nat => s.heap.size ≤ q) s s.heap ∧ va_OF "java/lang/String" "coder" "B" (.int 0) ak (fun q : Nat => s.heap.size ≤ q) s s.heap ∧ va_OF "java/lang/String" "value" "[B" (.ref av) ak (fun q : Nat => s.heap.size ≤ q) s s.heap ∧ va_T .byte av ([32] : List Int32).length (fun j => .int (([32] : List Int32).getD j 0)) (fun q : Nat => s.heap.size ≤ q) s s.heap := by
  have hs := flat_of_before _ hgv
  have hA : ∀ a : Nat, a < s.heap.size → ¬ (fun q : Nat => s.heap.size ≤ q) a := fun a h => Nat.not_le.mpr h
  obtain ⟨ak, av, sS, sE⟩ := vk_Sof (args := #[Value.ref b]) (s := s) (N := 1) (tm := fun _ => .string RX12 358) (len := [1]) (byt := [[32]]) (A := fun q : Nat => s.heap.size ≤ q) (fun i hi => by (rcases (show i = 0 by omega) with rfl); decide) (fun i hi => hs (Cond.exactly (.string RX12 358) "java/lang/String") (by decide +kernel)) (fun i hi => hs (Cond.eq (.field (.string RX12 358) "java/lang/String" "coder" "B") (.int 0)) (by decide +kernel)) (fun i hi => hs (Cond.arrayOf (.field (.string RX12 358) "java/lang/String" "value" "[B") .byte) (by decide +kernel)) (fun i hi => by
      rcases (show i = 0 by omega) with rfl
      exact hs (Cond.eq (.length (.field (.string RX12 358) "java/lang/String" "value" "[B")) (.int 1)) (by decide +kernel)) (fun i hi j hj => by
      rcases (show i = 0 by omega) with rfl
      have hj : j < 1 := hj
      rcases (show j = 0 by omega) with rfl
      · exact hs (Cond.eq (.elem (.field (.string RX12 358) "java/lang/String" "value" "[B") (.int 0)) (.int 32)) (by decide +kernel)) (fun i j hi hj hij => absurd (by omega) hij) hA
  exact ⟨ak 0, av 0, vk_R.of (A := #[Value.ref b]) (hts _ (List.mem_of_getElem? (i := 1629) (by decide +kernel))) (sE 0 (by decide)), (sS.1 0 (by decide)).1, (sS.1 0 (by decide)).2.1, (sS.1 0 (by decide)).2.2.1, (sS.1 0 (by decide)).2.2.2⟩
set_option maxHeartbeats 4000000 in
set_option maxRecDepth 100000 in
theorem law_ctx (l : Launch) {s : State} {b L : Nat} {xs : Nat → Int32} (hts : ∀ w ∈ lw_tbl, w.before #[Value.ref b] s = true) (hX : va_X b L xs s s.heap) (hbl : b < s.heap.size) (hgv : (Jvm.Cond.and given_1 narrow_1).before #[Value.ref b] s = true) : ∃ (D : va_G) (arr : Nat → ClassId) (str : Nat → Nat), str 200 = b ∧ xK (l, D, arr, s.heap.size, s.heap, str, L, xs) s := by
  have hw : ∀ w ∈ xWall, w.before #[Value.ref b] s = true := fun w h => hts w (List.mem_filter.mp h).1
  have hs := flat_of_before _ hgv
  have hA : ∀ a : Nat, a < s.heap.size → ¬ (fun q : Nat => s.heap.size ≤ q) a := fun a h => Nat.not_le.mpr h
  obtain ⟨c0, i0, hk0⟩ := u_known (C := RX0) (T := TX0) (N := 4) (n := 4) hw ok_0.1 (hw _ w_200)
  obtain ⟨c1, i1, hk1⟩ := u_known (C := RX1) (T := TX1) (N := 2) (n := 2) hw ok_1.1 (hw _ w_31)
  obtain ⟨c2, i2, hk2⟩ := u_known (C := RX2) (T := TX2) (N := 5) (n := 5) hw ok_2.1 (hw _ w_138)
  obtain ⟨c3, i3, hk3⟩ := u_known (C := RX3) (T := TX3) (N := 2) (n := 2) hw ok_3.1 (hw _ w_129)
  obtain ⟨c4, i4, hk4⟩ := u_known (C := RX4) (T := TX4) (N := 4) (n := 4) hw ok_4.1 (hw _ w_221)
  obtain ⟨c5, i5, hk5⟩ := u_known (C := RX5) (T := TX5) (N := 5) (n := 5) hw ok_5.1 (hw _ w_56)
  obtain ⟨c6, i6, hk6⟩ := u_known (C := RX7) (T := TX7) (N := 8) (n := 8) hw ok_6.1 (hw _ w_50)
  obtain ⟨c7, i7, hk7⟩ := u_known (C := RX9) (T := TX9) (N := 5) (n := 5) hw ok_7.1 (hw _ w_178)
  obtain ⟨c8, i8, hk8⟩ := u_known (C := RX11) (T := TX11) (N := 10) (n := 10) hw ok_8.1 (hw _ w_23)
  obtain ⟨c9, i9, hk9⟩ := u_known (C := RX12) (T := TX12) (N := 26) (n := 26) hw ok_9.1 (hw _ w_1003)
  obtain ⟨cI, kI, pI, fI, gI, eI⟩ := Cond.arrayClass_spec (hw _ w_95)
  obtain ⟨cB, kB, pB, fB, gB, eB⟩ := Cond.arrayClass_spec (hw _ w_48)
  have ha2 : (Cond.arrayOver (.object RX5)).before #[Value.ref b] s = true := hts _ (List.mem_of_getElem? (i := 219) (by decide +kernel))
  obtain ⟨p2, q2, k2, f2, -, g2, e2, n2⟩ := Cond.arrayOver_spec ha2
  have ha3 : (Cond.arrayOver (.object RX3)).before #[Value.ref b] s = true := hts _ (List.mem_of_getElem? (i := 221) (by decide +kernel))
  obtain ⟨p3, q3, k3, f3, -, g3, e3, n3⟩ := Cond.arrayOver_spec ha3
  have ha4 : (Cond.arrayOver (.object RX2)).before #[Value.ref b] s = true := hts _ (List.mem_of_getElem? (i := 229) (by decide +kernel))
  obtain ⟨p4, q4, k4, f4, -, g4, e4, n4⟩ := Cond.arrayOver_spec ha4
  obtain ⟨ak0, av0, sS0⟩ := str_0 hts hgv
  obtain ⟨ak1, av1, sS1⟩ := str_1 hts hgv
  obtain ⟨ak2, av2, sS2⟩ := str_2 hts hgv
  obtain ⟨ak3, av3, sS3⟩ := str_3 hts hgv
  obtain ⟨ak4, av4, sS4⟩ := str_4 hts hgv
  obtain ⟨ak5, av5, sS5⟩ := str_5 hts hgv
  obtain ⟨ak6, av6, sS6⟩ := str_6 hts hgv
  obtain ⟨ak7, av7, sS7⟩ := str_7 hts hgv
  obtain ⟨ak8, av8, sS8⟩ := str_8 hts hgv
  obtain ⟨ak9, av9, sS9⟩ := str_9 hts hgv
  obtain ⟨ak10, av10, sS10⟩ := str_10 hts hgv
  obtain ⟨ak11, av11, sS11⟩ := str_11 hts hgv
  obtain ⟨ak12, av12, sS12⟩ := str_12 hts hgv
  obtain ⟨ak13, av13, sS13⟩ := str_13 hts hgv
  obtain ⟨ak14, av14, sS14⟩ := str_14 hts hgv
  have hZ := va_Zof (args := #[Value.ref b]) (C := "java/lang/String") (n := "COMPACT_STRINGS") (d := "Z") (v := .int 1) (A := fun q : Nat => s.heap.size ≤ q) (hts _ (List.mem_of_getElem? (i := 431) (by decide +kernel))) (hts (Cond.initialized "java/lang/String") (List.mem_of_getElem? (i := 106) (by decide +kernel))) (va_eqi (hs (Cond.eq (.static "java/lang/String" "COMPACT_STRINGS" "Z") (.int 1)) (by decide +kernel))) hA
  have hF := va_Zqof (args := #[Value.ref b]) (C := "jdk/internal/util/Preconditions") (n := "SIOOBE_FORMATTER") (d := "Ljava/util/function/BiFunction;") (A := fun q : Nat => s.heap.size ≤ q) (hts _ (List.mem_of_getElem? (i := 447) (by decide +kernel))) (hts (Cond.initialized "jdk/internal/util/Preconditions") (List.mem_of_getElem? (i := 108) (by decide +kernel))) (hs (Cond.isRef (.static "jdk/internal/util/Preconditions" "SIOOBE_FORMATTER" "Ljava/util/function/BiFunction;")) (by decide +kernel)) hA
  obtain ⟨tF, hF⟩ : ∃ tF : Nat, va_Z "jdk/internal/util/Preconditions" "SIOOBE_FORMATTER" "Ljava/util/function/BiFunction;" .null (fun q : Nat => s.heap.size ≤ q) s s.heap ∨ va_Z "jdk/internal/util/Preconditions" "SIOOBE_FORMATTER" "Ljava/util/function/BiFunction;" (.ref tF) (fun q : Nat => s.heap.size ≤ q) s s.heap := by
    rcases hF with hF | ⟨t, hF⟩
    · exact ⟨0, Or.inl hF⟩
    · exact ⟨t, Or.inr hF⟩
  refine ⟨(fun k => match k with | 0 => c0 | 1 => c1 | 2 => c2 | 3 => c3 | 4 => c4 | 5 => c5 | 6 => c6 | 7 => c7 | 8 => c8 | _ => c9, fun k => match k with | 0 => i0 | 1 => i1 | 2 => i2 | 3 => i3 | 4 => i4 | 5 => i5 | 6 => i6 | 7 => i7 | 8 => i8 | _ => i9), (fun t => match t with | 0 => cI | 1 => cB | 2 => q2 | 3 => q3 | _ => q4), (fun j => if j = 200 then b else if j = 201 then tF else if j = 0 then ak0 else if j = 1 then ak1 else if j = 2 then ak2 else if j = 3 then ak3 else if j = 4 then ak4 else if j = 5 then ak5 else if j = 6 then ak6 else if j = 7 then ak7 else if j = 8 then ak8 else if j = 9 then ak9 else if j = 10 then ak10 else if j = 11 then ak11 else if j = 12 then ak12 else if j = 13 then ak13 else if j = 14 then ak14 else if j = 100 then av0 else if j = 101 then av1 else if j = 102 then av2 else if j = 103 then av3 else if j = 104 then av4 else if j = 105 then av5 else if j = 106 then av6 else if j = 107 then av7 else if j = 108 then av8 else if j = 109 then av9 else if j = 110 then av10 else if j = 111 then av11 else if j = 112 then av12 else if j = 113 then av13 else if j = 114 then av14 else 0), rfl, ⟨fun k q hq => ?_, fun k q hq => ?_⟩, fun w hwn => ?_, fun C hC => ?_, ⟨fun q hq => ?_, ⟨hZ, hF⟩, hX, hbl⟩⟩
  · match k, hq with
    | 0, hq => cases hq; exact hk0
    | 1, hq => cases hq; exact hk1
    | 2, hq => cases hq; exact hk2
    | 3, hq => cases hq; exact hk3
    | 4, hq => cases hq; exact hk4
    | 5, hq => cases hq; exact hk5
    | 6, hq => cases hq; exact hk6
    | 7, hq => cases hq; exact hk7
    | 8, hq => cases hq; exact hk8
    | 9, hq => cases hq; exact hk9
    | k + 10, hq => exact absurd hq (by simp [xcls])
  · match k, hq with
    | 0, hq => cases hq; exact ⟨fun n z => ⟨(fun k h => by cases h), kI, gI, pI, eI⟩, fI⟩
    | 1, hq => cases hq; exact ⟨fun n z => ⟨(fun k h => by cases h), kB, gB, pB, eB⟩, fB⟩
    | 2, hq => cases hq; exact ⟨fun n z => ⟨(fun k h => by cases h), k2, g2, p2, e2⟩, k2, p2, g2, e2, f2, n2⟩
    | 3, hq => cases hq; exact ⟨fun n z => ⟨(fun k h => by cases h), k3, g3, p3, e3⟩, k3, p3, g3, e3, f3, n3⟩
    | 4, hq => cases hq; exact ⟨fun n z => ⟨(fun k h => by cases h), k4, g4, p4, e4⟩, k4, p4, g4, e4, f4, n4⟩
    | k + 5, hq => exact absurd hq (by simp [xtys])
  · have h1 : w.onTables = true := by
      have := (List.mem_filter.mp hwn).2
      cases w <;> first | rfl | cases this
    exact va_Nw.of h1 (hts w (List.mem_filter.mp hwn).1)
  · rcases List.mem_cons.mp hC with rfl | hC
    · exact va_AO.of ha2
    rcases List.mem_cons.mp hC with rfl | hC
    · exact va_AO.of ha3
    rcases List.mem_cons.mp hC with rfl | hC
    · exact va_AO.of ha4
    cases hC
  · rcases List.mem_cons.mp hq with rfl | hq
    · exact sS0
    rcases List.mem_cons.mp hq with rfl | hq
    · exact sS1
    rcases List.mem_cons.mp hq with rfl | hq
    · exact sS2
    rcases List.mem_cons.mp hq with rfl | hq
    · exact sS3
    rcases List.mem_cons.mp hq with rfl | hq
    · exact sS4
    rcases List.mem_cons.mp hq with rfl | hq
    · exact sS5
    rcases List.mem_cons.mp hq with rfl | hq
    · exact sS6
    rcases List.mem_cons.mp hq with rfl | hq
    · exact sS7
    rcases List.mem_cons.mp hq with rfl | hq
    · exact sS8
    rcases List.mem_cons.mp hq with rfl | hq
    · exact sS9
    rcases List.mem_cons.mp hq with rfl | hq
    · exact sS10
    rcases List.mem_cons.mp hq with rfl | hq
    · exact sS11
    rcases List.mem_cons.mp hq with rfl | hq
    · exact sS12
    rcases List.mem_cons.mp hq with rfl | hq
    · exact sS13
    rcases List.mem_cons.mp hq with rfl | hq
    · exact sS14
    cases hq
set_option maxHeartbeats 4000000 in
set_option maxRecDepth 100000 in
theorem whole_start {p : Program} {e : Env} {s : State} {m : MethodId} {below : List Frame} {meth : Method} {c : Code} (l : Launch) (hflags : l.flags = flags0) {b L : Nat} {xs : Nat → Int32} (hL : L ≤ 3072) (C0 : lw_At p s m meth c b L xs) : W p l e room_1 s m #[Value.ref b] below meth c s.heap [] 0 0 (lw_Z below #[Value.ref b] s) (entryFrame m ([Value.ref b] : List Value).toArray 4) := by
  obtain ⟨hx, hb, hr, hml, hown, hts, hX, hbl, hlocks, hgv⟩ := C0
  obtain ⟨D, arr, str, h200, hK⟩ := law_ctx l hts hX hbl hgv
  have hw : ∀ w ∈ xWall, w.before #[Value.ref b] s = true := fun w h => hts w (List.mem_filter.mp h).1
  have hle := lv_entry ([Value.ref b]) (n := 4) (Nat.le_of_ble_eq_true rfl)
  rw [lg_entry_eq]
  have hxl : lv_args 0 [Value.ref b] = xcl (l, D, arr, s.heap.size, s.heap, str, L, xs) [(0, .float 200)] := by
    show [(0, Value.ref b)] = [(0, Value.ref (str 200))]
    rw [h200]
  rw [hxl] at hle
  have h := law_start (nm := meth.name) (l, D, arr, s.heap.size, s.heap, str, L, xs) hL p e s m #[Value.ref b] below meth c s.heap [] _ ⟨hx, hb, hml, hr, hown, hw, hlocks, rfl, hK⟩ ⟨rfl, fun i c h => by simp at h, fun q _ => rfl⟩ (fun q hq => by cases hq) hle
  intro T hT X
  obtain ⟨t, a1, b1⟩ := h T hT X
  exact ⟨t, a1, b1 rfl⟩
set_option maxHeartbeats 4000000 in
theorem lw_walk (l : Launch) (hflags : l.flags = flags0) (b : Addr) (xs : List Int32) : MetFree l x (headSpec (Jvm.Cond.code x code maxLocals ret :: tables_1) room_1) (lw_P b xs) (fun _ _ _ _ _ => True) lw_Q := by
  refine MetFree.of_bodyS (code := code) (maxLocals := maxLocals) (ret := ret) (by decide) ?_ ?_
  · intro args s m h hn
    obtain ⟨meth, c, h1, h2, h3, h4, h5, h6, -, -⟩ := Cond.code_spec hn (atoms_spec (ws := Jvm.Cond.code x code maxLocals ret :: tables_1) h _ List.mem_cons_self)
    exact ⟨meth, c, h1, h2, h3, h4, h5, h6⟩
  · intro p e s m args below meth c s₁ B hml0 hP _
    obtain ⟨rfl, hx, hbd, hgv⟩ := hP
    obtain ⟨scr, harrAt, hlist, hof, hsmall⟩ := hx
    obtain ⟨hcb, hkn, -, -⟩ := State.arrayAt?_spec harrAt
    have hown : s.vm.findClass R_law = some m.cls := findClass_of_methodNamed B.named
    have hts0 : ∀ c ∈ (Jvm.Cond.code x code maxLocals ret :: tables_1), c.before #[Value.ref b] s = true := atoms_spec (ws := Jvm.Cond.code x code maxLocals ret :: tables_1) B.pre
    have hts : ∀ w ∈ lw_tbl, w.before #[Value.ref b] s = true := k2_hts_sels lw_privs (fun w hw => hts0 w (List.mem_cons_of_mem _ hw)) lw_privs_ok
    have hml : c.maxLocals = 4 := B.maxLocals_eq (hts0 _ List.mem_cons_self)
    have X₀ : Stand p l e room_1 s m #[Value.ref b] below meth c s₁ [] 0 0 := Stand.of_body B
    have hh0 : s₁.heap = s.heap := by rw [B.state]; rfl
    have hsz : scr.slots.size = xs.length := by rw [← Array.length_toList, hlist, List.length_map]
    have hval : ∀ j : Nat, j < xs.length → scr.slots[j]? = some (.int (xs.getD j 0)) := fun j hj => by
      rw [← Array.getElem?_toList, hlist]
      simp [hj]
    have hbl : b < s.heap.size := (Array.getElem?_eq_some_iff.mp hcb).1
    have hX : va_X b xs.length (fun j => xs.getD j 0) s s.heap := ⟨scr, hcb, hof, hkn, hsz, hval⟩
    have K : W p l e room_1 s m #[Value.ref b] below meth c s₁.heap [] 0 0 (lw_Z below #[Value.ref b] s) (entryFrame m ([Value.ref b] : List Value).toArray 4) := by
      rw [hh0]
      exact whole_start l hflags hbd ⟨B.exec, B.bytes, B.returns, hml, hown, hts, hX, hbl, B.notSynchronized, hgv⟩
    obtain ⟨t, a1, o, b1, b2, b3⟩ := K s₁ rfl X₀
    exact ⟨t, o, a1, b1, b2, b3⟩
theorem lw_pre_spec {args : Array Value} {s : State} (h : (Jvm.Cond.and given_1 narrow_1).before args s = true) (hr : rest_1_c.before args s = true) : ∃ (b : Addr) (xs : List Int32), lw_P b xs args s := by
  have hs := flat_of_before _ h
  have hq := flat_of_before _ hr
  have hc : (Cond.count 1).before args s = true := hs _ (by decide +kernel)
  have harr : (Cond.arrayOf (.arg 0) .int).before args s = true := hs _ (by decide +kernel)
  have hle : (Cond.le (.length (.arg 0)) (.int 3072)).before args s = true := hs _ (by decide +kernel)
  have hlen : (Cond.isInt (.length (.arg 0))).before args s = true := hq _ (by decide +kernel)
  have hall : (Cond.all (.arg 0) (.isInt (.elem (.arg 0) (.index 0)))).before args s = true := hq _ (by decide +kernel)
  obtain ⟨b, xs, hb, hx⟩ := State.ints_of_pre rfl harr hlen hall
  have hsm : xs.length < 2 ^ 31 := hx.choose_spec.2.2.2
  have hev : (Term.length (.arg 0)).eval args s none [] s = some (.int xs.length.toInt32) := hx.length_eval hb
  have hv := Cond.le_ints hev (show (Term.int 3072).eval args s none [] s = some (.int 3072) from rfl)
  have hd : xs.length.toInt32 ≤ 3072 := by
    simpa [Cond.before, Cond.holds, hv] using hle
  have hN : xs.length ≤ 3072 := (Int32.ofNat_le_ofNat hsm (by decide)).mp (show Int32.ofNat xs.length ≤ Int32.ofNat 3072 from hd)
  exact ⟨b, xs, Cond.one_arg hc (show args[0]? = some (.ref b) from hb), hx, hN, h⟩
theorem lw_comes (l : Launch) (hflags : l.flags = flags0) : Comes l x (Jvm.Cond.code x code maxLocals ret :: tables_1) room_1 (fun tb e args s => Calls_1 tb e args s ∧ rest_1 tb e args s ∧ Pre_1 tb e args s)
    (fun _ _ args s o t => lw_Q args s o t) := by
  intro p e ha hc hk s m args below hf hfit hheap happ hpre
  obtain ⟨b, xs, hP⟩ := lw_pre_spec hpre.2.2 hpre.2.1
  obtain ⟨k, o, h1, h2, h3, hQ⟩ := lw_walk l hflags b xs p e ha hc hk s m args below hf ((Spec.applies_iff_loose hf).mp happ).1 hP trivial
  exact ⟨k, o, h1, h2, h3, hQ⟩
theorem lw_frame {s t : State} {o : Outcome} {args : Array Value} (h : Framed s o t [] 600000 7302250) :
    Framed s o t (fieldLocs frame_1_writes args s ++ arrayLocs frame_1_arrays args s ++ staticLocs frame_1_statics s) 600000 7302250 := h
theorem lw_limb (L : Cond) (hL : ∀ (args : Array Value) (s t : State), L.after args s (.returned (some (.int 1))) t = true) :
    ArmFor flags0 classFile x code maxLocals ret World_1 tables_1 room_1 Calls_1 rest_1 Pre_1
      (fun tb e a s o t => postC L tb e a s o t ∧ Framed s o t (fieldLocs frame_1_writes a s ++ arrayLocs frame_1_arrays a s ++ staticLocs frame_1_statics s) 600000 7302250) := by
  intro l hflags _ _ p e ha hc hk s m args below hf hfit hheap happ hpre
  obtain ⟨k, o, h1, h2, h3, rfl, hF⟩ := lw_comes l hflags p e ha hc hk s m args below hf hfit hheap happ hpre
  exact ⟨k, _, h1, h2, h3, hL args s _, lw_frame hF⟩
theorem i_vc : Claimed_1_1 ∧ Claimed_1_2 := ⟨lw_limb limb_1_1 (fun args s t => by simp [limb_1_1, Cond.after, Cond.holds, Cond.value]), lw_limb limb_1_2 (fun args s t => Cond.after_iff.mpr (by
  first | (rw [show limb_1_2 = Cond.eq .result (.int 1) from rfl, Cond.eq_ints (x := 1) (y := 1) rfl rfl]; simp; done) | (simp [limb_1_2, Cond.value, Term.eval]; done)))⟩

