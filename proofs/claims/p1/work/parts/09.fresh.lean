/-! the memory behind both constructors: what is written in it are parameters -/
def MX (n : Int32) (f : Nat → Int32) (rd mo : va_E) (g w t : Nat → Int32) : xMem := [.inr (8, [.ref 1, .ref 3, .ref 5, .ref 10, .ref 11, .ref 84, .ref 90, .ref 98, .ref 141, .ref 145]), .inr (1, [.ref 2, .int n]), .inl (1, 400, .inl f), .inr (1, [.ref 4, .int 0]), xzb 256, rd, .inr (5, [.int 0, .int 0, .ref 7, .ref 8, .ref 9]), xz 9, xz 9, xz 81, .inl (2, 3, .inr (.inr (.inr (.inr (va_up (va_up (va_up (fun _ => none) 0 (some 12)) 1 (some 36)) 2 (some 60)))))), .inl (3, 3, .inr (.inr (.inr (.inr (va_up (va_up (va_up (fun _ => none) 0 (some 16)) 1 (some 40)) 2 (some 64)))))), .inr (5, [.int 0, .int 0, .ref 13, .ref 14, .ref 15]), xz 9, xz 9, xz 81, .inr (3, [.ref 17, .ref 18]), .inl (4, 7, .inr (.inr (.inr (.inr (va_up (va_up (va_up (va_up (va_up (va_up (va_up (fun _ => none) 0 (some 22)) 1 (some 24)) 2 (some 26)) 3 (some 28)) 4 (some 30)) 5 (some 32)) 6 (some 34)))))), .inr (5, [.int 0, .int 0, .ref 19, .ref 20, .ref 21]), xz 9, xz 9, xz 81, .inr (2, [.int 0, .int 0, .int 0, .int 0, .ref 23]), xz 9, .inr (2, [.int 0, .int 0, .int 0, .int 0, .ref 25]), xz 9, .inr (2, [.int 0, .int 0, .int 0, .int 0, .ref 27]), xz 9, .inr (2, [.int 0, .int 0, .int 0, .int 0, .ref 29]), xz 9, .inr (2, [.int 0, .int 0, .int 0, .int 0, .ref 31]), xz 9, .inr (2, [.int 0, .int 0, .int 0, .int 0, .ref 33]), xz 9, .inr (2, [.int 0, .int 0, .int 0, .int 0, .ref 35]), xz 9, .inr (5, [.int 0, .int 0, .ref 37, .ref 38, .ref 39]), xz 9, xz 9, xz 81, .inr (3, [.ref 41, .ref 42]), .inl (4, 7, .inr (.inr (.inr (.inr (va_up (va_up (va_up (va_up (va_up (va_up (va_up (fun _ => none) 0 (some 46)) 1 (some 48)) 2 (some 50)) 3 (some 52)) 4 (some 54)) 5 (some 56)) 6 (some 58)))))), .inr (5, [.int 0, .int 0, .ref 43, .ref 44, .ref 45]), xz 9, xz 9, xz 81, .inr (2, [.int 0, .int 0, .int 0, .int 0, .ref 47]), xz 9, .inr (2, [.int 0, .int 0, .int 0, .int 0, .ref 49]), xz 9, .inr (2, [.int 0, .int 0, .int 0, .int 0, .ref 51]), xz 9, .inr (2, [.int 0, .int 0, .int 0, .int 0, .ref 53]), xz 9, .inr (2, [.int 0, .int 0, .int 0, .int 0, .ref 55]), xz 9, .inr (2, [.int 0, .int 0, .int 0, .int 0, .ref 57]), xz 9, .inr (2, [.int 0, .int 0, .int 0, .int 0, .ref 59]), xz 9, .inr (5, [.int 0, .int 0, .ref 61, .ref 62, .ref 63]), xz 9, xz 9, xz 81, .inr (3, [.ref 65, .ref 66]), .inl (4, 7, .inr (.inr (.inr (.inr (va_up (va_up (va_up (va_up (va_up (va_up (va_up (fun _ => none) 0 (some 70)) 1 (some 72)) 2 (some 74)) 3 (some 76)) 4 (some 78)) 5 (some 80)) 6 (some 82)))))), .inr (5, [.int 0, .int 0, .ref 67, .ref 68, .ref 69]), xz 9, xz 9, xz 81, .inr (2, [.int 0, .int 0, .int 0, .int 0, .ref 71]), xz 9, .inr (2, [.int 0, .int 0, .int 0, .int 0, .ref 73]), xz 9, .inr (2, [.int 0, .int 0, .int 0, .int 0, .ref 75]), xz 9, .inr (2, [.int 0, .int 0, .int 0, .int 0, .ref 77]), xz 9, .inr (2, [.int 0, .int 0, .int 0, .int 0, .ref 79]), xz 9, .inr (2, [.int 0, .int 0, .int 0, .int 0, .ref 81]), xz 9, .inr (2, [.int 0, .int 0, .int 0, .int 0, .ref 83]), xz 9, .inr (7, [.ref 85, .ref 86, .ref 87, .ref 88, .ref 89]), xz 4608, xz 4608, xz 4608, xz 512, xz 512, .inr (0, [.ref 91, .ref 95, .ref 96, .ref 97]), .inr (5, [.int 0, .int 0, .ref 92, .ref 93, .ref 94]), xz 9, xz 9, xz 81, xz 9, xz 4096, xz 4096, .inr (4, [.int 0, .int 0, .ref 99, .ref 100]), xz 10, .inl (2, 10, .inr (.inr (.inr (.inr (va_up (va_up (va_up (va_up (va_up (va_up (va_up (va_up (va_up (va_up (fun _ => none) 0 (some 101)) 1 (some 105)) 2 (some 109)) 3 (some 113)) 4 (some 117)) 5 (some 121)) 6 (some 125)) 7 (some 129)) 8 (some 133)) 9 (some 137)))))), .inr (5, [.int 0, .int 0, .ref 102, .ref 103, .ref 104]), xz 9, xz 9, xz 81, .inr (5, [.int 0, .int 0, .ref 106, .ref 107, .ref 108]), xz 9, xz 9, xz 81, .inr (5, [.int 0, .int 0, .ref 110, .ref 111, .ref 112]), xz 9, xz 9, xz 81, .inr (5, [.int 0, .int 0, .ref 114, .ref 115, .ref 116]), xz 9, xz 9, xz 81, .inr (5, [.int 0, .int 0, .ref 118, .ref 119, .ref 120]), xz 9, xz 9, xz 81, .inr (5, [.int 0, .int 0, .ref 122, .ref 123, .ref 124]), xz 9, xz 9, xz 81, .inr (5, [.int 0, .int 0, .ref 126, .ref 127, .ref 128]), xz 9, xz 9, xz 81, .inr (5, [.int 0, .int 0, .ref 130, .ref 131, .ref 132]), xz 9, xz 9, xz 81, .inr (5, [.int 0, .int 0, .ref 134, .ref 135, .ref 136]), xz 9, xz 9, xz 81, .inr (5, [.int 0, .int 0, .ref 138, .ref 139, .ref 140]), xz 9, xz 9, xz 81, .inr (5, [.int 0, .int 0, .ref 142, .ref 143, .ref 144]), xz 9, xz 9, xz 81, .inr (5, [.int 0, .int 0, .ref 146, .ref 147, .ref 148]), xz 9, xz 9, xz 81, mo, .inl (0, 273, .inl g), .inl (0, 273, .inl w), xz 2730, .inl (0, 400, .inl t), xz 9, xz 512, xz 512, xz 4608, xz 9, xz 9, xz 9, xz 81, xz 400]
abbrev rd0 : va_E := .inr (6, [.ref 6, .int 0, .int (-1), .ref 1, .int 0, .int 0, .int 0, .int 0])
abbrev mo0 : va_E := .inr (9, [.ref 150, .ref 151, .ref 152, .int 0, .ref 153, .int 0, .int 0, .int (-1), .int 0, .int 0, .int 0, .int 0, .int 0, .ref 154, .ref 155, .ref 156, .ref 157, .int 0, .int 0, .int 0, .ref 158, .ref 159, .ref 160, .ref 161, .ref 162, .int 0])
abbrev M0 : xMem := (MX 0 (fun _ => 0) rd0 mo0 (fun _ => 0) (fun _ => 0) (fun _ => 0))
theorem sl4 (x : Int32) : x = 0 ∨ x = 1 ∨ x = 2 ∨ (x < 0 ∨ 3 ≤ x) := by
  by_cases h : x < 0
  · exact Or.inr (Or.inr (Or.inr (Or.inl h)))
  · by_cases h2 : 3 ≤ x
    · exact Or.inr (Or.inr (Or.inr (Or.inr h2)))
    · obtain ⟨j, hj, rfl⟩ := nI_of h
      have h3 : j < 3 := Nat.lt_of_not_le fun q => h2 (show nI 3 ≤ nI j from nI_le q hj)
      rcases (show j = 0 ∨ j = 1 ∨ j = 2 by omega) with rfl | rfl | rfl
      · exact Or.inl rfl
      · exact Or.inr (Or.inl rfl)
      · exact Or.inr (Or.inr (Or.inl rfl))
theorem sl5 (x : Int32) : x = 0 ∨ x = 1 ∨ x = 2 ∨ x = 3 ∨ (x.toInt < 0 ∨ 3 < x.toInt) := by
  by_cases h : x < 0
  · exact Or.inr (Or.inr (Or.inr (Or.inr (Or.inl (by rw [Int32.lt_iff_toInt_lt] at h; exact h)))))
  · obtain ⟨j, hj, rfl⟩ := nI_of h
    by_cases h2 : 3 < j
    · exact Or.inr (Or.inr (Or.inr (Or.inr (Or.inr (by rw [nI_toInt hj]; omega)))))
    · rcases (show j = 0 ∨ j = 1 ∨ j = 2 ∨ j = 3 by omega) with rfl | rfl | rfl | rfl
      · exact Or.inl rfl
      · exact Or.inr (Or.inl rfl)
      · exact Or.inr (Or.inr (Or.inl rfl))
      · exact Or.inr (Or.inr (Or.inr (Or.inl rfl)))
set_option maxHeartbeats 4000000 in
set_option maxRecDepth 100000 in
theorem fx_isSlot_0 (G : xG) : xC G mX11_isSlot 0 0 0 [.int 0] (MX 0 (fun _ => 0) rd0 mo0 (fun _ => 0) (fun _ => 0) (fun _ => 0)) (fun v M2 => v = some (.int 1) ∧ M2 = (MX 0 (fun _ => 0) rd0 mo0 (fun _ => 0) (fun _ => 0) (fun _ => 0))) := by
  refine xC.of (by decide) (Nat.le_of_ble_eq_true rfl) ?_
  show xW _ _ _ _ 0 [(0, .int 0)] [] _ 0 0
  refine xi_iload_n 0 dX11_isSlot_0 rfl ?_
  refine xi_if_lt_f (tgt := 13) dX11_isSlot_1 (by decide) (by decide) ?_
  refine xi_iload_n 0 dX11_isSlot_4 rfl ?_
  refine xi_iconst (v := 3) dX11_isSlot_5 (by decide) ?_
  refine xi_icmp_ge_f (tgt := 13) dX11_isSlot_6 (by decide) (by decide) ?_
  refine xi_iconst (v := 1) dX11_isSlot_9 (by decide) ?_
  refine xi_goto (tgt := 14) dX11_isSlot_10 (by decide) ?_
  exact xi_iret dX11_isSlot_14 rfl (by decide) (Nat.le_of_ble_eq_true rfl) (Nat.le_of_ble_eq_true rfl) ⟨rfl, rfl⟩
set_option maxHeartbeats 4000000 in
set_option maxRecDepth 100000 in
theorem fx_isSlot_1 (G : xG) : xC G mX11_isSlot 0 0 0 [.int 1] (MX 0 (fun _ => 0) rd0 mo0 (fun _ => 0) (fun _ => 0) (fun _ => 0)) (fun v M2 => v = some (.int 1) ∧ M2 = (MX 0 (fun _ => 0) rd0 mo0 (fun _ => 0) (fun _ => 0) (fun _ => 0))) := by
  refine xC.of (by decide) (Nat.le_of_ble_eq_true rfl) ?_
  show xW _ _ _ _ 0 [(0, .int 1)] [] _ 0 0
  refine xi_iload_n 0 dX11_isSlot_0 rfl ?_
  refine xi_if_lt_f (tgt := 13) dX11_isSlot_1 (by decide) (by decide) ?_
  refine xi_iload_n 0 dX11_isSlot_4 rfl ?_
  refine xi_iconst (v := 3) dX11_isSlot_5 (by decide) ?_
  refine xi_icmp_ge_f (tgt := 13) dX11_isSlot_6 (by decide) (by decide) ?_
  refine xi_iconst (v := 1) dX11_isSlot_9 (by decide) ?_
  refine xi_goto (tgt := 14) dX11_isSlot_10 (by decide) ?_
  exact xi_iret dX11_isSlot_14 rfl (by decide) (Nat.le_of_ble_eq_true rfl) (Nat.le_of_ble_eq_true rfl) ⟨rfl, rfl⟩
set_option maxHeartbeats 4000000 in
set_option maxRecDepth 100000 in
theorem fx_isSlot_2 (G : xG) : xC G mX11_isSlot 0 0 0 [.int 2] (MX 0 (fun _ => 0) rd0 mo0 (fun _ => 0) (fun _ => 0) (fun _ => 0)) (fun v M2 => v = some (.int 1) ∧ M2 = (MX 0 (fun _ => 0) rd0 mo0 (fun _ => 0) (fun _ => 0) (fun _ => 0))) := by
  refine xC.of (by decide) (Nat.le_of_ble_eq_true rfl) ?_
  show xW _ _ _ _ 0 [(0, .int 2)] [] _ 0 0
  refine xi_iload_n 0 dX11_isSlot_0 rfl ?_
  refine xi_if_lt_f (tgt := 13) dX11_isSlot_1 (by decide) (by decide) ?_
  refine xi_iload_n 0 dX11_isSlot_4 rfl ?_
  refine xi_iconst (v := 3) dX11_isSlot_5 (by decide) ?_
  refine xi_icmp_ge_f (tgt := 13) dX11_isSlot_6 (by decide) (by decide) ?_
  refine xi_iconst (v := 1) dX11_isSlot_9 (by decide) ?_
  refine xi_goto (tgt := 14) dX11_isSlot_10 (by decide) ?_
  exact xi_iret dX11_isSlot_14 rfl (by decide) (Nat.le_of_ble_eq_true rfl) (Nat.le_of_ble_eq_true rfl) ⟨rfl, rfl⟩
set_option maxHeartbeats 4000000 in
set_option maxRecDepth 100000 in
theorem fx_isSlot_out (G : xG) (a1 : Int32) (h : a1 < 0 ∨ 3 ≤ a1) : xC G mX11_isSlot 0 0 0 [.int a1] (MX 0 (fun _ => 0) rd0 mo0 (fun _ => 0) (fun _ => 0) (fun _ => 0)) (fun v M2 => v = some (.int 0) ∧ M2 = (MX 0 (fun _ => 0) rd0 mo0 (fun _ => 0) (fun _ => 0) (fun _ => 0))) := by
  refine xC.of (by decide) (Nat.le_of_ble_eq_true rfl) ?_
  show xW _ _ _ _ 0 [(0, .int a1)] [] _ 0 0
  refine xi_iload_n 0 dX11_isSlot_0 rfl ?_
  refine xi_if_lt (tgt := 13) dX11_isSlot_1 (by decide) (fun c1 => ?_) (fun c1 => ?_)
  · refine xi_iconst (v := 0) dX11_isSlot_13 (by decide) ?_
    exact xi_iret dX11_isSlot_14 rfl (by decide) (Nat.le_of_ble_eq_true rfl) (Nat.le_of_ble_eq_true rfl) ⟨rfl, rfl⟩
  · refine xi_iload_n 0 dX11_isSlot_4 rfl ?_
    refine xi_iconst (v := 3) dX11_isSlot_5 (by decide) ?_
    refine xi_icmp_ge (tgt := 13) dX11_isSlot_6 (by decide) (fun c2 => ?_) (fun c2 => ?_)
    · refine xi_iconst (v := 0) dX11_isSlot_13 (by decide) ?_
      exact xi_iret dX11_isSlot_14 rfl (by decide) (Nat.le_of_ble_eq_true rfl) (Nat.le_of_ble_eq_true rfl) ⟨rfl, rfl⟩
    · refine xi_iconst (v := 1) dX11_isSlot_9 (by decide) ?_
      refine xi_goto (tgt := 14) dX11_isSlot_10 (by decide) ?_
      exact (h.elim c1 c2).elim
set_option maxHeartbeats 4000000 in
set_option maxRecDepth 100000 in
theorem fx_netIn_0 (G : xG) : xC G mX11_netIn 1 0 0 [.ref 0, .int 0] (MX 0 (fun _ => 0) rd0 mo0 (fun _ => 0) (fun _ => 0) (fun _ => 0)) (fun v M2 => v = some (.null) ∧ M2 = (MX 0 (fun _ => 0) rd0 mo0 (fun _ => 0) (fun _ => 0) (fun _ => 0))) := by
  refine xC.of (by decide) (Nat.le_of_ble_eq_true rfl) ?_
  show xW _ _ _ _ 0 [(0, .ref 0), (1, .int 0)] [] _ 0 0
  refine xi_iload_n 1 dX11_netIn_0 rfl ?_
  refine xi_callS (as := [.int 0]) (rest := []) dX11_netIn_1 (fx_isSlot_0 G) mkX11_isSlot w_299 w_298 rfl rfl (Nat.le_of_ble_eq_true rfl) (Nat.le_of_ble_eq_true rfl) (Nat.le_of_ble_eq_true rfl) (Nat.le_of_ble_eq_true rfl) (Nat.le_of_ble_eq_true rfl) ?_
  intro v M2 hq
  obtain ⟨rfl, rfl⟩ := hq
  show xW _ _ _ _ 4 _ [.int 1] (MX 0 (fun _ => 0) rd0 mo0 (fun _ => 0) (fun _ => 0) (fun _ => 0)) _ _
  refine xi_if_eq_f (tgt := 28) dX11_netIn_4 (by decide) (by decide) ?_
  refine xi_aload_n 0 dX11_netIn_7 rfl ?_
  refine xi_get (f := 3) dX11_netIn_8 rfl rfl ok_8 (by decide) w_245 rfl ?_
  refine xi_iload_n 1 dX11_netIn_11 rfl ?_
  refine xi_aaload (v := .ref 12) dX11_netIn_12 rfl rfl (by unfold vp_in; decide) rfl ?_
  refine xi_get (f := 0) dX11_netIn_13 rfl rfl ok_5 (by decide) w_66 rfl ?_
  refine xi_if_le_t (tgt := 28) dX11_netIn_16 (by decide) (by decide) ?_
  refine xi_null dX11_netIn_28 ?_
  exact xi_aretN dX11_netIn_29 rfl (Or.inl ⟨_, rfl⟩) (Nat.le_of_ble_eq_true rfl) (Nat.le_of_ble_eq_true rfl) ⟨rfl, rfl⟩
set_option maxHeartbeats 4000000 in
set_option maxRecDepth 100000 in
theorem fx_netIn_1 (G : xG) : xC G mX11_netIn 1 0 0 [.ref 0, .int 1] (MX 0 (fun _ => 0) rd0 mo0 (fun _ => 0) (fun _ => 0) (fun _ => 0)) (fun v M2 => v = some (.null) ∧ M2 = (MX 0 (fun _ => 0) rd0 mo0 (fun _ => 0) (fun _ => 0) (fun _ => 0))) := by
  refine xC.of (by decide) (Nat.le_of_ble_eq_true rfl) ?_
  show xW _ _ _ _ 0 [(0, .ref 0), (1, .int 1)] [] _ 0 0
  refine xi_iload_n 1 dX11_netIn_0 rfl ?_
  refine xi_callS (as := [.int 1]) (rest := []) dX11_netIn_1 (fx_isSlot_1 G) mkX11_isSlot w_299 w_298 rfl rfl (Nat.le_of_ble_eq_true rfl) (Nat.le_of_ble_eq_true rfl) (Nat.le_of_ble_eq_true rfl) (Nat.le_of_ble_eq_true rfl) (Nat.le_of_ble_eq_true rfl) ?_
  intro v M2 hq
  obtain ⟨rfl, rfl⟩ := hq
  show xW _ _ _ _ 4 _ [.int 1] (MX 0 (fun _ => 0) rd0 mo0 (fun _ => 0) (fun _ => 0) (fun _ => 0)) _ _
  refine xi_if_eq_f (tgt := 28) dX11_netIn_4 (by decide) (by decide) ?_
  refine xi_aload_n 0 dX11_netIn_7 rfl ?_
  refine xi_get (f := 3) dX11_netIn_8 rfl rfl ok_8 (by decide) w_245 rfl ?_
  refine xi_iload_n 1 dX11_netIn_11 rfl ?_
  refine xi_aaload (v := .ref 36) dX11_netIn_12 rfl rfl (by unfold vp_in; decide) rfl ?_
  refine xi_get (f := 0) dX11_netIn_13 rfl rfl ok_5 (by decide) w_66 rfl ?_
  refine xi_if_le_t (tgt := 28) dX11_netIn_16 (by decide) (by decide) ?_
  refine xi_null dX11_netIn_28 ?_
  exact xi_aretN dX11_netIn_29 rfl (Or.inl ⟨_, rfl⟩) (Nat.le_of_ble_eq_true rfl) (Nat.le_of_ble_eq_true rfl) ⟨rfl, rfl⟩
set_option maxHeartbeats 4000000 in
set_option maxRecDepth 100000 in
theorem fx_netIn_2 (G : xG) : xC G mX11_netIn 1 0 0 [.ref 0, .int 2] (MX 0 (fun _ => 0) rd0 mo0 (fun _ => 0) (fun _ => 0) (fun _ => 0)) (fun v M2 => v = some (.null) ∧ M2 = (MX 0 (fun _ => 0) rd0 mo0 (fun _ => 0) (fun _ => 0) (fun _ => 0))) := by
  refine xC.of (by decide) (Nat.le_of_ble_eq_true rfl) ?_
  show xW _ _ _ _ 0 [(0, .ref 0), (1, .int 2)] [] _ 0 0
  refine xi_iload_n 1 dX11_netIn_0 rfl ?_
  refine xi_callS (as := [.int 2]) (rest := []) dX11_netIn_1 (fx_isSlot_2 G) mkX11_isSlot w_299 w_298 rfl rfl (Nat.le_of_ble_eq_true rfl) (Nat.le_of_ble_eq_true rfl) (Nat.le_of_ble_eq_true rfl) (Nat.le_of_ble_eq_true rfl) (Nat.le_of_ble_eq_true rfl) ?_
  intro v M2 hq
  obtain ⟨rfl, rfl⟩ := hq
  show xW _ _ _ _ 4 _ [.int 1] (MX 0 (fun _ => 0) rd0 mo0 (fun _ => 0) (fun _ => 0) (fun _ => 0)) _ _
  refine xi_if_eq_f (tgt := 28) dX11_netIn_4 (by decide) (by decide) ?_
  refine xi_aload_n 0 dX11_netIn_7 rfl ?_
  refine xi_get (f := 3) dX11_netIn_8 rfl rfl ok_8 (by decide) w_245 rfl ?_
  refine xi_iload_n 1 dX11_netIn_11 rfl ?_
  refine xi_aaload (v := .ref 60) dX11_netIn_12 rfl rfl (by unfold vp_in; decide) rfl ?_
  refine xi_get (f := 0) dX11_netIn_13 rfl rfl ok_5 (by decide) w_66 rfl ?_
  refine xi_if_le_t (tgt := 28) dX11_netIn_16 (by decide) (by decide) ?_
  refine xi_null dX11_netIn_28 ?_
  exact xi_aretN dX11_netIn_29 rfl (Or.inl ⟨_, rfl⟩) (Nat.le_of_ble_eq_true rfl) (Nat.le_of_ble_eq_true rfl) ⟨rfl, rfl⟩
set_option maxHeartbeats 4000000 in
set_option maxRecDepth 100000 in
theorem fx_netIn_out (G : xG) (a1 : Int32) (h : a1 < 0 ∨ 3 ≤ a1) : xC G mX11_netIn 1 0 0 [.ref 0, .int a1] (MX 0 (fun _ => 0) rd0 mo0 (fun _ => 0) (fun _ => 0) (fun _ => 0)) (fun v M2 => v = some (.null) ∧ M2 = (MX 0 (fun _ => 0) rd0 mo0 (fun _ => 0) (fun _ => 0) (fun _ => 0))) := by
  refine xC.of (by decide) (Nat.le_of_ble_eq_true rfl) ?_
  show xW _ _ _ _ 0 [(0, .ref 0), (1, .int a1)] [] _ 0 0
  refine xi_iload_n 1 dX11_netIn_0 rfl ?_
  refine xi_callS (as := [.int a1]) (rest := []) dX11_netIn_1 (fx_isSlot_out G _ h) mkX11_isSlot w_299 w_298 rfl rfl (Nat.le_of_ble_eq_true rfl) (Nat.le_of_ble_eq_true rfl) (Nat.le_of_ble_eq_true rfl) (Nat.le_of_ble_eq_true rfl) (Nat.le_of_ble_eq_true rfl) ?_
  intro v M2 hq
  obtain ⟨rfl, rfl⟩ := hq
  show xW _ _ _ _ 4 _ [.int 0] (MX 0 (fun _ => 0) rd0 mo0 (fun _ => 0) (fun _ => 0) (fun _ => 0)) _ _
  refine xi_if_eq_t (tgt := 28) dX11_netIn_4 (by decide) (by decide) ?_
  refine xi_null dX11_netIn_28 ?_
  exact xi_aretN dX11_netIn_29 rfl (Or.inl ⟨_, rfl⟩) (Nat.le_of_ble_eq_true rfl) (Nat.le_of_ble_eq_true rfl) ⟨rfl, rfl⟩
theorem fx_netIn (G : xG) (a1 : Int32) : xC G mX11_netIn 1 0 0 [.ref 0, .int a1] M0 (fun v M2 => v = some (.null) ∧ M2 = M0) := by
  rcases sl4 a1 with rfl | rfl | rfl | h
  · exact fx_netIn_0 G
  · exact fx_netIn_1 G
  · exact fx_netIn_2 G
  · exact fx_netIn_out G a1 h
set_option maxHeartbeats 4000000 in
set_option maxRecDepth 100000 in
theorem fx_findingOf (G : xG) (a1 a2 : Int32) : xC G mX11_findingOf 2 0 0 [.ref 0, .int a1, .int a2] (MX 0 (fun _ => 0) rd0 mo0 (fun _ => 0) (fun _ => 0) (fun _ => 0)) (fun v M2 => v = some (.null) ∧ M2 = (MX 0 (fun _ => 0) rd0 mo0 (fun _ => 0) (fun _ => 0) (fun _ => 0))) := by
  refine xC.of (by decide) (Nat.le_of_ble_eq_true rfl) ?_
  show xW _ _ _ _ 0 [(0, .ref 0), (1, .int a1), (2, .int a2)] [] _ 0 0
  refine xi_aload_n 0 dX11_findingOf_0 rfl ?_
  refine xi_iload_n 1 dX11_findingOf_1 rfl ?_
  refine xi_callV (as := [.int a1]) (rest := []) dX11_findingOf_2 (fx_netIn G a1) mkX11_netIn w_491 ws_15 w_489 rfl rfl rfl rfl rfl (Nat.le_of_ble_eq_true rfl) (Nat.le_of_ble_eq_true rfl) (Nat.le_of_ble_eq_true rfl) (Nat.le_of_ble_eq_true rfl) (Nat.le_of_ble_eq_true rfl) ?_
  intro v M2 hq
  obtain ⟨rfl, rfl⟩ := hq
  show xW _ _ _ _ 5 _ [.null] (MX 0 (fun _ => 0) rd0 mo0 (fun _ => 0) (fun _ => 0) (fun _ => 0)) _ _
  refine xi_astore_nN (lv' := [(3, .null), (0, .ref 0), (1, .int a1), (2, .int a2)]) dX11_findingOf_5 (by decide) rfl ?_
  refine xi_aload_nN 0 dX11_findingOf_6 rfl ?_
  refine xi_ifnullN (tgt := 17) dX11_findingOf_7 (by decide) ?_
  refine xi_null dX11_findingOf_17 ?_
  exact xi_aretN dX11_findingOf_18 rfl (Or.inl ⟨_, rfl⟩) (Nat.le_of_ble_eq_true rfl) (Nat.le_of_ble_eq_true rfl) ⟨rfl, rfl⟩
set_option maxHeartbeats 4000000 in
set_option maxRecDepth 100000 in
theorem fx_look (G : xG) (a1 a2 : Int32) : xC G mX11_look 3 0 0 [.ref 0, .int a1, .int a2] (MX 0 (fun _ => 0) rd0 mo0 (fun _ => 0) (fun _ => 0) (fun _ => 0)) (fun v M2 => v = some (.int (-2)) ∧ M2 = (MX 0 (fun _ => 0) rd0 mo0 (fun _ => 0) (fun _ => 0) (fun _ => 0))) := by
  refine xC.of (by decide) (Nat.le_of_ble_eq_true rfl) ?_
  show xW _ _ _ _ 0 [(0, .ref 0), (1, .int a1), (2, .int a2)] [] _ 0 0
  refine xi_aload_n 0 dX11_look_0 rfl ?_
  refine xi_iload_n 1 dX11_look_1 rfl ?_
  refine xi_callV (as := [.int a1]) (rest := []) dX11_look_2 (fx_netIn G a1) mkX11_netIn w_491 ws_15 w_489 rfl rfl rfl rfl rfl (Nat.le_of_ble_eq_true rfl) (Nat.le_of_ble_eq_true rfl) (Nat.le_of_ble_eq_true rfl) (Nat.le_of_ble_eq_true rfl) (Nat.le_of_ble_eq_true rfl) ?_
  intro v M2 hq
  obtain ⟨rfl, rfl⟩ := hq
  show xW _ _ _ _ 5 _ [.null] (MX 0 (fun _ => 0) rd0 mo0 (fun _ => 0) (fun _ => 0) (fun _ => 0)) _ _
  refine xi_astore_nN (lv' := [(3, .null), (0, .ref 0), (1, .int a1), (2, .int a2)]) dX11_look_5 (by decide) rfl ?_
  refine xi_aload_nN 0 dX11_look_6 rfl ?_
  refine xi_ifnonnullN dX11_look_7 ?_
  refine xi_bipush (v := (-2)) dX11_look_10 (by decide) ?_
  exact xi_iret dX11_look_12 rfl rfl (Nat.le_of_ble_eq_true rfl) (Nat.le_of_ble_eq_true rfl) ⟨rfl, rfl⟩
set_option maxHeartbeats 4000000 in
set_option maxRecDepth 100000 in
theorem fx_near (G : xG) (a1 a2 : Int32) : xC G mX11_near 3 0 0 [.ref 0, .int a1, .int a2] (MX 0 (fun _ => 0) rd0 mo0 (fun _ => 0) (fun _ => 0) (fun _ => 0)) (fun v M2 => v = some (.int (-2)) ∧ M2 = (MX 0 (fun _ => 0) rd0 mo0 (fun _ => 0) (fun _ => 0) (fun _ => 0))) := by
  refine xC.of (by decide) (Nat.le_of_ble_eq_true rfl) ?_
  show xW _ _ _ _ 0 [(0, .ref 0), (1, .int a1), (2, .int a2)] [] _ 0 0
  refine xi_aload_n 0 dX11_near_0 rfl ?_
  refine xi_iload_n 1 dX11_near_1 rfl ?_
  refine xi_callV (as := [.int a1]) (rest := []) dX11_near_2 (fx_netIn G a1) mkX11_netIn w_491 ws_15 w_489 rfl rfl rfl rfl rfl (Nat.le_of_ble_eq_true rfl) (Nat.le_of_ble_eq_true rfl) (Nat.le_of_ble_eq_true rfl) (Nat.le_of_ble_eq_true rfl) (Nat.le_of_ble_eq_true rfl) ?_
  intro v M2 hq
  obtain ⟨rfl, rfl⟩ := hq
  show xW _ _ _ _ 5 _ [.null] (MX 0 (fun _ => 0) rd0 mo0 (fun _ => 0) (fun _ => 0) (fun _ => 0)) _ _
  refine xi_astore_nN (lv' := [(3, .null), (0, .ref 0), (1, .int a1), (2, .int a2)]) dX11_near_5 (by decide) rfl ?_
  refine xi_aload_nN 0 dX11_near_6 rfl ?_
  refine xi_ifnullN (tgt := 18) dX11_near_7 (by decide) ?_
  refine xi_bipush (v := (-2)) dX11_near_18 (by decide) ?_
  refine xi_goto (tgt := 29) dX11_near_20 (by decide) ?_
  exact xi_iret dX11_near_29 rfl rfl (Nat.le_of_ble_eq_true rfl) (Nat.le_of_ble_eq_true rfl) ⟨rfl, rfl⟩
set_option maxHeartbeats 4000000 in
set_option maxRecDepth 100000 in
theorem fx_line (G : xG) (a1 a2 a3 : Int32) : xC G mX11_line 3 0 0 [.ref 0, .int a1, .int a2, .int a3] (MX 0 (fun _ => 0) rd0 mo0 (fun _ => 0) (fun _ => 0) (fun _ => 0)) (fun v M2 => v = some (.int (-2)) ∧ M2 = (MX 0 (fun _ => 0) rd0 mo0 (fun _ => 0) (fun _ => 0) (fun _ => 0))) := by
  refine xC.of (by decide) (Nat.le_of_ble_eq_true rfl) ?_
  show xW _ _ _ _ 0 [(0, .ref 0), (1, .int a1), (2, .int a2), (3, .int a3)] [] _ 0 0
  refine xi_aload_n 0 dX11_line_0 rfl ?_
  refine xi_iload_n 1 dX11_line_1 rfl ?_
  refine xi_callV (as := [.int a1]) (rest := []) dX11_line_2 (fx_netIn G a1) mkX11_netIn w_491 ws_15 w_489 rfl rfl rfl rfl rfl (Nat.le_of_ble_eq_true rfl) (Nat.le_of_ble_eq_true rfl) (Nat.le_of_ble_eq_true rfl) (Nat.le_of_ble_eq_true rfl) (Nat.le_of_ble_eq_true rfl) ?_
  intro v M2 hq
  obtain ⟨rfl, rfl⟩ := hq
  show xW _ _ _ _ 5 _ [.null] (MX 0 (fun _ => 0) rd0 mo0 (fun _ => 0) (fun _ => 0) (fun _ => 0)) _ _
  refine xi_astoreN (lv' := [(4, .null), (0, .ref 0), (1, .int a1), (2, .int a2), (3, .int a3)]) dX11_line_5 (by decide) rfl ?_
  refine xi_aloadN 0 dX11_line_7 rfl ?_
  refine xi_ifnullN (tgt := 30) dX11_line_9 (by decide) ?_
  refine xi_bipush (v := (-2)) dX11_line_30 (by decide) ?_
  refine xi_goto (tgt := 42) dX11_line_32 (by decide) ?_
  exact xi_iret dX11_line_42 rfl rfl (Nat.le_of_ble_eq_true rfl) (Nat.le_of_ble_eq_true rfl) ⟨rfl, rfl⟩
set_option maxHeartbeats 4000000 in
set_option maxRecDepth 100000 in
theorem fx_far (G : xG) (a1 a2 a3 : Int32) : xC G mX11_far 3 0 0 [.ref 0, .int a1, .int a2, .int a3] (MX 0 (fun _ => 0) rd0 mo0 (fun _ => 0) (fun _ => 0) (fun _ => 0)) (fun v M2 => v = some (.int (-2)) ∧ M2 = (MX 0 (fun _ => 0) rd0 mo0 (fun _ => 0) (fun _ => 0) (fun _ => 0))) := by
  refine xC.of (by decide) (Nat.le_of_ble_eq_true rfl) ?_
  show xW _ _ _ _ 0 [(0, .ref 0), (1, .int a1), (2, .int a2), (3, .int a3)] [] _ 0 0
  refine xi_aload_n 0 dX11_far_0 rfl ?_
  refine xi_iload_n 1 dX11_far_1 rfl ?_
  refine xi_callV (as := [.int a1]) (rest := []) dX11_far_2 (fx_netIn G a1) mkX11_netIn w_491 ws_15 w_489 rfl rfl rfl rfl rfl (Nat.le_of_ble_eq_true rfl) (Nat.le_of_ble_eq_true rfl) (Nat.le_of_ble_eq_true rfl) (Nat.le_of_ble_eq_true rfl) (Nat.le_of_ble_eq_true rfl) ?_
  intro v M2 hq
  obtain ⟨rfl, rfl⟩ := hq
  show xW _ _ _ _ 5 _ [.null] (MX 0 (fun _ => 0) rd0 mo0 (fun _ => 0) (fun _ => 0) (fun _ => 0)) _ _
  refine xi_astoreN (lv' := [(4, .null), (0, .ref 0), (1, .int a1), (2, .int a2), (3, .int a3)]) dX11_far_5 (by decide) rfl ?_
  refine xi_aloadN 0 dX11_far_7 rfl ?_
  refine xi_ifnullN (tgt := 30) dX11_far_9 (by decide) ?_
  refine xi_bipush (v := (-2)) dX11_far_30 (by decide) ?_
  refine xi_goto (tgt := 42) dX11_far_32 (by decide) ?_
  exact xi_iret dX11_far_42 rfl rfl (Nat.le_of_ble_eq_true rfl) (Nat.le_of_ble_eq_true rfl) ⟨rfl, rfl⟩
set_option maxHeartbeats 4000000 in
set_option maxRecDepth 100000 in
theorem fx_row (G : xG) (a1 a2 : Int32) : xC G mX11_row 3 0 0 [.ref 0, .int a1, .int a2] (MX 0 (fun _ => 0) rd0 mo0 (fun _ => 0) (fun _ => 0) (fun _ => 0)) (fun v M2 => v = some (.int (-2)) ∧ M2 = (MX 0 (fun _ => 0) rd0 mo0 (fun _ => 0) (fun _ => 0) (fun _ => 0))) := by
  refine xC.of (by decide) (Nat.le_of_ble_eq_true rfl) ?_
  show xW _ _ _ _ 0 [(0, .ref 0), (1, .int a1), (2, .int a2)] [] _ 0 0
  refine xi_aload_n 0 dX11_row_0 rfl ?_
  refine xi_iload_n 1 dX11_row_1 rfl ?_
  refine xi_callV (as := [.int a1]) (rest := []) dX11_row_2 (fx_netIn G a1) mkX11_netIn w_491 ws_15 w_489 rfl rfl rfl rfl rfl (Nat.le_of_ble_eq_true rfl) (Nat.le_of_ble_eq_true rfl) (Nat.le_of_ble_eq_true rfl) (Nat.le_of_ble_eq_true rfl) (Nat.le_of_ble_eq_true rfl) ?_
  intro v M2 hq
  obtain ⟨rfl, rfl⟩ := hq
  show xW _ _ _ _ 5 _ [.null] (MX 0 (fun _ => 0) rd0 mo0 (fun _ => 0) (fun _ => 0) (fun _ => 0)) _ _
  refine xi_astore_nN (lv' := [(3, .null), (0, .ref 0), (1, .int a1), (2, .int a2)]) dX11_row_5 (by decide) rfl ?_
  refine xi_aload_nN 0 dX11_row_6 rfl ?_
  refine xi_ifnullN (tgt := 18) dX11_row_7 (by decide) ?_
  refine xi_bipush (v := (-2)) dX11_row_18 (by decide) ?_
  refine xi_goto (tgt := 29) dX11_row_20 (by decide) ?_
  exact xi_iret dX11_row_29 rfl rfl (Nat.le_of_ble_eq_true rfl) (Nat.le_of_ble_eq_true rfl) ⟨rfl, rfl⟩
set_option maxHeartbeats 4000000 in
set_option maxRecDepth 100000 in
theorem fx_place (G : xG) (a1 a2 : Int32) : xC G mX11_place 3 0 0 [.ref 0, .int a1, .int a2] (MX 0 (fun _ => 0) rd0 mo0 (fun _ => 0) (fun _ => 0) (fun _ => 0)) (fun v M2 => v = some (.int (-2)) ∧ M2 = (MX 0 (fun _ => 0) rd0 mo0 (fun _ => 0) (fun _ => 0) (fun _ => 0))) := by
  refine xC.of (by decide) (Nat.le_of_ble_eq_true rfl) ?_
  show xW _ _ _ _ 0 [(0, .ref 0), (1, .int a1), (2, .int a2)] [] _ 0 0
  refine xi_aload_n 0 dX11_place_0 rfl ?_
  refine xi_iload_n 1 dX11_place_1 rfl ?_
  refine xi_callV (as := [.int a1]) (rest := []) dX11_place_2 (fx_netIn G a1) mkX11_netIn w_491 ws_15 w_489 rfl rfl rfl rfl rfl (Nat.le_of_ble_eq_true rfl) (Nat.le_of_ble_eq_true rfl) (Nat.le_of_ble_eq_true rfl) (Nat.le_of_ble_eq_true rfl) (Nat.le_of_ble_eq_true rfl) ?_
  intro v M2 hq
  obtain ⟨rfl, rfl⟩ := hq
  show xW _ _ _ _ 5 _ [.null] (MX 0 (fun _ => 0) rd0 mo0 (fun _ => 0) (fun _ => 0) (fun _ => 0)) _ _
  refine xi_astore_nN (lv' := [(3, .null), (0, .ref 0), (1, .int a1), (2, .int a2)]) dX11_place_5 (by decide) rfl ?_
  refine xi_aload_nN 0 dX11_place_6 rfl ?_
  refine xi_ifnullN (tgt := 18) dX11_place_7 (by decide) ?_
  refine xi_bipush (v := (-2)) dX11_place_18 (by decide) ?_
  refine xi_goto (tgt := 28) dX11_place_20 (by decide) ?_
  exact xi_iret dX11_place_28 rfl rfl (Nat.le_of_ble_eq_true rfl) (Nat.le_of_ble_eq_true rfl) ⟨rfl, rfl⟩
set_option maxHeartbeats 4000000 in
set_option maxRecDepth 100000 in
theorem fx_value (G : xG) (a1 a2 : Int32) : xC G mX11_value 3 0 0 [.ref 0, .int a1, .int a2] (MX 0 (fun _ => 0) rd0 mo0 (fun _ => 0) (fun _ => 0) (fun _ => 0)) (fun v M2 => v = some (.int (-2)) ∧ M2 = (MX 0 (fun _ => 0) rd0 mo0 (fun _ => 0) (fun _ => 0) (fun _ => 0))) := by
  refine xC.of (by decide) (Nat.le_of_ble_eq_true rfl) ?_
  show xW _ _ _ _ 0 [(0, .ref 0), (1, .int a1), (2, .int a2)] [] _ 0 0
  refine xi_aload_n 0 dX11_value_0 rfl ?_
  refine xi_iload_n 1 dX11_value_1 rfl ?_
  refine xi_callV (as := [.int a1]) (rest := []) dX11_value_2 (fx_netIn G a1) mkX11_netIn w_491 ws_15 w_489 rfl rfl rfl rfl rfl (Nat.le_of_ble_eq_true rfl) (Nat.le_of_ble_eq_true rfl) (Nat.le_of_ble_eq_true rfl) (Nat.le_of_ble_eq_true rfl) (Nat.le_of_ble_eq_true rfl) ?_
  intro v M2 hq
  obtain ⟨rfl, rfl⟩ := hq
  show xW _ _ _ _ 5 _ [.null] (MX 0 (fun _ => 0) rd0 mo0 (fun _ => 0) (fun _ => 0) (fun _ => 0)) _ _
  refine xi_astore_nN (lv' := [(3, .null), (0, .ref 0), (1, .int a1), (2, .int a2)]) dX11_value_5 (by decide) rfl ?_
  refine xi_aload_nN 0 dX11_value_6 rfl ?_
  refine xi_ifnullN (tgt := 17) dX11_value_7 (by decide) ?_
  refine xi_bipush (v := (-2)) dX11_value_17 (by decide) ?_
  refine xi_goto (tgt := 27) dX11_value_19 (by decide) ?_
  exact xi_iret dX11_value_27 rfl rfl (Nat.le_of_ble_eq_true rfl) (Nat.le_of_ble_eq_true rfl) ⟨rfl, rfl⟩
set_option maxHeartbeats 4000000 in
set_option maxRecDepth 100000 in
theorem fx_price (G : xG) (a1 a2 a3 : Int32) : xC G mX11_price 3 0 0 [.ref 0, .int a1, .int a2, .int a3] (MX 0 (fun _ => 0) rd0 mo0 (fun _ => 0) (fun _ => 0) (fun _ => 0)) (fun v M2 => v = some (.int (-2)) ∧ M2 = (MX 0 (fun _ => 0) rd0 mo0 (fun _ => 0) (fun _ => 0) (fun _ => 0))) := by
  refine xC.of (by decide) (Nat.le_of_ble_eq_true rfl) ?_
  show xW _ _ _ _ 0 [(0, .ref 0), (1, .int a1), (2, .int a2), (3, .int a3)] [] _ 0 0
  refine xi_aload_n 0 dX11_price_0 rfl ?_
  refine xi_iload_n 1 dX11_price_1 rfl ?_
  refine xi_callV (as := [.int a1]) (rest := []) dX11_price_2 (fx_netIn G a1) mkX11_netIn w_491 ws_15 w_489 rfl rfl rfl rfl rfl (Nat.le_of_ble_eq_true rfl) (Nat.le_of_ble_eq_true rfl) (Nat.le_of_ble_eq_true rfl) (Nat.le_of_ble_eq_true rfl) (Nat.le_of_ble_eq_true rfl) ?_
  intro v M2 hq
  obtain ⟨rfl, rfl⟩ := hq
  show xW _ _ _ _ 5 _ [.null] (MX 0 (fun _ => 0) rd0 mo0 (fun _ => 0) (fun _ => 0) (fun _ => 0)) _ _
  refine xi_astoreN (lv' := [(4, .null), (0, .ref 0), (1, .int a1), (2, .int a2), (3, .int a3)]) dX11_price_5 (by decide) rfl ?_
  refine xi_aloadN 0 dX11_price_7 rfl ?_
  refine xi_ifnullN (tgt := 19) dX11_price_9 (by decide) ?_
  refine xi_bipush (v := (-2)) dX11_price_19 (by decide) ?_
  exact xi_iret dX11_price_21 rfl rfl (Nat.le_of_ble_eq_true rfl) (Nat.le_of_ble_eq_true rfl) ⟨rfl, rfl⟩
set_option maxHeartbeats 4000000 in
set_option maxRecDepth 100000 in
theorem fx_worst (G : xG) (a1 a2 : Int32) : xC G mX11_worst 3 0 0 [.ref 0, .int a1, .int a2] (MX 0 (fun _ => 0) rd0 mo0 (fun _ => 0) (fun _ => 0) (fun _ => 0)) (fun v M2 => v = some (.int (-2)) ∧ M2 = (MX 0 (fun _ => 0) rd0 mo0 (fun _ => 0) (fun _ => 0) (fun _ => 0))) := by
  refine xC.of (by decide) (Nat.le_of_ble_eq_true rfl) ?_
  show xW _ _ _ _ 0 [(0, .ref 0), (1, .int a1), (2, .int a2)] [] _ 0 0
  refine xi_aload_n 0 dX11_worst_0 rfl ?_
  refine xi_iload_n 1 dX11_worst_1 rfl ?_
  refine xi_callV (as := [.int a1]) (rest := []) dX11_worst_2 (fx_netIn G a1) mkX11_netIn w_491 ws_15 w_489 rfl rfl rfl rfl rfl (Nat.le_of_ble_eq_true rfl) (Nat.le_of_ble_eq_true rfl) (Nat.le_of_ble_eq_true rfl) (Nat.le_of_ble_eq_true rfl) (Nat.le_of_ble_eq_true rfl) ?_
  intro v M2 hq
  obtain ⟨rfl, rfl⟩ := hq
  show xW _ _ _ _ 5 _ [.null] (MX 0 (fun _ => 0) rd0 mo0 (fun _ => 0) (fun _ => 0) (fun _ => 0)) _ _
  refine xi_astore_nN (lv' := [(3, .null), (0, .ref 0), (1, .int a1), (2, .int a2)]) dX11_worst_5 (by decide) rfl ?_
  refine xi_aload_nN 0 dX11_worst_6 rfl ?_
  refine xi_ifnullN (tgt := 17) dX11_worst_7 (by decide) ?_
  refine xi_bipush (v := (-2)) dX11_worst_17 (by decide) ?_
  exact xi_iret dX11_worst_19 rfl rfl (Nat.le_of_ble_eq_true rfl) (Nat.le_of_ble_eq_true rfl) ⟨rfl, rfl⟩
set_option maxHeartbeats 4000000 in
set_option maxRecDepth 100000 in
theorem fx_longest (G : xG) (a1 : Int32) : xC G mX11_longest 3 0 0 [.ref 0, .int a1] (MX 0 (fun _ => 0) rd0 mo0 (fun _ => 0) (fun _ => 0) (fun _ => 0)) (fun v M2 => v = some (.int (-2)) ∧ M2 = (MX 0 (fun _ => 0) rd0 mo0 (fun _ => 0) (fun _ => 0) (fun _ => 0))) := by
  refine xC.of (by decide) (Nat.le_of_ble_eq_true rfl) ?_
  show xW _ _ _ _ 0 [(0, .ref 0), (1, .int a1)] [] _ 0 0
  refine xi_aload_n 0 dX11_longest_0 rfl ?_
  refine xi_iload_n 1 dX11_longest_1 rfl ?_
  refine xi_callV (as := [.int a1]) (rest := []) dX11_longest_2 (fx_netIn G a1) mkX11_netIn w_491 ws_15 w_489 rfl rfl rfl rfl rfl (Nat.le_of_ble_eq_true rfl) (Nat.le_of_ble_eq_true rfl) (Nat.le_of_ble_eq_true rfl) (Nat.le_of_ble_eq_true rfl) (Nat.le_of_ble_eq_true rfl) ?_
  intro v M2 hq
  obtain ⟨rfl, rfl⟩ := hq
  show xW _ _ _ _ 5 _ [.null] (MX 0 (fun _ => 0) rd0 mo0 (fun _ => 0) (fun _ => 0) (fun _ => 0)) _ _
  refine xi_astore_nN (lv' := [(2, .null), (0, .ref 0), (1, .int a1)]) dX11_longest_5 (by decide) rfl ?_
  refine xi_aload_nN 0 dX11_longest_6 rfl ?_
  refine xi_ifnonnullN dX11_longest_7 ?_
  refine xi_bipush (v := (-2)) dX11_longest_10 (by decide) ?_
  refine xi_goto (tgt := 19) dX11_longest_12 (by decide) ?_
  exact xi_iret dX11_longest_19 rfl rfl (Nat.le_of_ble_eq_true rfl) (Nat.le_of_ble_eq_true rfl) ⟨rfl, rfl⟩
set_option maxHeartbeats 4000000 in
set_option maxRecDepth 100000 in
theorem fx_least (G : xG) (a1 a2 : Int32) : xC G mX11_least 3 0 0 [.ref 0, .int a1, .int a2] (MX 0 (fun _ => 0) rd0 mo0 (fun _ => 0) (fun _ => 0) (fun _ => 0)) (fun v M2 => v = some (.int (-2)) ∧ M2 = (MX 0 (fun _ => 0) rd0 mo0 (fun _ => 0) (fun _ => 0) (fun _ => 0))) := by
  refine xC.of (by decide) (Nat.le_of_ble_eq_true rfl) ?_
  show xW _ _ _ _ 0 [(0, .ref 0), (1, .int a1), (2, .int a2)] [] _ 0 0
  refine xi_aload_n 0 dX11_least_0 rfl ?_
  refine xi_iload_n 1 dX11_least_1 rfl ?_
  refine xi_iload_n 2 dX11_least_2 rfl ?_
  refine xi_callV (as := [.int a1, .int a2]) (rest := []) dX11_least_3 (fx_findingOf G a1 a2) mkX11_findingOf w_659 ws_16 w_657 rfl rfl rfl rfl rfl (Nat.le_of_ble_eq_true rfl) (Nat.le_of_ble_eq_true rfl) (Nat.le_of_ble_eq_true rfl) (Nat.le_of_ble_eq_true rfl) (Nat.le_of_ble_eq_true rfl) ?_
  intro v M2 hq
  obtain ⟨rfl, rfl⟩ := hq
  show xW _ _ _ _ 6 _ [.null] (MX 0 (fun _ => 0) rd0 mo0 (fun _ => 0) (fun _ => 0) (fun _ => 0)) _ _
  refine xi_astore_nN (lv' := [(3, .null), (0, .ref 0), (1, .int a1), (2, .int a2)]) dX11_least_6 (by decide) rfl ?_
  refine xi_aload_nN 0 dX11_least_7 rfl ?_
  refine xi_ifnonnullN dX11_least_8 ?_
  refine xi_bipush (v := (-2)) dX11_least_11 (by decide) ?_
  refine xi_goto (tgt := 20) dX11_least_13 (by decide) ?_
  exact xi_iret dX11_least_20 rfl rfl (Nat.le_of_ble_eq_true rfl) (Nat.le_of_ble_eq_true rfl) ⟨rfl, rfl⟩
set_option maxHeartbeats 4000000 in
set_option maxRecDepth 100000 in
theorem fx_best (G : xG) (a1 a2 a3 : Int32) : xC G mX11_best 3 0 0 [.ref 0, .int a1, .int a2, .int a3] (MX 0 (fun _ => 0) rd0 mo0 (fun _ => 0) (fun _ => 0) (fun _ => 0)) (fun v M2 => v = some (.int (-2)) ∧ M2 = (MX 0 (fun _ => 0) rd0 mo0 (fun _ => 0) (fun _ => 0) (fun _ => 0))) := by
  refine xC.of (by decide) (Nat.le_of_ble_eq_true rfl) ?_
  show xW _ _ _ _ 0 [(0, .ref 0), (1, .int a1), (2, .int a2), (3, .int a3)] [] _ 0 0
  refine xi_aload_n 0 dX11_best_0 rfl ?_
  refine xi_iload_n 1 dX11_best_1 rfl ?_
  refine xi_iload_n 2 dX11_best_2 rfl ?_
  refine xi_callV (as := [.int a1, .int a2]) (rest := []) dX11_best_3 (fx_findingOf G a1 a2) mkX11_findingOf w_659 ws_16 w_657 rfl rfl rfl rfl rfl (Nat.le_of_ble_eq_true rfl) (Nat.le_of_ble_eq_true rfl) (Nat.le_of_ble_eq_true rfl) (Nat.le_of_ble_eq_true rfl) (Nat.le_of_ble_eq_true rfl) ?_
  intro v M2 hq
  obtain ⟨rfl, rfl⟩ := hq
  show xW _ _ _ _ 6 _ [.null] (MX 0 (fun _ => 0) rd0 mo0 (fun _ => 0) (fun _ => 0) (fun _ => 0)) _ _
  refine xi_astoreN (lv' := [(4, .null), (0, .ref 0), (1, .int a1), (2, .int a2), (3, .int a3)]) dX11_best_6 (by decide) rfl ?_
  refine xi_aloadN 0 dX11_best_8 rfl ?_
  refine xi_ifnullN (tgt := 26) dX11_best_10 (by decide) ?_
  refine xi_bipush (v := (-2)) dX11_best_26 (by decide) ?_
  refine xi_goto (tgt := 38) dX11_best_28 (by decide) ?_
  exact xi_iret dX11_best_38 rfl rfl (Nat.le_of_ble_eq_true rfl) (Nat.le_of_ble_eq_true rfl) ⟨rfl, rfl⟩
set_option maxHeartbeats 4000000 in
set_option maxRecDepth 100000 in
theorem fx_ways (G : xG) (a1 a2 : Int32) : xC G mX11_ways 3 0 0 [.ref 0, .int a1, .int a2] (MX 0 (fun _ => 0) rd0 mo0 (fun _ => 0) (fun _ => 0) (fun _ => 0)) (fun v M2 => v = some (.int (-2)) ∧ M2 = (MX 0 (fun _ => 0) rd0 mo0 (fun _ => 0) (fun _ => 0) (fun _ => 0))) := by
  refine xC.of (by decide) (Nat.le_of_ble_eq_true rfl) ?_
  show xW _ _ _ _ 0 [(0, .ref 0), (1, .int a1), (2, .int a2)] [] _ 0 0
  refine xi_aload_n 0 dX11_ways_0 rfl ?_
  refine xi_iload_n 1 dX11_ways_1 rfl ?_
  refine xi_iload_n 2 dX11_ways_2 rfl ?_
  refine xi_callV (as := [.int a1, .int a2]) (rest := []) dX11_ways_3 (fx_findingOf G a1 a2) mkX11_findingOf w_659 ws_16 w_657 rfl rfl rfl rfl rfl (Nat.le_of_ble_eq_true rfl) (Nat.le_of_ble_eq_true rfl) (Nat.le_of_ble_eq_true rfl) (Nat.le_of_ble_eq_true rfl) (Nat.le_of_ble_eq_true rfl) ?_
  intro v M2 hq
  obtain ⟨rfl, rfl⟩ := hq
  show xW _ _ _ _ 6 _ [.null] (MX 0 (fun _ => 0) rd0 mo0 (fun _ => 0) (fun _ => 0) (fun _ => 0)) _ _
  refine xi_astore_nN (lv' := [(3, .null), (0, .ref 0), (1, .int a1), (2, .int a2)]) dX11_ways_6 (by decide) rfl ?_
  refine xi_aload_nN 0 dX11_ways_7 rfl ?_
  refine xi_ifnonnullN dX11_ways_8 ?_
  refine xi_bipush (v := (-2)) dX11_ways_11 (by decide) ?_
  refine xi_goto (tgt := 20) dX11_ways_13 (by decide) ?_
  exact xi_iret dX11_ways_20 rfl rfl (Nat.le_of_ble_eq_true rfl) (Nat.le_of_ble_eq_true rfl) ⟨rfl, rfl⟩
set_option maxHeartbeats 4000000 in
set_option maxRecDepth 100000 in
theorem fx_within (G : xG) (a1 a2 a3 : Int32) : xC G mX11_within 3 0 0 [.ref 0, .int a1, .int a2, .int a3] (MX 0 (fun _ => 0) rd0 mo0 (fun _ => 0) (fun _ => 0) (fun _ => 0)) (fun v M2 => v = some (.int (-2)) ∧ M2 = (MX 0 (fun _ => 0) rd0 mo0 (fun _ => 0) (fun _ => 0) (fun _ => 0))) := by
  refine xC.of (by decide) (Nat.le_of_ble_eq_true rfl) ?_
  show xW _ _ _ _ 0 [(0, .ref 0), (1, .int a1), (2, .int a2), (3, .int a3)] [] _ 0 0
  refine xi_aload_n 0 dX11_within_0 rfl ?_
  refine xi_iload_n 1 dX11_within_1 rfl ?_
  refine xi_callV (as := [.int a1]) (rest := []) dX11_within_2 (fx_netIn G a1) mkX11_netIn w_491 ws_15 w_489 rfl rfl rfl rfl rfl (Nat.le_of_ble_eq_true rfl) (Nat.le_of_ble_eq_true rfl) (Nat.le_of_ble_eq_true rfl) (Nat.le_of_ble_eq_true rfl) (Nat.le_of_ble_eq_true rfl) ?_
  intro v M2 hq
  obtain ⟨rfl, rfl⟩ := hq
  show xW _ _ _ _ 5 _ [.null] (MX 0 (fun _ => 0) rd0 mo0 (fun _ => 0) (fun _ => 0) (fun _ => 0)) _ _
  refine xi_astoreN (lv' := [(4, .null), (0, .ref 0), (1, .int a1), (2, .int a2), (3, .int a3)]) dX11_within_5 (by decide) rfl ?_
  refine xi_aloadN 0 dX11_within_7 rfl ?_
  refine xi_ifnullN (tgt := 23) dX11_within_9 (by decide) ?_
  refine xi_bipush (v := (-2)) dX11_within_23 (by decide) ?_
  exact xi_iret dX11_within_25 rfl rfl (Nat.le_of_ble_eq_true rfl) (Nat.le_of_ble_eq_true rfl) ⟨rfl, rfl⟩
set_option maxHeartbeats 4000000 in
set_option maxRecDepth 100000 in
theorem fx_firsts (G : xG) (a1 a2 : Int32) : xC G mX11_firsts 3 0 0 [.ref 0, .int a1, .int a2] (MX 0 (fun _ => 0) rd0 mo0 (fun _ => 0) (fun _ => 0) (fun _ => 0)) (fun v M2 => v = some (.int (-2)) ∧ M2 = (MX 0 (fun _ => 0) rd0 mo0 (fun _ => 0) (fun _ => 0) (fun _ => 0))) := by
  refine xC.of (by decide) (Nat.le_of_ble_eq_true rfl) ?_
  show xW _ _ _ _ 0 [(0, .ref 0), (1, .int a1), (2, .int a2)] [] _ 0 0
  refine xi_aload_n 0 dX11_firsts_0 rfl ?_
  refine xi_iload_n 1 dX11_firsts_1 rfl ?_
  refine xi_iload_n 2 dX11_firsts_2 rfl ?_
  refine xi_callV (as := [.int a1, .int a2]) (rest := []) dX11_firsts_3 (fx_findingOf G a1 a2) mkX11_findingOf w_659 ws_16 w_657 rfl rfl rfl rfl rfl (Nat.le_of_ble_eq_true rfl) (Nat.le_of_ble_eq_true rfl) (Nat.le_of_ble_eq_true rfl) (Nat.le_of_ble_eq_true rfl) (Nat.le_of_ble_eq_true rfl) ?_
  intro v M2 hq
  obtain ⟨rfl, rfl⟩ := hq
  show xW _ _ _ _ 6 _ [.null] (MX 0 (fun _ => 0) rd0 mo0 (fun _ => 0) (fun _ => 0) (fun _ => 0)) _ _
  refine xi_astore_nN (lv' := [(3, .null), (0, .ref 0), (1, .int a1), (2, .int a2)]) dX11_firsts_6 (by decide) rfl ?_
  refine xi_aload_nN 0 dX11_firsts_7 rfl ?_
  refine xi_ifnonnullN dX11_firsts_8 ?_
  refine xi_bipush (v := (-2)) dX11_firsts_11 (by decide) ?_
  refine xi_goto (tgt := 20) dX11_firsts_13 (by decide) ?_
  exact xi_iret dX11_firsts_20 rfl rfl (Nat.le_of_ble_eq_true rfl) (Nat.le_of_ble_eq_true rfl) ⟨rfl, rfl⟩
set_option maxHeartbeats 4000000 in
set_option maxRecDepth 100000 in
theorem fx_bound (G : xG) (a1 a2 a3 : Int32) : xC G mX11_bound 3 0 0 [.ref 0, .int a1, .int a2, .int a3] (MX 0 (fun _ => 0) rd0 mo0 (fun _ => 0) (fun _ => 0) (fun _ => 0)) (fun v M2 => v = some (.int (-2)) ∧ M2 = (MX 0 (fun _ => 0) rd0 mo0 (fun _ => 0) (fun _ => 0) (fun _ => 0))) := by
  refine xC.of (by decide) (Nat.le_of_ble_eq_true rfl) ?_
  show xW _ _ _ _ 0 [(0, .ref 0), (1, .int a1), (2, .int a2), (3, .int a3)] [] _ 0 0
  refine xi_aload_n 0 dX11_bound_0 rfl ?_
  refine xi_iload_n 1 dX11_bound_1 rfl ?_
  refine xi_callV (as := [.int a1]) (rest := []) dX11_bound_2 (fx_netIn G a1) mkX11_netIn w_491 ws_15 w_489 rfl rfl rfl rfl rfl (Nat.le_of_ble_eq_true rfl) (Nat.le_of_ble_eq_true rfl) (Nat.le_of_ble_eq_true rfl) (Nat.le_of_ble_eq_true rfl) (Nat.le_of_ble_eq_true rfl) ?_
  intro v M2 hq
  obtain ⟨rfl, rfl⟩ := hq
  show xW _ _ _ _ 5 _ [.null] (MX 0 (fun _ => 0) rd0 mo0 (fun _ => 0) (fun _ => 0) (fun _ => 0)) _ _
  refine xi_astoreN (lv' := [(4, .null), (0, .ref 0), (1, .int a1), (2, .int a2), (3, .int a3)]) dX11_bound_5 (by decide) rfl ?_
  refine xi_aloadN 0 dX11_bound_7 rfl ?_
  refine xi_ifnullN (tgt := 19) dX11_bound_9 (by decide) ?_
  refine xi_bipush (v := (-2)) dX11_bound_19 (by decide) ?_
  exact xi_iret dX11_bound_21 rfl rfl (Nat.le_of_ble_eq_true rfl) (Nat.le_of_ble_eq_true rfl) ⟨rfl, rfl⟩
set_option maxHeartbeats 4000000 in
set_option maxRecDepth 100000 in
theorem fx_minor (G : xG) (a1 : Int32) : xC G mX11_minor 3 0 0 [.ref 0, .int a1] (MX 0 (fun _ => 0) rd0 mo0 (fun _ => 0) (fun _ => 0) (fun _ => 0)) (fun v M2 => v = some (.int (-2)) ∧ M2 = (MX 0 (fun _ => 0) rd0 mo0 (fun _ => 0) (fun _ => 0) (fun _ => 0))) := by
  refine xC.of (by decide) (Nat.le_of_ble_eq_true rfl) ?_
  show xW _ _ _ _ 0 [(0, .ref 0), (1, .int a1)] [] _ 0 0
  refine xi_aload_n 0 dX11_minor_0 rfl ?_
  refine xi_iload_n 1 dX11_minor_1 rfl ?_
  refine xi_callV (as := [.int a1]) (rest := []) dX11_minor_2 (fx_netIn G a1) mkX11_netIn w_491 ws_15 w_489 rfl rfl rfl rfl rfl (Nat.le_of_ble_eq_true rfl) (Nat.le_of_ble_eq_true rfl) (Nat.le_of_ble_eq_true rfl) (Nat.le_of_ble_eq_true rfl) (Nat.le_of_ble_eq_true rfl) ?_
  intro v M2 hq
  obtain ⟨rfl, rfl⟩ := hq
  show xW _ _ _ _ 5 _ [.null] (MX 0 (fun _ => 0) rd0 mo0 (fun _ => 0) (fun _ => 0) (fun _ => 0)) _ _
  refine xi_astore_nN (lv' := [(2, .null), (0, .ref 0), (1, .int a1)]) dX11_minor_5 (by decide) rfl ?_
  refine xi_aload_nN 0 dX11_minor_6 rfl ?_
  refine xi_ifnonnullN dX11_minor_7 ?_
  refine xi_bipush (v := (-2)) dX11_minor_10 (by decide) ?_
  exact xi_iret dX11_minor_12 rfl rfl (Nat.le_of_ble_eq_true rfl) (Nat.le_of_ble_eq_true rfl) ⟨rfl, rfl⟩
set_option maxHeartbeats 4000000 in
set_option maxRecDepth 100000 in
theorem fx_among (G : xG) (a1 a2 a3 : Int32) : xC G mX11_among 3 0 0 [.ref 0, .int a1, .int a2, .int a3] (MX 0 (fun _ => 0) rd0 mo0 (fun _ => 0) (fun _ => 0) (fun _ => 0)) (fun v M2 => v = some (.int (-2)) ∧ M2 = (MX 0 (fun _ => 0) rd0 mo0 (fun _ => 0) (fun _ => 0) (fun _ => 0))) := by
  refine xC.of (by decide) (Nat.le_of_ble_eq_true rfl) ?_
  show xW _ _ _ _ 0 [(0, .ref 0), (1, .int a1), (2, .int a2), (3, .int a3)] [] _ 0 0
  refine xi_aload_n 0 dX11_among_0 rfl ?_
  refine xi_iload_n 1 dX11_among_1 rfl ?_
  refine xi_iload_n 2 dX11_among_2 rfl ?_
  refine xi_callV (as := [.int a1, .int a2]) (rest := []) dX11_among_3 (fx_findingOf G a1 a2) mkX11_findingOf w_659 ws_16 w_657 rfl rfl rfl rfl rfl (Nat.le_of_ble_eq_true rfl) (Nat.le_of_ble_eq_true rfl) (Nat.le_of_ble_eq_true rfl) (Nat.le_of_ble_eq_true rfl) (Nat.le_of_ble_eq_true rfl) ?_
  intro v M2 hq
  obtain ⟨rfl, rfl⟩ := hq
  show xW _ _ _ _ 6 _ [.null] (MX 0 (fun _ => 0) rd0 mo0 (fun _ => 0) (fun _ => 0) (fun _ => 0)) _ _
  refine xi_astoreN (lv' := [(4, .null), (0, .ref 0), (1, .int a1), (2, .int a2), (3, .int a3)]) dX11_among_6 (by decide) rfl ?_
  refine xi_aloadN 0 dX11_among_8 rfl ?_
  refine xi_ifnullN (tgt := 32) dX11_among_10 (by decide) ?_
  refine xi_bipush (v := (-2)) dX11_among_32 (by decide) ?_
  exact xi_iret dX11_among_34 rfl rfl (Nat.le_of_ble_eq_true rfl) (Nat.le_of_ble_eq_true rfl) ⟨rfl, rfl⟩
set_option maxHeartbeats 4000000 in
set_option maxRecDepth 100000 in
theorem fx_split (G : xG) (a1 a2 a3 : Int32) : xC G mX11_split 3 0 0 [.ref 0, .int a1, .int a2, .int a3] (MX 0 (fun _ => 0) rd0 mo0 (fun _ => 0) (fun _ => 0) (fun _ => 0)) (fun v M2 => v = some (.int (-2)) ∧ M2 = (MX 0 (fun _ => 0) rd0 mo0 (fun _ => 0) (fun _ => 0) (fun _ => 0))) := by
  refine xC.of (by decide) (Nat.le_of_ble_eq_true rfl) ?_
  show xW _ _ _ _ 0 [(0, .ref 0), (1, .int a1), (2, .int a2), (3, .int a3)] [] _ 0 0
  refine xi_aload_n 0 dX11_split_0 rfl ?_
  refine xi_iload_n 1 dX11_split_1 rfl ?_
  refine xi_callV (as := [.int a1]) (rest := []) dX11_split_2 (fx_netIn G a1) mkX11_netIn w_491 ws_15 w_489 rfl rfl rfl rfl rfl (Nat.le_of_ble_eq_true rfl) (Nat.le_of_ble_eq_true rfl) (Nat.le_of_ble_eq_true rfl) (Nat.le_of_ble_eq_true rfl) (Nat.le_of_ble_eq_true rfl) ?_
  intro v M2 hq
  obtain ⟨rfl, rfl⟩ := hq
  show xW _ _ _ _ 5 _ [.null] (MX 0 (fun _ => 0) rd0 mo0 (fun _ => 0) (fun _ => 0) (fun _ => 0)) _ _
  refine xi_astoreN (lv' := [(4, .null), (0, .ref 0), (1, .int a1), (2, .int a2), (3, .int a3)]) dX11_split_5 (by decide) rfl ?_
  refine xi_aloadN 0 dX11_split_7 rfl ?_
  refine xi_ifnullN (tgt := 25) dX11_split_9 (by decide) ?_
  refine xi_bipush (v := (-2)) dX11_split_25 (by decide) ?_
  exact xi_iret dX11_split_27 rfl rfl (Nat.le_of_ble_eq_true rfl) (Nat.le_of_ble_eq_true rfl) ⟨rfl, rfl⟩
set_option maxHeartbeats 4000000 in
set_option maxRecDepth 100000 in
theorem fx_halve (G : xG) (a1 : Int32) : xC G mX11_halve 3 0 0 [.ref 0, .int a1] (MX 0 (fun _ => 0) rd0 mo0 (fun _ => 0) (fun _ => 0) (fun _ => 0)) (fun v M2 => v = some (.int (-2)) ∧ M2 = (MX 0 (fun _ => 0) rd0 mo0 (fun _ => 0) (fun _ => 0) (fun _ => 0))) := by
  refine xC.of (by decide) (Nat.le_of_ble_eq_true rfl) ?_
  show xW _ _ _ _ 0 [(0, .ref 0), (1, .int a1)] [] _ 0 0
  refine xi_aload_n 0 dX11_halve_0 rfl ?_
  refine xi_iload_n 1 dX11_halve_1 rfl ?_
  refine xi_callV (as := [.int a1]) (rest := []) dX11_halve_2 (fx_netIn G a1) mkX11_netIn w_491 ws_15 w_489 rfl rfl rfl rfl rfl (Nat.le_of_ble_eq_true rfl) (Nat.le_of_ble_eq_true rfl) (Nat.le_of_ble_eq_true rfl) (Nat.le_of_ble_eq_true rfl) (Nat.le_of_ble_eq_true rfl) ?_
  intro v M2 hq
  obtain ⟨rfl, rfl⟩ := hq
  show xW _ _ _ _ 5 _ [.null] (MX 0 (fun _ => 0) rd0 mo0 (fun _ => 0) (fun _ => 0) (fun _ => 0)) _ _
  refine xi_astore_nN (lv' := [(2, .null), (0, .ref 0), (1, .int a1)]) dX11_halve_5 (by decide) rfl ?_
  refine xi_aload_nN 0 dX11_halve_6 rfl ?_
  refine xi_ifnonnullN dX11_halve_7 ?_
  refine xi_bipush (v := (-2)) dX11_halve_10 (by decide) ?_
  refine xi_goto (tgt := 19) dX11_halve_12 (by decide) ?_
  exact xi_iret dX11_halve_19 rfl rfl (Nat.le_of_ble_eq_true rfl) (Nat.le_of_ble_eq_true rfl) ⟨rfl, rfl⟩
set_option maxHeartbeats 4000000 in
set_option maxRecDepth 100000 in
theorem fx_bag (G : xG) (a1 a2 a3 : Int32) : xC G mX11_bag 3 0 0 [.ref 0, .int a1, .int a2, .int a3] (MX 0 (fun _ => 0) rd0 mo0 (fun _ => 0) (fun _ => 0) (fun _ => 0)) (fun v M2 => v = some (.int (-2)) ∧ M2 = (MX 0 (fun _ => 0) rd0 mo0 (fun _ => 0) (fun _ => 0) (fun _ => 0))) := by
  refine xC.of (by decide) (Nat.le_of_ble_eq_true rfl) ?_
  show xW _ _ _ _ 0 [(0, .ref 0), (1, .int a1), (2, .int a2), (3, .int a3)] [] _ 0 0
  refine xi_aload_n 0 dX11_bag_0 rfl ?_
  refine xi_iload_n 1 dX11_bag_1 rfl ?_
  refine xi_callV (as := [.int a1]) (rest := []) dX11_bag_2 (fx_netIn G a1) mkX11_netIn w_491 ws_15 w_489 rfl rfl rfl rfl rfl (Nat.le_of_ble_eq_true rfl) (Nat.le_of_ble_eq_true rfl) (Nat.le_of_ble_eq_true rfl) (Nat.le_of_ble_eq_true rfl) (Nat.le_of_ble_eq_true rfl) ?_
  intro v M2 hq
  obtain ⟨rfl, rfl⟩ := hq
  show xW _ _ _ _ 5 _ [.null] (MX 0 (fun _ => 0) rd0 mo0 (fun _ => 0) (fun _ => 0) (fun _ => 0)) _ _
  refine xi_astoreN (lv' := [(4, .null), (0, .ref 0), (1, .int a1), (2, .int a2), (3, .int a3)]) dX11_bag_5 (by decide) rfl ?_
  refine xi_aloadN 0 dX11_bag_7 rfl ?_
  refine xi_ifnullN (tgt := 21) dX11_bag_9 (by decide) ?_
  refine xi_bipush (v := (-2)) dX11_bag_21 (by decide) ?_
  exact xi_iret dX11_bag_23 rfl rfl (Nat.le_of_ble_eq_true rfl) (Nat.le_of_ble_eq_true rfl) ⟨rfl, rfl⟩
set_option maxHeartbeats 4000000 in
set_option maxRecDepth 100000 in
theorem fx_filled (G : xG) (a1 a2 : Int32) : xC G mX11_filled 3 0 0 [.ref 0, .int a1, .int a2] (MX 0 (fun _ => 0) rd0 mo0 (fun _ => 0) (fun _ => 0) (fun _ => 0)) (fun v M2 => v = some (.int (-2)) ∧ M2 = (MX 0 (fun _ => 0) rd0 mo0 (fun _ => 0) (fun _ => 0) (fun _ => 0))) := by
  refine xC.of (by decide) (Nat.le_of_ble_eq_true rfl) ?_
  show xW _ _ _ _ 0 [(0, .ref 0), (1, .int a1), (2, .int a2)] [] _ 0 0
  refine xi_aload_n 0 dX11_filled_0 rfl ?_
  refine xi_iload_n 1 dX11_filled_1 rfl ?_
  refine xi_callV (as := [.int a1]) (rest := []) dX11_filled_2 (fx_netIn G a1) mkX11_netIn w_491 ws_15 w_489 rfl rfl rfl rfl rfl (Nat.le_of_ble_eq_true rfl) (Nat.le_of_ble_eq_true rfl) (Nat.le_of_ble_eq_true rfl) (Nat.le_of_ble_eq_true rfl) (Nat.le_of_ble_eq_true rfl) ?_
  intro v M2 hq
  obtain ⟨rfl, rfl⟩ := hq
  show xW _ _ _ _ 5 _ [.null] (MX 0 (fun _ => 0) rd0 mo0 (fun _ => 0) (fun _ => 0) (fun _ => 0)) _ _
  refine xi_astore_nN (lv' := [(3, .null), (0, .ref 0), (1, .int a1), (2, .int a2)]) dX11_filled_5 (by decide) rfl ?_
  refine xi_aload_nN 0 dX11_filled_6 rfl ?_
  refine xi_ifnullN (tgt := 15) dX11_filled_7 (by decide) ?_
  refine xi_bipush (v := (-2)) dX11_filled_15 (by decide) ?_
  refine xi_goto (tgt := 25) dX11_filled_17 (by decide) ?_
  exact xi_iret dX11_filled_25 rfl rfl (Nat.le_of_ble_eq_true rfl) (Nat.le_of_ble_eq_true rfl) ⟨rfl, rfl⟩
set_option maxHeartbeats 4000000 in
set_option maxRecDepth 100000 in
theorem fx_gain (G : xG) (a1 a2 a3 a4 : Int32) : xC G mX11_gain 3 0 0 [.ref 0, .int a1, .int a2, .int a3, .int a4] (MX 0 (fun _ => 0) rd0 mo0 (fun _ => 0) (fun _ => 0) (fun _ => 0)) (fun v M2 => v = some (.int (-1000)) ∧ M2 = (MX 0 (fun _ => 0) rd0 mo0 (fun _ => 0) (fun _ => 0) (fun _ => 0))) := by
  refine xC.of (by decide) (Nat.le_of_ble_eq_true rfl) ?_
  show xW _ _ _ _ 0 [(0, .ref 0), (1, .int a1), (2, .int a2), (3, .int a3), (4, .int a4)] [] _ 0 0
  refine xi_aload_n 0 dX11_gain_0 rfl ?_
  refine xi_iload_n 1 dX11_gain_1 rfl ?_
  refine xi_callV (as := [.int a1]) (rest := []) dX11_gain_2 (fx_netIn G a1) mkX11_netIn w_491 ws_15 w_489 rfl rfl rfl rfl rfl (Nat.le_of_ble_eq_true rfl) (Nat.le_of_ble_eq_true rfl) (Nat.le_of_ble_eq_true rfl) (Nat.le_of_ble_eq_true rfl) (Nat.le_of_ble_eq_true rfl) ?_
  intro v M2 hq
  obtain ⟨rfl, rfl⟩ := hq
  show xW _ _ _ _ 5 _ [.null] (MX 0 (fun _ => 0) rd0 mo0 (fun _ => 0) (fun _ => 0) (fun _ => 0)) _ _
  refine xi_astoreN (lv' := [(5, .null), (0, .ref 0), (1, .int a1), (2, .int a2), (3, .int a3), (4, .int a4)]) dX11_gain_5 (by decide) rfl ?_
  refine xi_aloadN 0 dX11_gain_7 rfl ?_
  refine xi_ifnullN (tgt := 38) dX11_gain_9 (by decide) ?_
  refine xi_sipush (v := (-1000)) dX11_gain_38 (by decide) ?_
  exact xi_iret dX11_gain_41 rfl rfl (Nat.le_of_ble_eq_true rfl) (Nat.le_of_ble_eq_true rfl) ⟨rfl, rfl⟩
set_option maxHeartbeats 4000000 in
set_option maxRecDepth 100000 in
theorem fx_swaps (G : xG) (a1 a2 a3 : Int32) : xC G mX11_swaps 3 0 0 [.ref 0, .int a1, .int a2, .int a3] (MX 0 (fun _ => 0) rd0 mo0 (fun _ => 0) (fun _ => 0) (fun _ => 0)) (fun v M2 => v = some (.int (-2)) ∧ M2 = (MX 0 (fun _ => 0) rd0 mo0 (fun _ => 0) (fun _ => 0) (fun _ => 0))) := by
  refine xC.of (by decide) (Nat.le_of_ble_eq_true rfl) ?_
  show xW _ _ _ _ 0 [(0, .ref 0), (1, .int a1), (2, .int a2), (3, .int a3)] [] _ 0 0
  refine xi_aload_n 0 dX11_swaps_0 rfl ?_
  refine xi_iload_n 1 dX11_swaps_1 rfl ?_
  refine xi_callV (as := [.int a1]) (rest := []) dX11_swaps_2 (fx_netIn G a1) mkX11_netIn w_491 ws_15 w_489 rfl rfl rfl rfl rfl (Nat.le_of_ble_eq_true rfl) (Nat.le_of_ble_eq_true rfl) (Nat.le_of_ble_eq_true rfl) (Nat.le_of_ble_eq_true rfl) (Nat.le_of_ble_eq_true rfl) ?_
  intro v M2 hq
  obtain ⟨rfl, rfl⟩ := hq
  show xW _ _ _ _ 5 _ [.null] (MX 0 (fun _ => 0) rd0 mo0 (fun _ => 0) (fun _ => 0) (fun _ => 0)) _ _
  refine xi_astoreN (lv' := [(4, .null), (0, .ref 0), (1, .int a1), (2, .int a2), (3, .int a3)]) dX11_swaps_5 (by decide) rfl ?_
  refine xi_aloadN 0 dX11_swaps_7 rfl ?_
  refine xi_ifnullN (tgt := 30) dX11_swaps_9 (by decide) ?_
  refine xi_bipush (v := (-2)) dX11_swaps_30 (by decide) ?_
  exact xi_iret dX11_swaps_32 rfl rfl (Nat.le_of_ble_eq_true rfl) (Nat.le_of_ble_eq_true rfl) ⟨rfl, rfl⟩
set_option maxHeartbeats 4000000 in
set_option maxRecDepth 100000 in
theorem fx_moves (G : xG) (a1 a2 a3 : Int32) : xC G mX11_moves 3 0 0 [.ref 0, .int a1, .int a2, .int a3] (MX 0 (fun _ => 0) rd0 mo0 (fun _ => 0) (fun _ => 0) (fun _ => 0)) (fun v M2 => v = some (.int (-2)) ∧ M2 = (MX 0 (fun _ => 0) rd0 mo0 (fun _ => 0) (fun _ => 0) (fun _ => 0))) := by
  refine xC.of (by decide) (Nat.le_of_ble_eq_true rfl) ?_
  show xW _ _ _ _ 0 [(0, .ref 0), (1, .int a1), (2, .int a2), (3, .int a3)] [] _ 0 0
  refine xi_aload_n 0 dX11_moves_0 rfl ?_
  refine xi_iload_n 1 dX11_moves_1 rfl ?_
  refine xi_callV (as := [.int a1]) (rest := []) dX11_moves_2 (fx_netIn G a1) mkX11_netIn w_491 ws_15 w_489 rfl rfl rfl rfl rfl (Nat.le_of_ble_eq_true rfl) (Nat.le_of_ble_eq_true rfl) (Nat.le_of_ble_eq_true rfl) (Nat.le_of_ble_eq_true rfl) (Nat.le_of_ble_eq_true rfl) ?_
  intro v M2 hq
  obtain ⟨rfl, rfl⟩ := hq
  show xW _ _ _ _ 5 _ [.null] (MX 0 (fun _ => 0) rd0 mo0 (fun _ => 0) (fun _ => 0) (fun _ => 0)) _ _
  refine xi_astoreN (lv' := [(4, .null), (0, .ref 0), (1, .int a1), (2, .int a2), (3, .int a3)]) dX11_moves_5 (by decide) rfl ?_
  refine xi_aloadN 0 dX11_moves_7 rfl ?_
  refine xi_ifnullN (tgt := 30) dX11_moves_9 (by decide) ?_
  refine xi_bipush (v := (-2)) dX11_moves_30 (by decide) ?_
  exact xi_iret dX11_moves_32 rfl rfl (Nat.le_of_ble_eq_true rfl) (Nat.le_of_ble_eq_true rfl) ⟨rfl, rfl⟩
set_option maxHeartbeats 4000000 in
set_option maxRecDepth 100000 in
theorem fx_reverse (G : xG) (a1 : Int32) : xC G mX11_reverse 3 0 0 [.ref 0, .int a1] (MX 0 (fun _ => 0) rd0 mo0 (fun _ => 0) (fun _ => 0) (fun _ => 0)) (fun v M2 => v = some (.int (-2)) ∧ M2 = (MX 0 (fun _ => 0) rd0 mo0 (fun _ => 0) (fun _ => 0) (fun _ => 0))) := by
  refine xC.of (by decide) (Nat.le_of_ble_eq_true rfl) ?_
  show xW _ _ _ _ 0 [(0, .ref 0), (1, .int a1)] [] _ 0 0
  refine xi_aload_n 0 dX11_reverse_0 rfl ?_
  refine xi_iload_n 1 dX11_reverse_1 rfl ?_
  refine xi_callV (as := [.int a1]) (rest := []) dX11_reverse_2 (fx_netIn G a1) mkX11_netIn w_491 ws_15 w_489 rfl rfl rfl rfl rfl (Nat.le_of_ble_eq_true rfl) (Nat.le_of_ble_eq_true rfl) (Nat.le_of_ble_eq_true rfl) (Nat.le_of_ble_eq_true rfl) (Nat.le_of_ble_eq_true rfl) ?_
  intro v M2 hq
  obtain ⟨rfl, rfl⟩ := hq
  show xW _ _ _ _ 5 _ [.null] (MX 0 (fun _ => 0) rd0 mo0 (fun _ => 0) (fun _ => 0) (fun _ => 0)) _ _
  refine xi_astore_nN (lv' := [(2, .null), (0, .ref 0), (1, .int a1)]) dX11_reverse_5 (by decide) rfl ?_
  refine xi_aload_nN 0 dX11_reverse_6 rfl ?_
  refine xi_ifnonnullN dX11_reverse_7 ?_
  refine xi_bipush (v := (-2)) dX11_reverse_10 (by decide) ?_
  exact xi_iret dX11_reverse_12 rfl rfl (Nat.le_of_ble_eq_true rfl) (Nat.le_of_ble_eq_true rfl) ⟨rfl, rfl⟩
set_option maxHeartbeats 4000000 in
set_option maxRecDepth 100000 in
theorem fx_takes (G : xG) (a1 a2 : Int32) : xC G mX11_takes 3 0 0 [.ref 0, .int a1, .int a2] (MX 0 (fun _ => 0) rd0 mo0 (fun _ => 0) (fun _ => 0) (fun _ => 0)) (fun v M2 => v = some (.int (-2)) ∧ M2 = (MX 0 (fun _ => 0) rd0 mo0 (fun _ => 0) (fun _ => 0) (fun _ => 0))) := by
  refine xC.of (by decide) (Nat.le_of_ble_eq_true rfl) ?_
  show xW _ _ _ _ 0 [(0, .ref 0), (1, .int a1), (2, .int a2)] [] _ 0 0
  refine xi_aload_n 0 dX11_takes_0 rfl ?_
  refine xi_iload_n 1 dX11_takes_1 rfl ?_
  refine xi_iload_n 2 dX11_takes_2 rfl ?_
  refine xi_callV (as := [.int a1, .int a2]) (rest := []) dX11_takes_3 (fx_findingOf G a1 a2) mkX11_findingOf w_659 ws_16 w_657 rfl rfl rfl rfl rfl (Nat.le_of_ble_eq_true rfl) (Nat.le_of_ble_eq_true rfl) (Nat.le_of_ble_eq_true rfl) (Nat.le_of_ble_eq_true rfl) (Nat.le_of_ble_eq_true rfl) ?_
  intro v M2 hq
  obtain ⟨rfl, rfl⟩ := hq
  show xW _ _ _ _ 6 _ [.null] (MX 0 (fun _ => 0) rd0 mo0 (fun _ => 0) (fun _ => 0) (fun _ => 0)) _ _
  refine xi_astore_nN (lv' := [(3, .null), (0, .ref 0), (1, .int a1), (2, .int a2)]) dX11_takes_6 (by decide) rfl ?_
  refine xi_aload_nN 0 dX11_takes_7 rfl ?_
  refine xi_ifnonnullN dX11_takes_8 ?_
  refine xi_bipush (v := (-2)) dX11_takes_11 (by decide) ?_
  exact xi_iret dX11_takes_13 rfl rfl (Nat.le_of_ble_eq_true rfl) (Nat.le_of_ble_eq_true rfl) ⟨rfl, rfl⟩
set_option maxHeartbeats 4000000 in
set_option maxRecDepth 100000 in
theorem fx_polish (G : xG) (a1 a2 : Int32) : xC G mX11_polish 3 0 0 [.ref 0, .int a1, .int a2] (MX 0 (fun _ => 0) rd0 mo0 (fun _ => 0) (fun _ => 0) (fun _ => 0)) (fun v M2 => v = some (.int (-2)) ∧ M2 = (MX 0 (fun _ => 0) rd0 mo0 (fun _ => 0) (fun _ => 0) (fun _ => 0))) := by
  refine xC.of (by decide) (Nat.le_of_ble_eq_true rfl) ?_
  show xW _ _ _ _ 0 [(0, .ref 0), (1, .int a1), (2, .int a2)] [] _ 0 0
  refine xi_aload_n 0 dX11_polish_0 rfl ?_
  refine xi_iload_n 1 dX11_polish_1 rfl ?_
  refine xi_callV (as := [.int a1]) (rest := []) dX11_polish_2 (fx_netIn G a1) mkX11_netIn w_491 ws_15 w_489 rfl rfl rfl rfl rfl (Nat.le_of_ble_eq_true rfl) (Nat.le_of_ble_eq_true rfl) (Nat.le_of_ble_eq_true rfl) (Nat.le_of_ble_eq_true rfl) (Nat.le_of_ble_eq_true rfl) ?_
  intro v M2 hq
  obtain ⟨rfl, rfl⟩ := hq
  show xW _ _ _ _ 5 _ [.null] (MX 0 (fun _ => 0) rd0 mo0 (fun _ => 0) (fun _ => 0) (fun _ => 0)) _ _
  refine xi_astore_nN (lv' := [(3, .null), (0, .ref 0), (1, .int a1), (2, .int a2)]) dX11_polish_5 (by decide) rfl ?_
  refine xi_aload_nN 0 dX11_polish_6 rfl ?_
  refine xi_ifnullN (tgt := 17) dX11_polish_7 (by decide) ?_
  refine xi_bipush (v := (-2)) dX11_polish_17 (by decide) ?_
  exact xi_iret dX11_polish_19 rfl rfl (Nat.le_of_ble_eq_true rfl) (Nat.le_of_ble_eq_true rfl) ⟨rfl, rfl⟩
set_option maxHeartbeats 4000000 in
set_option maxRecDepth 100000 in
theorem fx_polished (G : xG) (a1 a2 : Int32) : xC G mX11_polished 3 0 0 [.ref 0, .int a1, .int a2] (MX 0 (fun _ => 0) rd0 mo0 (fun _ => 0) (fun _ => 0) (fun _ => 0)) (fun v M2 => v = some (.int (-2)) ∧ M2 = (MX 0 (fun _ => 0) rd0 mo0 (fun _ => 0) (fun _ => 0) (fun _ => 0))) := by
  refine xC.of (by decide) (Nat.le_of_ble_eq_true rfl) ?_
  show xW _ _ _ _ 0 [(0, .ref 0), (1, .int a1), (2, .int a2)] [] _ 0 0
  refine xi_aload_n 0 dX11_polished_0 rfl ?_
  refine xi_iload_n 1 dX11_polished_1 rfl ?_
  refine xi_callV (as := [.int a1]) (rest := []) dX11_polished_2 (fx_netIn G a1) mkX11_netIn w_491 ws_15 w_489 rfl rfl rfl rfl rfl (Nat.le_of_ble_eq_true rfl) (Nat.le_of_ble_eq_true rfl) (Nat.le_of_ble_eq_true rfl) (Nat.le_of_ble_eq_true rfl) (Nat.le_of_ble_eq_true rfl) ?_
  intro v M2 hq
  obtain ⟨rfl, rfl⟩ := hq
  show xW _ _ _ _ 5 _ [.null] (MX 0 (fun _ => 0) rd0 mo0 (fun _ => 0) (fun _ => 0) (fun _ => 0)) _ _
  refine xi_astore_nN (lv' := [(3, .null), (0, .ref 0), (1, .int a1), (2, .int a2)]) dX11_polished_5 (by decide) rfl ?_
  refine xi_aload_nN 0 dX11_polished_6 rfl ?_
  refine xi_ifnullN (tgt := 17) dX11_polished_7 (by decide) ?_
  refine xi_bipush (v := (-2)) dX11_polished_17 (by decide) ?_
  exact xi_iret dX11_polished_19 rfl rfl (Nat.le_of_ble_eq_true rfl) (Nat.le_of_ble_eq_true rfl) ⟨rfl, rfl⟩
set_option maxHeartbeats 4000000 in
set_option maxRecDepth 100000 in
theorem fx_greedy (G : xG) (a1 a2 : Int32) : xC G mX11_greedy 3 0 0 [.ref 0, .int a1, .int a2] (MX 0 (fun _ => 0) rd0 mo0 (fun _ => 0) (fun _ => 0) (fun _ => 0)) (fun v M2 => v = some (.int (-2)) ∧ M2 = (MX 0 (fun _ => 0) rd0 mo0 (fun _ => 0) (fun _ => 0) (fun _ => 0))) := by
  refine xC.of (by decide) (Nat.le_of_ble_eq_true rfl) ?_
  show xW _ _ _ _ 0 [(0, .ref 0), (1, .int a1), (2, .int a2)] [] _ 0 0
  refine xi_aload_n 0 dX11_greedy_0 rfl ?_
  refine xi_iload_n 1 dX11_greedy_1 rfl ?_
  refine xi_callV (as := [.int a1]) (rest := []) dX11_greedy_2 (fx_netIn G a1) mkX11_netIn w_491 ws_15 w_489 rfl rfl rfl rfl rfl (Nat.le_of_ble_eq_true rfl) (Nat.le_of_ble_eq_true rfl) (Nat.le_of_ble_eq_true rfl) (Nat.le_of_ble_eq_true rfl) (Nat.le_of_ble_eq_true rfl) ?_
  intro v M2 hq
  obtain ⟨rfl, rfl⟩ := hq
  show xW _ _ _ _ 5 _ [.null] (MX 0 (fun _ => 0) rd0 mo0 (fun _ => 0) (fun _ => 0) (fun _ => 0)) _ _
  refine xi_astore_nN (lv' := [(3, .null), (0, .ref 0), (1, .int a1), (2, .int a2)]) dX11_greedy_5 (by decide) rfl ?_
  refine xi_aload_nN 0 dX11_greedy_6 rfl ?_
  refine xi_ifnullN (tgt := 17) dX11_greedy_7 (by decide) ?_
  refine xi_bipush (v := (-2)) dX11_greedy_17 (by decide) ?_
  exact xi_iret dX11_greedy_19 rfl rfl (Nat.le_of_ble_eq_true rfl) (Nat.le_of_ble_eq_true rfl) ⟨rfl, rfl⟩
set_option maxHeartbeats 4000000 in
set_option maxRecDepth 100000 in
theorem fx_layers (G : xG) (a1 a2 : Int32) : xC G mX11_layers 3 0 0 [.ref 0, .int a1, .int a2] (MX 0 (fun _ => 0) rd0 mo0 (fun _ => 0) (fun _ => 0) (fun _ => 0)) (fun v M2 => v = some (.int (-2)) ∧ M2 = (MX 0 (fun _ => 0) rd0 mo0 (fun _ => 0) (fun _ => 0) (fun _ => 0))) := by
  refine xC.of (by decide) (Nat.le_of_ble_eq_true rfl) ?_
  show xW _ _ _ _ 0 [(0, .ref 0), (1, .int a1), (2, .int a2)] [] _ 0 0
  refine xi_aload_n 0 dX11_layers_0 rfl ?_
  refine xi_iload_n 1 dX11_layers_1 rfl ?_
  refine xi_callV (as := [.int a1]) (rest := []) dX11_layers_2 (fx_netIn G a1) mkX11_netIn w_491 ws_15 w_489 rfl rfl rfl rfl rfl (Nat.le_of_ble_eq_true rfl) (Nat.le_of_ble_eq_true rfl) (Nat.le_of_ble_eq_true rfl) (Nat.le_of_ble_eq_true rfl) (Nat.le_of_ble_eq_true rfl) ?_
  intro v M2 hq
  obtain ⟨rfl, rfl⟩ := hq
  show xW _ _ _ _ 5 _ [.null] (MX 0 (fun _ => 0) rd0 mo0 (fun _ => 0) (fun _ => 0) (fun _ => 0)) _ _
  refine xi_astore_nN (lv' := [(3, .null), (0, .ref 0), (1, .int a1), (2, .int a2)]) dX11_layers_5 (by decide) rfl ?_
  refine xi_aload_nN 0 dX11_layers_6 rfl ?_
  refine xi_ifnullN (tgt := 18) dX11_layers_7 (by decide) ?_
  refine xi_bipush (v := (-2)) dX11_layers_18 (by decide) ?_
  exact xi_iret dX11_layers_20 rfl rfl (Nat.le_of_ble_eq_true rfl) (Nat.le_of_ble_eq_true rfl) ⟨rfl, rfl⟩
set_option maxHeartbeats 4000000 in
set_option maxRecDepth 100000 in
theorem fx_adds (G : xG) (a1 a2 a3 a4 : Int32) : xC G mX11_adds 3 0 0 [.ref 0, .int a1, .int a2, .int a3, .int a4] (MX 0 (fun _ => 0) rd0 mo0 (fun _ => 0) (fun _ => 0) (fun _ => 0)) (fun v M2 => v = some (.int (-2)) ∧ M2 = (MX 0 (fun _ => 0) rd0 mo0 (fun _ => 0) (fun _ => 0) (fun _ => 0))) := by
  refine xC.of (by decide) (Nat.le_of_ble_eq_true rfl) ?_
  show xW _ _ _ _ 0 [(0, .ref 0), (1, .int a1), (2, .int a2), (3, .int a3), (4, .int a4)] [] _ 0 0
  refine xi_aload_n 0 dX11_adds_0 rfl ?_
  refine xi_iload_n 1 dX11_adds_1 rfl ?_
  refine xi_callV (as := [.int a1]) (rest := []) dX11_adds_2 (fx_netIn G a1) mkX11_netIn w_491 ws_15 w_489 rfl rfl rfl rfl rfl (Nat.le_of_ble_eq_true rfl) (Nat.le_of_ble_eq_true rfl) (Nat.le_of_ble_eq_true rfl) (Nat.le_of_ble_eq_true rfl) (Nat.le_of_ble_eq_true rfl) ?_
  intro v M2 hq
  obtain ⟨rfl, rfl⟩ := hq
  show xW _ _ _ _ 5 _ [.null] (MX 0 (fun _ => 0) rd0 mo0 (fun _ => 0) (fun _ => 0) (fun _ => 0)) _ _
  refine xi_astoreN (lv' := [(5, .null), (0, .ref 0), (1, .int a1), (2, .int a2), (3, .int a3), (4, .int a4)]) dX11_adds_5 (by decide) rfl ?_
  refine xi_aloadN 0 dX11_adds_7 rfl ?_
  refine xi_ifnullN (tgt := 35) dX11_adds_9 (by decide) ?_
  refine xi_bipush (v := (-2)) dX11_adds_35 (by decide) ?_
  exact xi_iret dX11_adds_37 rfl rfl (Nat.le_of_ble_eq_true rfl) (Nat.le_of_ble_eq_true rfl) ⟨rfl, rfl⟩
set_option maxHeartbeats 4000000 in
set_option maxRecDepth 100000 in
theorem fx_cuts (G : xG) (a1 a2 a3 : Int32) : xC G mX11_cuts 3 0 0 [.ref 0, .int a1, .int a2, .int a3] (MX 0 (fun _ => 0) rd0 mo0 (fun _ => 0) (fun _ => 0) (fun _ => 0)) (fun v M2 => v = some (.int (-2)) ∧ M2 = (MX 0 (fun _ => 0) rd0 mo0 (fun _ => 0) (fun _ => 0) (fun _ => 0))) := by
  refine xC.of (by decide) (Nat.le_of_ble_eq_true rfl) ?_
  show xW _ _ _ _ 0 [(0, .ref 0), (1, .int a1), (2, .int a2), (3, .int a3)] [] _ 0 0
  refine xi_aload_n 0 dX11_cuts_0 rfl ?_
  refine xi_iload_n 1 dX11_cuts_1 rfl ?_
  refine xi_callV (as := [.int a1]) (rest := []) dX11_cuts_2 (fx_netIn G a1) mkX11_netIn w_491 ws_15 w_489 rfl rfl rfl rfl rfl (Nat.le_of_ble_eq_true rfl) (Nat.le_of_ble_eq_true rfl) (Nat.le_of_ble_eq_true rfl) (Nat.le_of_ble_eq_true rfl) (Nat.le_of_ble_eq_true rfl) ?_
  intro v M2 hq
  obtain ⟨rfl, rfl⟩ := hq
  show xW _ _ _ _ 5 _ [.null] (MX 0 (fun _ => 0) rd0 mo0 (fun _ => 0) (fun _ => 0) (fun _ => 0)) _ _
  refine xi_astoreN (lv' := [(4, .null), (0, .ref 0), (1, .int a1), (2, .int a2), (3, .int a3)]) dX11_cuts_5 (by decide) rfl ?_
  refine xi_aloadN 0 dX11_cuts_7 rfl ?_
  refine xi_ifnullN (tgt := 22) dX11_cuts_9 (by decide) ?_
  refine xi_bipush (v := (-2)) dX11_cuts_22 (by decide) ?_
  exact xi_iret dX11_cuts_24 rfl rfl (Nat.le_of_ble_eq_true rfl) (Nat.le_of_ble_eq_true rfl) ⟨rfl, rfl⟩
set_option maxHeartbeats 4000000 in
set_option maxRecDepth 100000 in
theorem fx_merges (G : xG) (a1 a2 a3 : Int32) : xC G mX11_merges 3 0 0 [.ref 0, .int a1, .int a2, .int a3] (MX 0 (fun _ => 0) rd0 mo0 (fun _ => 0) (fun _ => 0) (fun _ => 0)) (fun v M2 => v = some (.int (-2)) ∧ M2 = (MX 0 (fun _ => 0) rd0 mo0 (fun _ => 0) (fun _ => 0) (fun _ => 0))) := by
  refine xC.of (by decide) (Nat.le_of_ble_eq_true rfl) ?_
  show xW _ _ _ _ 0 [(0, .ref 0), (1, .int a1), (2, .int a2), (3, .int a3)] [] _ 0 0
  refine xi_aload_n 0 dX11_merges_0 rfl ?_
  refine xi_iload_n 1 dX11_merges_1 rfl ?_
  refine xi_callV (as := [.int a1]) (rest := []) dX11_merges_2 (fx_netIn G a1) mkX11_netIn w_491 ws_15 w_489 rfl rfl rfl rfl rfl (Nat.le_of_ble_eq_true rfl) (Nat.le_of_ble_eq_true rfl) (Nat.le_of_ble_eq_true rfl) (Nat.le_of_ble_eq_true rfl) (Nat.le_of_ble_eq_true rfl) ?_
  intro v M2 hq
  obtain ⟨rfl, rfl⟩ := hq
  show xW _ _ _ _ 5 _ [.null] (MX 0 (fun _ => 0) rd0 mo0 (fun _ => 0) (fun _ => 0) (fun _ => 0)) _ _
  refine xi_astoreN (lv' := [(4, .null), (0, .ref 0), (1, .int a1), (2, .int a2), (3, .int a3)]) dX11_merges_5 (by decide) rfl ?_
  refine xi_aloadN 0 dX11_merges_7 rfl ?_
  refine xi_ifnullN (tgt := 22) dX11_merges_9 (by decide) ?_
  refine xi_bipush (v := (-2)) dX11_merges_22 (by decide) ?_
  exact xi_iret dX11_merges_24 rfl rfl (Nat.le_of_ble_eq_true rfl) (Nat.le_of_ble_eq_true rfl) ⟨rfl, rfl⟩
set_option maxHeartbeats 4000000 in
set_option maxRecDepth 100000 in
theorem fx_tell (G : xG) (a1 a2 : Int32) : xC G mX11_tell 3 0 0 [.ref 0, .int a1, .int a2] (MX 0 (fun _ => 0) rd0 mo0 (fun _ => 0) (fun _ => 0) (fun _ => 0)) (fun v M2 => v = some (.int (-2)) ∧ M2 = (MX 0 (fun _ => 0) rd0 mo0 (fun _ => 0) (fun _ => 0) (fun _ => 0))) := by
  refine xC.of (by decide) (Nat.le_of_ble_eq_true rfl) ?_
  show xW _ _ _ _ 0 [(0, .ref 0), (1, .int a1), (2, .int a2)] [] _ 0 0
  refine xi_aload_n 0 dX11_tell_0 rfl ?_
  refine xi_iload_n 1 dX11_tell_1 rfl ?_
  refine xi_callV (as := [.int a1]) (rest := []) dX11_tell_2 (fx_netIn G a1) mkX11_netIn w_491 ws_15 w_489 rfl rfl rfl rfl rfl (Nat.le_of_ble_eq_true rfl) (Nat.le_of_ble_eq_true rfl) (Nat.le_of_ble_eq_true rfl) (Nat.le_of_ble_eq_true rfl) (Nat.le_of_ble_eq_true rfl) ?_
  intro v M2 hq
  obtain ⟨rfl, rfl⟩ := hq
  show xW _ _ _ _ 5 _ [.null] (MX 0 (fun _ => 0) rd0 mo0 (fun _ => 0) (fun _ => 0) (fun _ => 0)) _ _
  refine xi_astore_nN (lv' := [(3, .null), (0, .ref 0), (1, .int a1), (2, .int a2)]) dX11_tell_5 (by decide) rfl ?_
  refine xi_aload_nN 0 dX11_tell_6 rfl ?_
  refine xi_ifnullN (tgt := 19) dX11_tell_7 (by decide) ?_
  refine xi_bipush (v := (-2)) dX11_tell_19 (by decide) ?_
  exact xi_iret dX11_tell_21 rfl rfl (Nat.le_of_ble_eq_true rfl) (Nat.le_of_ble_eq_true rfl) ⟨rfl, rfl⟩
set_option maxHeartbeats 4000000 in
set_option maxRecDepth 100000 in
theorem fx_drops_0 (G : xG) : xC G mX11_drops 3 0 0 [.ref 0, .int 0] (MX 0 (fun _ => 0) rd0 mo0 (fun _ => 0) (fun _ => 0) (fun _ => 0)) (fun v M2 => v = some (.int 0) ∧ M2 = (MX 0 (fun _ => 0) rd0 mo0 (fun _ => 0) (fun _ => 0) (fun _ => 0))) := by
  refine xC.of (by decide) (Nat.le_of_ble_eq_true rfl) ?_
  show xW _ _ _ _ 0 [(0, .ref 0), (1, .int 0)] [] _ 0 0
  refine xi_iload_n 1 dX11_drops_0 rfl ?_
  refine xi_callS (as := [.int 0]) (rest := []) dX11_drops_1 (fx_isSlot_0 G) mkX11_isSlot w_299 w_298 rfl rfl (Nat.le_of_ble_eq_true rfl) (Nat.le_of_ble_eq_true rfl) (Nat.le_of_ble_eq_true rfl) (Nat.le_of_ble_eq_true rfl) (Nat.le_of_ble_eq_true rfl) ?_
  intro v M2 hq
  obtain ⟨rfl, rfl⟩ := hq
  show xW _ _ _ _ 4 _ [.int 1] (MX 0 (fun _ => 0) rd0 mo0 (fun _ => 0) (fun _ => 0) (fun _ => 0)) _ _
  refine xi_if_ne_t (tgt := 10) dX11_drops_4 (by decide) (by decide) ?_
  refine xi_aload_n 0 dX11_drops_10 rfl ?_
  refine xi_get (f := 3) dX11_drops_11 rfl rfl ok_8 (by decide) w_245 rfl ?_
  refine xi_iload_n 1 dX11_drops_14 rfl ?_
  refine xi_aaload (v := .ref 12) dX11_drops_15 rfl rfl (by unfold vp_in; decide) rfl ?_
  refine xi_astore_n (lv' := [(2, .ref 12), (0, .ref 0), (1, .int 0)]) dX11_drops_16 (by decide) rfl ?_
  refine xi_aload_n 0 dX11_drops_17 rfl ?_
  refine xi_get (f := 0) dX11_drops_18 rfl rfl ok_5 (by decide) w_66 rfl ?_
  refine xi_if_ne_f (tgt := 26) dX11_drops_21 (by decide) (by decide) ?_
  refine xi_iconst (v := 0) dX11_drops_24 (by decide) ?_
  exact xi_iret dX11_drops_25 rfl rfl (Nat.le_of_ble_eq_true rfl) (Nat.le_of_ble_eq_true rfl) ⟨rfl, rfl⟩
set_option maxHeartbeats 4000000 in
set_option maxRecDepth 100000 in
theorem fx_drops_1 (G : xG) : xC G mX11_drops 3 0 0 [.ref 0, .int 1] (MX 0 (fun _ => 0) rd0 mo0 (fun _ => 0) (fun _ => 0) (fun _ => 0)) (fun v M2 => v = some (.int 0) ∧ M2 = (MX 0 (fun _ => 0) rd0 mo0 (fun _ => 0) (fun _ => 0) (fun _ => 0))) := by
  refine xC.of (by decide) (Nat.le_of_ble_eq_true rfl) ?_
  show xW _ _ _ _ 0 [(0, .ref 0), (1, .int 1)] [] _ 0 0
  refine xi_iload_n 1 dX11_drops_0 rfl ?_
  refine xi_callS (as := [.int 1]) (rest := []) dX11_drops_1 (fx_isSlot_1 G) mkX11_isSlot w_299 w_298 rfl rfl (Nat.le_of_ble_eq_true rfl) (Nat.le_of_ble_eq_true rfl) (Nat.le_of_ble_eq_true rfl) (Nat.le_of_ble_eq_true rfl) (Nat.le_of_ble_eq_true rfl) ?_
  intro v M2 hq
  obtain ⟨rfl, rfl⟩ := hq
  show xW _ _ _ _ 4 _ [.int 1] (MX 0 (fun _ => 0) rd0 mo0 (fun _ => 0) (fun _ => 0) (fun _ => 0)) _ _
  refine xi_if_ne_t (tgt := 10) dX11_drops_4 (by decide) (by decide) ?_
  refine xi_aload_n 0 dX11_drops_10 rfl ?_
  refine xi_get (f := 3) dX11_drops_11 rfl rfl ok_8 (by decide) w_245 rfl ?_
  refine xi_iload_n 1 dX11_drops_14 rfl ?_
  refine xi_aaload (v := .ref 36) dX11_drops_15 rfl rfl (by unfold vp_in; decide) rfl ?_
  refine xi_astore_n (lv' := [(2, .ref 36), (0, .ref 0), (1, .int 1)]) dX11_drops_16 (by decide) rfl ?_
  refine xi_aload_n 0 dX11_drops_17 rfl ?_
  refine xi_get (f := 0) dX11_drops_18 rfl rfl ok_5 (by decide) w_66 rfl ?_
  refine xi_if_ne_f (tgt := 26) dX11_drops_21 (by decide) (by decide) ?_
  refine xi_iconst (v := 0) dX11_drops_24 (by decide) ?_
  exact xi_iret dX11_drops_25 rfl rfl (Nat.le_of_ble_eq_true rfl) (Nat.le_of_ble_eq_true rfl) ⟨rfl, rfl⟩
set_option maxHeartbeats 4000000 in
set_option maxRecDepth 100000 in
theorem fx_drops_2 (G : xG) : xC G mX11_drops 3 0 0 [.ref 0, .int 2] (MX 0 (fun _ => 0) rd0 mo0 (fun _ => 0) (fun _ => 0) (fun _ => 0)) (fun v M2 => v = some (.int 0) ∧ M2 = (MX 0 (fun _ => 0) rd0 mo0 (fun _ => 0) (fun _ => 0) (fun _ => 0))) := by
  refine xC.of (by decide) (Nat.le_of_ble_eq_true rfl) ?_
  show xW _ _ _ _ 0 [(0, .ref 0), (1, .int 2)] [] _ 0 0
  refine xi_iload_n 1 dX11_drops_0 rfl ?_
  refine xi_callS (as := [.int 2]) (rest := []) dX11_drops_1 (fx_isSlot_2 G) mkX11_isSlot w_299 w_298 rfl rfl (Nat.le_of_ble_eq_true rfl) (Nat.le_of_ble_eq_true rfl) (Nat.le_of_ble_eq_true rfl) (Nat.le_of_ble_eq_true rfl) (Nat.le_of_ble_eq_true rfl) ?_
  intro v M2 hq
  obtain ⟨rfl, rfl⟩ := hq
  show xW _ _ _ _ 4 _ [.int 1] (MX 0 (fun _ => 0) rd0 mo0 (fun _ => 0) (fun _ => 0) (fun _ => 0)) _ _
  refine xi_if_ne_t (tgt := 10) dX11_drops_4 (by decide) (by decide) ?_
  refine xi_aload_n 0 dX11_drops_10 rfl ?_
  refine xi_get (f := 3) dX11_drops_11 rfl rfl ok_8 (by decide) w_245 rfl ?_
  refine xi_iload_n 1 dX11_drops_14 rfl ?_
  refine xi_aaload (v := .ref 60) dX11_drops_15 rfl rfl (by unfold vp_in; decide) rfl ?_
  refine xi_astore_n (lv' := [(2, .ref 60), (0, .ref 0), (1, .int 2)]) dX11_drops_16 (by decide) rfl ?_
  refine xi_aload_n 0 dX11_drops_17 rfl ?_
  refine xi_get (f := 0) dX11_drops_18 rfl rfl ok_5 (by decide) w_66 rfl ?_
  refine xi_if_ne_f (tgt := 26) dX11_drops_21 (by decide) (by decide) ?_
  refine xi_iconst (v := 0) dX11_drops_24 (by decide) ?_
  exact xi_iret dX11_drops_25 rfl rfl (Nat.le_of_ble_eq_true rfl) (Nat.le_of_ble_eq_true rfl) ⟨rfl, rfl⟩
set_option maxHeartbeats 4000000 in
set_option maxRecDepth 100000 in
theorem fx_drops_out (G : xG) (a1 : Int32) (h : a1 < 0 ∨ 3 ≤ a1) : xC G mX11_drops 3 0 0 [.ref 0, .int a1] (MX 0 (fun _ => 0) rd0 mo0 (fun _ => 0) (fun _ => 0) (fun _ => 0)) (fun v M2 => v = some (.int (-2)) ∧ M2 = (MX 0 (fun _ => 0) rd0 mo0 (fun _ => 0) (fun _ => 0) (fun _ => 0))) := by
  refine xC.of (by decide) (Nat.le_of_ble_eq_true rfl) ?_
  show xW _ _ _ _ 0 [(0, .ref 0), (1, .int a1)] [] _ 0 0
  refine xi_iload_n 1 dX11_drops_0 rfl ?_
  refine xi_callS (as := [.int a1]) (rest := []) dX11_drops_1 (fx_isSlot_out G _ h) mkX11_isSlot w_299 w_298 rfl rfl (Nat.le_of_ble_eq_true rfl) (Nat.le_of_ble_eq_true rfl) (Nat.le_of_ble_eq_true rfl) (Nat.le_of_ble_eq_true rfl) (Nat.le_of_ble_eq_true rfl) ?_
  intro v M2 hq
  obtain ⟨rfl, rfl⟩ := hq
  show xW _ _ _ _ 4 _ [.int 0] (MX 0 (fun _ => 0) rd0 mo0 (fun _ => 0) (fun _ => 0) (fun _ => 0)) _ _
  refine xi_if_ne_f (tgt := 10) dX11_drops_4 (by decide) (by decide) ?_
  refine xi_bipush (v := (-2)) dX11_drops_7 (by decide) ?_
  exact xi_iret dX11_drops_9 rfl rfl (Nat.le_of_ble_eq_true rfl) (Nat.le_of_ble_eq_true rfl) ⟨rfl, rfl⟩
set_option maxHeartbeats 4000000 in
set_option maxRecDepth 100000 in
theorem fx_undo (G : xG) : xC G mX11_undo 3 0 0 [.ref 0] (MX 0 (fun _ => 0) rd0 mo0 (fun _ => 0) (fun _ => 0) (fun _ => 0)) (fun v M2 => v = some (.int (-1)) ∧ M2 = (MX 0 (fun _ => 0) rd0 mo0 (fun _ => 0) (fun _ => 0) (fun _ => 0))) := by
  refine xC.of (by decide) (Nat.le_of_ble_eq_true rfl) ?_
  show xW _ _ _ _ 0 [(0, .ref 0)] [] _ 0 0
  refine xi_aload_n 0 dX11_undo_0 rfl ?_
  refine xi_get (f := 7) dX11_undo_1 rfl rfl ok_8 (by decide) w_249 rfl ?_
  refine xi_get (f := 0) dX11_undo_4 rfl rfl ok_4 (by decide) w_229 rfl ?_
  refine xi_if_ne_f (tgt := 12) dX11_undo_7 (by decide) (by decide) ?_
  refine xi_iconst (v := (-1)) dX11_undo_10 (by decide) ?_
  exact xi_iret dX11_undo_11 rfl rfl (Nat.le_of_ble_eq_true rfl) (Nat.le_of_ble_eq_true rfl) ⟨rfl, rfl⟩
set_option maxHeartbeats 4000000 in
set_option maxRecDepth 100000 in
theorem fx_fault (G : xG) (a1 : Int32) : xC G mX11_fault 3 0 0 [.ref 0, .int a1] (MX 0 (fun _ => 0) rd0 mo0 (fun _ => 0) (fun _ => 0) (fun _ => 0)) (fun v M2 => v = some (.int (if a1 = 0 then 0 else (-1))) ∧ M2 = (MX 0 (fun _ => 0) rd0 mo0 (fun _ => 0) (fun _ => 0) (fun _ => 0))) := by
  refine xC.of (by decide) (Nat.le_of_ble_eq_true rfl) ?_
  show xW _ _ _ _ 0 [(0, .ref 0), (1, .int a1)] [] _ 0 0
  refine xi_iload_n 1 dX11_fault_0 rfl ?_
  refine xi_if_ne (tgt := 12) dX11_fault_1 (by decide) (fun c1 => ?_) (fun c1 => ?_)
  · refine xi_iload_n 1 dX11_fault_12 rfl ?_
    refine xi_iconst (v := 1) dX11_fault_13 (by decide) ?_
    refine xi_icmp_ne (tgt := 27) dX11_fault_14 (by decide) (fun c2 => ?_) (fun c2 => ?_)
    · refine xi_iconst (v := (-1)) dX11_fault_27 (by decide) ?_
      exact xi_iret dX11_fault_28 rfl rfl (Nat.le_of_ble_eq_true rfl) (Nat.le_of_ble_eq_true rfl) ⟨by simp only [c1, if_pos, if_neg, if_true, if_false, not_false_eq_true], rfl⟩
    · refine xi_aload_n 0 dX11_fault_17 rfl ?_
      refine xi_get (f := 2) dX11_fault_18 rfl rfl ok_8 (by decide) w_244 rfl ?_
      refine xi_get (f := 2) dX11_fault_21 rfl rfl ok_6 (by decide) w_101 rfl ?_
      refine xi_goto (tgt := 28) dX11_fault_24 (by decide) ?_
      exact xi_iret dX11_fault_28 rfl rfl (Nat.le_of_ble_eq_true rfl) (Nat.le_of_ble_eq_true rfl) ⟨by simp only [c1, if_pos, if_neg, if_true, if_false, not_false_eq_true], rfl⟩
  · refine xi_aload_n 0 dX11_fault_4 rfl ?_
    refine xi_get (f := 2) dX11_fault_5 rfl rfl ok_8 (by decide) w_244 rfl ?_
    refine xi_get (f := 1) dX11_fault_8 rfl rfl ok_6 (by decide) w_99 rfl ?_
    exact xi_iret dX11_fault_11 rfl rfl (Nat.le_of_ble_eq_true rfl) (Nat.le_of_ble_eq_true rfl) ⟨by simp only [c1, if_pos, if_neg, if_true, if_false, not_false_eq_true], rfl⟩
set_option maxHeartbeats 4000000 in
set_option maxRecDepth 100000 in
theorem fx_at (G : xG) (a1 : Int32) : xC G mX1_at 0 0 0 [.ref 3, .int a1] (MX 0 (fun _ => 0) rd0 mo0 (fun _ => 0) (fun _ => 0) (fun _ => 0)) (fun v M2 => v = some (.int (-1)) ∧ M2 = (MX 0 (fun _ => 0) rd0 mo0 (fun _ => 0) (fun _ => 0) (fun _ => 0))) := by
  refine xC.of (by decide) (Nat.le_of_ble_eq_true rfl) ?_
  show xW _ _ _ _ 0 [(0, .ref 3), (1, .int a1)] [] _ 0 0
  refine xi_iload_n 1 dX1_at_0 rfl ?_
  refine xi_if_lt (tgt := 25) dX1_at_1 (by decide) (fun c1 => ?_) (fun c1 => ?_)
  · refine xi_iconst (v := (-1)) dX1_at_25 (by decide) ?_
    exact xi_iret dX1_at_26 rfl rfl (Nat.le_of_ble_eq_true rfl) (Nat.le_of_ble_eq_true rfl) ⟨rfl, rfl⟩
  · refine xi_iload_n 1 dX1_at_4 rfl ?_
    refine xi_aload_n 0 dX1_at_5 rfl ?_
    refine xi_get (f := 1) dX1_at_6 rfl rfl ok_1 (by decide) w_40 rfl ?_
    refine xi_icmp_ge (tgt := 25) dX1_at_9 (by decide) (fun c2 => ?_) (fun c2 => ?_)
    · refine xi_iconst (v := (-1)) dX1_at_25 (by decide) ?_
      exact xi_iret dX1_at_26 rfl rfl (Nat.le_of_ble_eq_true rfl) (Nat.le_of_ble_eq_true rfl) ⟨rfl, rfl⟩
    · refine xi_aload_n 0 dX1_at_12 rfl ?_
      refine xi_get (f := 0) dX1_at_13 rfl rfl ok_1 (by decide) w_39 rfl ?_
      refine xi_iload_n 1 dX1_at_16 rfl ?_
      refine xi_baload (v := (0 : Int32)) dX1_at_17 rfl (False.elim (c2 (Int32.not_lt.mp c1))) (False.elim (c2 (Int32.not_lt.mp c1))) ?_
      refine xi_sipush (v := 255) dX1_at_18 (by decide) ?_
      refine xi_iand dX1_at_21 rfl ?_
      refine xi_goto (tgt := 26) dX1_at_22 (by decide) ?_
      exact xi_iret dX1_at_26 rfl rfl (Nat.le_of_ble_eq_true rfl) (Nat.le_of_ble_eq_true rfl) (False.elim (c2 (Int32.not_lt.mp c1)))
set_option maxHeartbeats 4000000 in
set_option maxRecDepth 100000 in
theorem fx_octet (G : xG) (a1 : Int32) : xC G mX11_octet 3 0 0 [.ref 0, .int a1] (MX 0 (fun _ => 0) rd0 mo0 (fun _ => 0) (fun _ => 0) (fun _ => 0)) (fun v M2 => v = some (.int (-1)) ∧ M2 = (MX 0 (fun _ => 0) rd0 mo0 (fun _ => 0) (fun _ => 0) (fun _ => 0))) := by
  refine xC.of (by decide) (Nat.le_of_ble_eq_true rfl) ?_
  show xW _ _ _ _ 0 [(0, .ref 0), (1, .int a1)] [] _ 0 0
  refine xi_aload_n 0 dX11_octet_0 rfl ?_
  refine xi_get (f := 1) dX11_octet_1 rfl rfl ok_8 (by decide) w_243 rfl ?_
  refine xi_iload_n 1 dX11_octet_4 rfl ?_
  refine xi_callV (as := [.int a1]) (rest := []) dX11_octet_5 (fx_at G a1) mkX1_at w_310 w_311 w_1001 rfl rfl rfl rfl rfl (Nat.le_of_ble_eq_true rfl) (Nat.le_of_ble_eq_true rfl) (Nat.le_of_ble_eq_true rfl) (Nat.le_of_ble_eq_true rfl) (Nat.le_of_ble_eq_true rfl) ?_
  intro v M2 hq
  obtain ⟨rfl, rfl⟩ := hq
  show xW _ _ _ _ 8 _ [.int (-1)] (MX 0 (fun _ => 0) rd0 mo0 (fun _ => 0) (fun _ => 0) (fun _ => 0)) _ _
  exact xi_iret dX11_octet_8 rfl rfl (Nat.le_of_ble_eq_true rfl) (Nat.le_of_ble_eq_true rfl) ⟨rfl, rfl⟩
set_option maxHeartbeats 4000000 in
set_option maxRecDepth 100000 in
theorem fx_filledSlots (G : xG) : xC G mX11_filledSlots 1 0 0 [.ref 0] (MX 0 (fun _ => 0) rd0 mo0 (fun _ => 0) (fun _ => 0) (fun _ => 0)) (fun v M2 => v = some (.int 0) ∧ M2 = (MX 0 (fun _ => 0) rd0 mo0 (fun _ => 0) (fun _ => 0) (fun _ => 0))) := by
  refine xC.of (by decide) (Nat.le_of_ble_eq_true rfl) ?_
  show xW _ _ _ _ 0 [(0, .ref 0)] [] _ 0 0
  refine xi_iconst (v := 0) dX11_filledSlots_0 (by decide) ?_
  refine xi_istore_n (lv' := [(1, .int 0), (0, .ref 0)]) dX11_filledSlots_1 (by decide) rfl ?_
  refine xi_iconst (v := 0) dX11_filledSlots_2 (by decide) ?_
  refine xi_istore_n (lv' := [(2, .int 0), (1, .int 0), (0, .ref 0)]) dX11_filledSlots_3 (by decide) rfl ?_
  refine xi_iload_n 0 dX11_filledSlots_4 rfl ?_
  refine xi_iconst (v := 3) dX11_filledSlots_5 (by decide) ?_
  refine xi_icmp_ge_f (tgt := 33) dX11_filledSlots_6 (by decide) (by decide) ?_
  refine xi_aload_n 2 dX11_filledSlots_9 rfl ?_
  refine xi_get (f := 3) dX11_filledSlots_10 rfl rfl ok_8 (by decide) w_245 rfl ?_
  refine xi_iload_n 0 dX11_filledSlots_13 rfl ?_
  refine xi_aaload (v := .ref 12) dX11_filledSlots_14 rfl rfl (by unfold vp_in; decide) rfl ?_
  refine xi_get (f := 0) dX11_filledSlots_15 rfl rfl ok_5 (by decide) w_66 rfl ?_
  refine xi_if_le_t (tgt := 27) dX11_filledSlots_18 (by decide) (by decide) ?_
  refine xi_iinc (v := 1) (lv' := [(2, .int 1), (1, .int 0), (0, .ref 0)]) 0 dX11_filledSlots_27 rfl (by decide) (by decide) rfl ?_
  refine xi_goto (tgt := 4) dX11_filledSlots_30 (by decide) ?_
  refine xi_iload_n 0 dX11_filledSlots_4 rfl ?_
  refine xi_iconst (v := 3) dX11_filledSlots_5 (by decide) ?_
  refine xi_icmp_ge_f (tgt := 33) dX11_filledSlots_6 (by decide) (by decide) ?_
  refine xi_aload_n 2 dX11_filledSlots_9 rfl ?_
  refine xi_get (f := 3) dX11_filledSlots_10 rfl rfl ok_8 (by decide) w_245 rfl ?_
  refine xi_iload_n 0 dX11_filledSlots_13 rfl ?_
  refine xi_aaload (v := .ref 36) dX11_filledSlots_14 rfl rfl (by unfold vp_in; decide) rfl ?_
  refine xi_get (f := 0) dX11_filledSlots_15 rfl rfl ok_5 (by decide) w_66 rfl ?_
  refine xi_if_le_t (tgt := 27) dX11_filledSlots_18 (by decide) (by decide) ?_
  refine xi_iinc (v := 2) (lv' := [(2, .int 2), (1, .int 0), (0, .ref 0)]) 0 dX11_filledSlots_27 rfl (by decide) (by decide) rfl ?_
  refine xi_goto (tgt := 4) dX11_filledSlots_30 (by decide) ?_
  refine xi_iload_n 0 dX11_filledSlots_4 rfl ?_
  refine xi_iconst (v := 3) dX11_filledSlots_5 (by decide) ?_
  refine xi_icmp_ge_f (tgt := 33) dX11_filledSlots_6 (by decide) (by decide) ?_
  refine xi_aload_n 2 dX11_filledSlots_9 rfl ?_
  refine xi_get (f := 3) dX11_filledSlots_10 rfl rfl ok_8 (by decide) w_245 rfl ?_
  refine xi_iload_n 0 dX11_filledSlots_13 rfl ?_
  refine xi_aaload (v := .ref 60) dX11_filledSlots_14 rfl rfl (by unfold vp_in; decide) rfl ?_
  refine xi_get (f := 0) dX11_filledSlots_15 rfl rfl ok_5 (by decide) w_66 rfl ?_
  refine xi_if_le_t (tgt := 27) dX11_filledSlots_18 (by decide) (by decide) ?_
  refine xi_iinc (v := 3) (lv' := [(2, .int 3), (1, .int 0), (0, .ref 0)]) 0 dX11_filledSlots_27 rfl (by decide) (by decide) rfl ?_
  refine xi_goto (tgt := 4) dX11_filledSlots_30 (by decide) ?_
  refine xi_iload_n 0 dX11_filledSlots_4 rfl ?_
  refine xi_iconst (v := 3) dX11_filledSlots_5 (by decide) ?_
  refine xi_icmp_ge_t (tgt := 33) dX11_filledSlots_6 (by decide) (by decide) ?_
  refine xi_iload_n 1 dX11_filledSlots_33 rfl ?_
  exact xi_iret dX11_filledSlots_34 rfl rfl (Nat.le_of_ble_eq_true rfl) (Nat.le_of_ble_eq_true rfl) ⟨rfl, rfl⟩
set_option maxHeartbeats 4000000 in
set_option maxRecDepth 100000 in
theorem fx_count_0 (G : xG) : xC G mX11_count 3 0 0 [.ref 0, .int 0] (MX 0 (fun _ => 0) rd0 mo0 (fun _ => 0) (fun _ => 0) (fun _ => 0)) (fun v M2 => v = some (.int 0) ∧ M2 = (MX 0 (fun _ => 0) rd0 mo0 (fun _ => 0) (fun _ => 0) (fun _ => 0))) := by
  refine xC.of (by decide) (Nat.le_of_ble_eq_true rfl) ?_
  show xW _ _ _ _ 0 [(0, .ref 0), (1, .int 0)] [] _ 0 0
  refine xi_iload_n 1 dX11_count_0 rfl ?_
  refine xi_tableIn (off := 31) (tgt := 32) dX11_count_1 (by decide) (by decide) (by decide) (by decide) ?_
  refine xi_aload_n 0 dX11_count_32 rfl ?_
  refine xi_callV (as := []) (rest := []) dX11_count_33 (fx_filledSlots G) mkX11_filledSlots w_483 ws_14 w_481 rfl rfl rfl rfl rfl (Nat.le_of_ble_eq_true rfl) (Nat.le_of_ble_eq_true rfl) (Nat.le_of_ble_eq_true rfl) (Nat.le_of_ble_eq_true rfl) (Nat.le_of_ble_eq_true rfl) ?_
  intro v M2 hq
  obtain ⟨rfl, rfl⟩ := hq
  show xW _ _ _ _ 36 _ [.int 0] (MX 0 (fun _ => 0) rd0 mo0 (fun _ => 0) (fun _ => 0) (fun _ => 0)) _ _
  exact xi_iret dX11_count_36 rfl rfl (Nat.le_of_ble_eq_true rfl) (Nat.le_of_ble_eq_true rfl) ⟨rfl, rfl⟩
set_option maxHeartbeats 4000000 in
set_option maxRecDepth 100000 in
theorem fx_count_1 (G : xG) : xC G mX11_count 3 0 0 [.ref 0, .int 1] (MX 0 (fun _ => 0) rd0 mo0 (fun _ => 0) (fun _ => 0) (fun _ => 0)) (fun v M2 => v = some (.int 0) ∧ M2 = (MX 0 (fun _ => 0) rd0 mo0 (fun _ => 0) (fun _ => 0) (fun _ => 0))) := by
  refine xC.of (by decide) (Nat.le_of_ble_eq_true rfl) ?_
  show xW _ _ _ _ 0 [(0, .ref 0), (1, .int 1)] [] _ 0 0
  refine xi_iload_n 1 dX11_count_0 rfl ?_
  refine xi_tableIn (off := 36) (tgt := 37) dX11_count_1 (by decide) (by decide) (by decide) (by decide) ?_
  refine xi_aload_n 0 dX11_count_37 rfl ?_
  refine xi_get (f := 7) dX11_count_38 rfl rfl ok_8 (by decide) w_249 rfl ?_
  refine xi_get (f := 0) dX11_count_41 rfl rfl ok_4 (by decide) w_229 rfl ?_
  exact xi_iret dX11_count_44 rfl rfl (Nat.le_of_ble_eq_true rfl) (Nat.le_of_ble_eq_true rfl) ⟨rfl, rfl⟩
set_option maxHeartbeats 4000000 in
set_option maxRecDepth 100000 in
theorem fx_count_2 (G : xG) : xC G mX11_count 3 0 0 [.ref 0, .int 2] (MX 0 (fun _ => 0) rd0 mo0 (fun _ => 0) (fun _ => 0) (fun _ => 0)) (fun v M2 => v = some (.int 0) ∧ M2 = (MX 0 (fun _ => 0) rd0 mo0 (fun _ => 0) (fun _ => 0) (fun _ => 0))) := by
  refine xC.of (by decide) (Nat.le_of_ble_eq_true rfl) ?_
  show xW _ _ _ _ 0 [(0, .ref 0), (1, .int 2)] [] _ 0 0
  refine xi_iload_n 1 dX11_count_0 rfl ?_
  refine xi_tableIn (off := 44) (tgt := 45) dX11_count_1 (by decide) (by decide) (by decide) (by decide) ?_
  refine xi_aload_n 0 dX11_count_45 rfl ?_
  refine xi_get (f := 0) dX11_count_46 rfl rfl ok_8 (by decide) w_242 rfl ?_
  refine xi_get (f := 1) dX11_count_49 rfl rfl ok_1 (by decide) w_41 rfl ?_
  exact xi_iret dX11_count_52 rfl rfl (Nat.le_of_ble_eq_true rfl) (Nat.le_of_ble_eq_true rfl) ⟨rfl, rfl⟩
set_option maxHeartbeats 4000000 in
set_option maxRecDepth 100000 in
theorem fx_count_3 (G : xG) : xC G mX11_count 3 0 0 [.ref 0, .int 3] (MX 0 (fun _ => 0) rd0 mo0 (fun _ => 0) (fun _ => 0) (fun _ => 0)) (fun v M2 => v = some (.int 0) ∧ M2 = (MX 0 (fun _ => 0) rd0 mo0 (fun _ => 0) (fun _ => 0) (fun _ => 0))) := by
  refine xC.of (by decide) (Nat.le_of_ble_eq_true rfl) ?_
  show xW _ _ _ _ 0 [(0, .ref 0), (1, .int 3)] [] _ 0 0
  refine xi_iload_n 1 dX11_count_0 rfl ?_
  refine xi_tableIn (off := 52) (tgt := 53) dX11_count_1 (by decide) (by decide) (by decide) (by decide) ?_
  refine xi_aload_n 0 dX11_count_53 rfl ?_
  refine xi_get (f := 1) dX11_count_54 rfl rfl ok_8 (by decide) w_243 rfl ?_
  refine xi_get (f := 1) dX11_count_57 rfl rfl ok_1 (by decide) w_41 rfl ?_
  exact xi_iret dX11_count_60 rfl rfl (Nat.le_of_ble_eq_true rfl) (Nat.le_of_ble_eq_true rfl) ⟨rfl, rfl⟩
set_option maxHeartbeats 4000000 in
set_option maxRecDepth 100000 in
theorem fx_count_out (G : xG) (a1 : Int32) (h : a1.toInt < 0 ∨ 3 < a1.toInt) : xC G mX11_count 3 0 0 [.ref 0, .int a1] (MX 0 (fun _ => 0) rd0 mo0 (fun _ => 0) (fun _ => 0) (fun _ => 0)) (fun v M2 => v = some (.int (-1)) ∧ M2 = (MX 0 (fun _ => 0) rd0 mo0 (fun _ => 0) (fun _ => 0) (fun _ => 0))) := by
  refine xC.of (by decide) (Nat.le_of_ble_eq_true rfl) ?_
  show xW _ _ _ _ 0 [(0, .ref 0), (1, .int a1)] [] _ 0 0
  refine xi_iload_n 1 dX11_count_0 rfl ?_
  refine xi_tableOut (tgt := 61) dX11_count_1 h (by decide) ?_
  refine xi_iconst (v := (-1)) dX11_count_61 (by decide) ?_
  exact xi_iret dX11_count_62 rfl rfl (Nat.le_of_ble_eq_true rfl) (Nat.le_of_ble_eq_true rfl) ⟨rfl, rfl⟩
set_option maxHeartbeats 4000000 in
set_option maxRecDepth 100000 in
theorem fx_end_0 (G : xG) : xC G mX11_end 3 0 0 [.ref 0, .int 0] (MX 0 (fun _ => 0) rd0 mo0 (fun _ => 0) (fun _ => 0) (fun _ => 0)) (fun v M2 => v = some (.int 0) ∧ M2 = (MX 0 (fun _ => 0) rd0 mo0 (fun _ => 0) (fun _ => 0) (fun _ => 0))) := by
  refine xC.of (by decide) (Nat.le_of_ble_eq_true rfl) ?_
  show xW _ _ _ _ 0 [(0, .ref 0), (1, .int 0)] [] _ 0 0
  refine xi_iload_n 1 dX11_end_0 rfl ?_
  refine xi_if_lt_f (tgt := 15) dX11_end_1 (by decide) (by decide) ?_
  refine xi_iload_n 1 dX11_end_4 rfl ?_
  refine xi_aload_n 0 dX11_end_5 rfl ?_
  refine xi_get (f := 0) dX11_end_6 rfl rfl ok_8 (by decide) w_242 rfl ?_
  refine xi_get (f := 1) dX11_end_9 rfl rfl ok_1 (by decide) w_41 rfl ?_
  refine xi_icmp_le_t (tgt := 17) dX11_end_12 (by decide) (by decide) ?_
  refine xi_aload_n 0 dX11_end_17 rfl ?_
  refine xi_get (f := 0) dX11_end_18 rfl rfl ok_8 (by decide) w_242 rfl ?_
  refine xi_iload_n 1 dX11_end_21 rfl ?_
  refine xi_put (f := 1) (ty := .int) (M' := (MX 0 (fun _ => 0) rd0 mo0 (fun _ => 0) (fun _ => 0) (fun _ => 0))) dX11_end_22 rfl rfl ok_1 (by decide) w_41 rfl pf_I (fun _ h => by cases h) rfl rfl (Nat.le_of_ble_eq_true rfl) rfl ?_
  refine xi_iload_n 1 dX11_end_25 rfl ?_
  exact xi_iret dX11_end_26 rfl rfl (Nat.le_of_ble_eq_true rfl) (Nat.le_of_ble_eq_true rfl) ⟨rfl, rfl⟩
set_option maxHeartbeats 4000000 in
set_option maxRecDepth 100000 in
theorem fx_end_out (G : xG) (a1 : Int32) (h : a1 < 0 ∨ 0 < a1) : xC G mX11_end 3 0 0 [.ref 0, .int a1] (MX 0 (fun _ => 0) rd0 mo0 (fun _ => 0) (fun _ => 0) (fun _ => 0)) (fun v M2 => v = some (.int (-1)) ∧ M2 = (MX 0 (fun _ => 0) rd0 mo0 (fun _ => 0) (fun _ => 0) (fun _ => 0))) := by
  refine xC.of (by decide) (Nat.le_of_ble_eq_true rfl) ?_
  show xW _ _ _ _ 0 [(0, .ref 0), (1, .int a1)] [] _ 0 0
  refine xi_iload_n 1 dX11_end_0 rfl ?_
  refine xi_if_lt (tgt := 15) dX11_end_1 (by decide) (fun c1 => ?_) (fun c1 => ?_)
  · refine xi_iconst (v := (-1)) dX11_end_15 (by decide) ?_
    exact xi_iret dX11_end_16 rfl rfl (Nat.le_of_ble_eq_true rfl) (Nat.le_of_ble_eq_true rfl) ⟨rfl, rfl⟩
  · refine xi_iload_n 1 dX11_end_4 rfl ?_
    refine xi_aload_n 0 dX11_end_5 rfl ?_
    refine xi_get (f := 0) dX11_end_6 rfl rfl ok_8 (by decide) w_242 rfl ?_
    refine xi_get (f := 1) dX11_end_9 rfl rfl ok_1 (by decide) w_41 rfl ?_
    refine xi_icmp_le (tgt := 17) dX11_end_12 (by decide) (fun c2 => ?_) (fun c2 => ?_)
    · refine xi_aload_n 0 dX11_end_17 rfl ?_
      refine xi_get (f := 0) dX11_end_18 rfl rfl ok_8 (by decide) w_242 rfl ?_
      refine xi_iload_n 1 dX11_end_21 rfl ?_
      refine xi_put (f := 1) (ty := .int) (M' := (MX a1 (fun _ => 0) rd0 mo0 (fun _ => 0) (fun _ => 0) (fun _ => 0))) dX11_end_22 rfl rfl ok_1 (by decide) w_41 rfl pf_I (fun _ h => by cases h) rfl rfl (Nat.le_of_ble_eq_true rfl) rfl ?_
      refine xi_iload_n 1 dX11_end_25 rfl ?_
      exact xi_iret dX11_end_26 rfl rfl (Nat.le_of_ble_eq_true rfl) (Nat.le_of_ble_eq_true rfl) (False.elim (h.elim c1 (Int32.not_lt.mpr c2)))
    · refine xi_iconst (v := (-1)) dX11_end_15 (by decide) ?_
      exact xi_iret dX11_end_16 rfl rfl (Nat.le_of_ble_eq_true rfl) (Nat.le_of_ble_eq_true rfl) ⟨rfl, rfl⟩
