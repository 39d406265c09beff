set_option maxHeartbeats 4000000 in
set_option maxRecDepth 100000 in
theorem law_switch {nm : String} (G : xG) {q : Nat} (hq : 6 * q + 6 ≤ G.2.2.2.2.2.2.1) (hL : G.2.2.2.2.2.2.1 ≤ 3072) {σ : St} {Gb : xMem} {k n : Nat} (hI : INV3 σ) (hk : k ≤ 599000) (hn : n ≤ 7300000) (K : ∀ (w : St) (Gb' : xMem) (k' n' : Nat), INV3 w → k' ≤ k + 1 → n' ≤ n + 5 → xW G (mL nm) room_1 (xLZ G) 1719 (LV (nI (6 * q))) [] (mem w Gb') k' n') : xW G (mL nm) room_1 (xLZ G) 27 (LV (nI (6 * q))) [] (mem σ Gb) k n := by
  refine xi_aload_nS 3 dL_law_27 rfl ?_
  refine xi_iload_n 0 dL_law_28 rfl ?_
  refine xi_sld dL_law_29 (vin (by omega) hL) rfl ?_
  refine xi_bipush (v := 63) dL_law_30 (by decide) ?_
  obtain ⟨j, hj, e⟩ := pk_andE (G.2.2.2.2.2.2.2 (nI (6 * q)).toNatClampNeg) (m := 63) 6 (by decide)
  refine xi_iand (v := nI j) dL_law_32 e ?_
  have hj : j < 64 := hj
  by_cases h43 : j < 43
  · rcases (show j = 0 ∨ j = 1 ∨ j = 2 ∨ j = 3 ∨ j = 4 ∨ j = 5 ∨ j = 6 ∨ j = 7 ∨ j = 8 ∨ j = 9 ∨ j = 10 ∨ j = 11 ∨ j = 12 ∨ j = 13 ∨ j = 14 ∨ j = 15 ∨ j = 16 ∨ j = 17 ∨ j = 18 ∨ j = 19 ∨ j = 20 ∨ j = 21 ∨ j = 22 ∨ j = 23 ∨ j = 24 ∨ j = 25 ∨ j = 26 ∨ j = 27 ∨ j = 28 ∨ j = 29 ∨ j = 30 ∨ j = 31 ∨ j = 32 ∨ j = 33 ∨ j = 34 ∨ j = 35 ∨ j = 36 ∨ j = 37 ∨ j = 38 ∨ j = 39 ∨ j = 40 ∨ j = 41 ∨ j = 42 by omega) with rfl | rfl | rfl | rfl | rfl | rfl | rfl | rfl | rfl | rfl | rfl | rfl | rfl | rfl | rfl | rfl | rfl | rfl | rfl | rfl | rfl | rfl | rfl | rfl | rfl | rfl | rfl | rfl | rfl | rfl | rfl | rfl | rfl | rfl | rfl | rfl | rfl | rfl | rfl | rfl | rfl | rfl | rfl
    · exact xi_tableIn (off := 187) (tgt := 220) dL_law_33 (by decide) (by decide) (by decide) (by decide) (law_0 G _ _ _ _ _ _ (XA.of (by omega) hL) (XA.of (by omega) hL) (XA.of (by omega) hL) (XA.of (by omega) hL) (XA.of (by omega) hL) hI hk hn K)
    · exact xi_tableIn (off := 250) (tgt := 283) dL_law_33 (by decide) (by decide) (by decide) (by decide) (law_1 G _ _ _ _ _ _ (XA.of (by omega) hL) (XA.of (by omega) hL) (XA.of (by omega) hL) (XA.of (by omega) hL) (XA.of (by omega) hL) hI hk hn K)
    · exact xi_tableIn (off := 273) (tgt := 306) dL_law_33 (by decide) (by decide) (by decide) (by decide) (law_2 G _ _ _ _ _ _ (XA.of (by omega) hL) (XA.of (by omega) hL) (XA.of (by omega) hL) (XA.of (by omega) hL) (XA.of (by omega) hL) hI hk hn K)
    · exact xi_tableIn (off := 296) (tgt := 329) dL_law_33 (by decide) (by decide) (by decide) (by decide) (law_3 G _ _ _ _ _ _ (XA.of (by omega) hL) (XA.of (by omega) hL) (XA.of (by omega) hL) (XA.of (by omega) hL) (XA.of (by omega) hL) hI hk hn K)
    · exact xi_tableIn (off := 319) (tgt := 352) dL_law_33 (by decide) (by decide) (by decide) (by decide) (law_4 G _ _ _ _ _ _ (XA.of (by omega) hL) (XA.of (by omega) hL) (XA.of (by omega) hL) (XA.of (by omega) hL) (XA.of (by omega) hL) hI hk hn K)
    · exact xi_tableIn (off := 342) (tgt := 375) dL_law_33 (by decide) (by decide) (by decide) (by decide) (law_5 G _ _ _ _ _ _ (XA.of (by omega) hL) (XA.of (by omega) hL) (XA.of (by omega) hL) (XA.of (by omega) hL) (XA.of (by omega) hL) hI hk hn K)
    · exact xi_tableIn (off := 375) (tgt := 408) dL_law_33 (by decide) (by decide) (by decide) (by decide) (law_6 G _ _ _ _ _ _ (XA.of (by omega) hL) (XA.of (by omega) hL) (XA.of (by omega) hL) (XA.of (by omega) hL) (XA.of (by omega) hL) hI hk hn K)
    · exact xi_tableIn (off := 408) (tgt := 441) dL_law_33 (by decide) (by decide) (by decide) (by decide) (law_7 G _ _ _ _ _ _ (XA.of (by omega) hL) (XA.of (by omega) hL) (XA.of (by omega) hL) (XA.of (by omega) hL) (XA.of (by omega) hL) hI hk hn K)
    · exact xi_tableIn (off := 451) (tgt := 484) dL_law_33 (by decide) (by decide) (by decide) (by decide) (law_8 G _ _ _ _ _ _ (XA.of (by omega) hL) (XA.of (by omega) hL) (XA.of (by omega) hL) (XA.of (by omega) hL) (XA.of (by omega) hL) hI hk hn K)
    · exact xi_tableIn (off := 494) (tgt := 527) dL_law_33 (by decide) (by decide) (by decide) (by decide) (law_9 G _ _ _ _ _ _ (XA.of (by omega) hL) (XA.of (by omega) hL) (XA.of (by omega) hL) (XA.of (by omega) hL) (XA.of (by omega) hL) hI hk hn K)
    · exact xi_tableIn (off := 527) (tgt := 560) dL_law_33 (by decide) (by decide) (by decide) (by decide) (law_10 G _ _ _ _ _ _ (XA.of (by omega) hL) (XA.of (by omega) hL) (XA.of (by omega) hL) (XA.of (by omega) hL) (XA.of (by omega) hL) hI hk hn K)
    · exact xi_tableIn (off := 560) (tgt := 593) dL_law_33 (by decide) (by decide) (by decide) (by decide) (law_11 G _ _ _ _ _ _ (XA.of (by omega) hL) (XA.of (by omega) hL) (XA.of (by omega) hL) (XA.of (by omega) hL) (XA.of (by omega) hL) hI hk hn K)
    · exact xi_tableIn (off := 593) (tgt := 626) dL_law_33 (by decide) (by decide) (by decide) (by decide) (law_12 G _ _ _ _ _ _ (XA.of (by omega) hL) (XA.of (by omega) hL) (XA.of (by omega) hL) (XA.of (by omega) hL) (XA.of (by omega) hL) hI hk hn K)
    · exact xi_tableIn (off := 636) (tgt := 669) dL_law_33 (by decide) (by decide) (by decide) (by decide) (law_13 G _ _ _ _ _ _ (XA.of (by omega) hL) (XA.of (by omega) hL) (XA.of (by omega) hL) (XA.of (by omega) hL) (XA.of (by omega) hL) hI hk hn K)
    · exact xi_tableIn (off := 669) (tgt := 702) dL_law_33 (by decide) (by decide) (by decide) (by decide) (law_14 G _ _ _ _ _ _ (XA.of (by omega) hL) (XA.of (by omega) hL) (XA.of (by omega) hL) (XA.of (by omega) hL) (XA.of (by omega) hL) hI hk hn K)
    · exact xi_tableIn (off := 692) (tgt := 725) dL_law_33 (by decide) (by decide) (by decide) (by decide) (law_15 G _ _ _ _ _ _ (XA.of (by omega) hL) (XA.of (by omega) hL) (XA.of (by omega) hL) (XA.of (by omega) hL) (XA.of (by omega) hL) hI hk hn K)
    · exact xi_tableIn (off := 725) (tgt := 758) dL_law_33 (by decide) (by decide) (by decide) (by decide) (law_16 G _ _ _ _ _ _ (XA.of (by omega) hL) (XA.of (by omega) hL) (XA.of (by omega) hL) (XA.of (by omega) hL) (XA.of (by omega) hL) hI hk hn K)
    · exact xi_tableIn (off := 768) (tgt := 801) dL_law_33 (by decide) (by decide) (by decide) (by decide) (law_17 G _ _ _ _ _ _ (XA.of (by omega) hL) (XA.of (by omega) hL) (XA.of (by omega) hL) (XA.of (by omega) hL) (XA.of (by omega) hL) hI hk hn K)
    · exact xi_tableIn (off := 801) (tgt := 834) dL_law_33 (by decide) (by decide) (by decide) (by decide) (law_18 G _ _ _ _ _ _ (XA.of (by omega) hL) (XA.of (by omega) hL) (XA.of (by omega) hL) (XA.of (by omega) hL) (XA.of (by omega) hL) hI hk hn K)
    · exact xi_tableIn (off := 844) (tgt := 877) dL_law_33 (by decide) (by decide) (by decide) (by decide) (law_19 G _ _ _ _ _ _ (XA.of (by omega) hL) (XA.of (by omega) hL) (XA.of (by omega) hL) (XA.of (by omega) hL) (XA.of (by omega) hL) hI hk hn K)
    · exact xi_tableIn (off := 877) (tgt := 910) dL_law_33 (by decide) (by decide) (by decide) (by decide) (law_20 G _ _ _ _ _ _ (XA.of (by omega) hL) (XA.of (by omega) hL) (XA.of (by omega) hL) (XA.of (by omega) hL) (XA.of (by omega) hL) hI hk hn K)
    · exact xi_tableIn (off := 920) (tgt := 953) dL_law_33 (by decide) (by decide) (by decide) (by decide) (law_21 G _ _ _ _ _ _ (XA.of (by omega) hL) (XA.of (by omega) hL) (XA.of (by omega) hL) (XA.of (by omega) hL) (XA.of (by omega) hL) hI hk hn K)
    · exact xi_tableIn (off := 943) (tgt := 976) dL_law_33 (by decide) (by decide) (by decide) (by decide) (law_22 G _ _ _ _ _ _ (XA.of (by omega) hL) (XA.of (by omega) hL) (XA.of (by omega) hL) (XA.of (by omega) hL) (XA.of (by omega) hL) hI hk hn K)
    · exact xi_tableIn (off := 986) (tgt := 1019) dL_law_33 (by decide) (by decide) (by decide) (by decide) (law_23 G _ _ _ _ _ _ (XA.of (by omega) hL) (XA.of (by omega) hL) (XA.of (by omega) hL) (XA.of (by omega) hL) (XA.of (by omega) hL) hI hk hn K)
    · exact xi_tableIn (off := 1029) (tgt := 1062) dL_law_33 (by decide) (by decide) (by decide) (by decide) (law_24 G _ _ _ _ _ _ (XA.of (by omega) hL) (XA.of (by omega) hL) (XA.of (by omega) hL) (XA.of (by omega) hL) (XA.of (by omega) hL) hI hk hn K)
    · exact xi_tableIn (off := 1052) (tgt := 1085) dL_law_33 (by decide) (by decide) (by decide) (by decide) (law_25 G _ _ _ _ _ _ (XA.of (by omega) hL) (XA.of (by omega) hL) (XA.of (by omega) hL) (XA.of (by omega) hL) (XA.of (by omega) hL) hI hk hn K)
    · exact xi_tableIn (off := 1095) (tgt := 1128) dL_law_33 (by decide) (by decide) (by decide) (by decide) (law_26 G _ _ _ _ _ _ (XA.of (by omega) hL) (XA.of (by omega) hL) (XA.of (by omega) hL) (XA.of (by omega) hL) (XA.of (by omega) hL) hI hk hn K)
    · exact xi_tableIn (off := 1128) (tgt := 1161) dL_law_33 (by decide) (by decide) (by decide) (by decide) (law_27 G _ _ _ _ _ _ (XA.of (by omega) hL) (XA.of (by omega) hL) (XA.of (by omega) hL) (XA.of (by omega) hL) (XA.of (by omega) hL) hI hk hn K)
    · exact xi_tableIn (off := 1181) (tgt := 1214) dL_law_33 (by decide) (by decide) (by decide) (by decide) (law_28 G _ _ _ _ _ _ (XA.of (by omega) hL) (XA.of (by omega) hL) (XA.of (by omega) hL) (XA.of (by omega) hL) (XA.of (by omega) hL) hI hk hn K)
    · exact xi_tableIn (off := 1224) (tgt := 1257) dL_law_33 (by decide) (by decide) (by decide) (by decide) (law_29 G _ _ _ _ _ _ (XA.of (by omega) hL) (XA.of (by omega) hL) (XA.of (by omega) hL) (XA.of (by omega) hL) (XA.of (by omega) hL) hI hk hn K)
    · exact xi_tableIn (off := 1267) (tgt := 1300) dL_law_33 (by decide) (by decide) (by decide) (by decide) (law_30 G _ _ _ _ _ _ (XA.of (by omega) hL) (XA.of (by omega) hL) (XA.of (by omega) hL) (XA.of (by omega) hL) (XA.of (by omega) hL) hI hk hn K)
    · exact xi_tableIn (off := 1290) (tgt := 1323) dL_law_33 (by decide) (by decide) (by decide) (by decide) (law_31 G _ _ _ _ _ _ (XA.of (by omega) hL) (XA.of (by omega) hL) (XA.of (by omega) hL) (XA.of (by omega) hL) (XA.of (by omega) hL) hI hk hn K)
    · exact xi_tableIn (off := 1323) (tgt := 1356) dL_law_33 (by decide) (by decide) (by decide) (by decide) (law_32 G _ _ _ _ _ _ (XA.of (by omega) hL) (XA.of (by omega) hL) (XA.of (by omega) hL) (XA.of (by omega) hL) (XA.of (by omega) hL) hI hk hn K)
    · exact xi_tableIn (off := 1356) (tgt := 1389) dL_law_33 (by decide) (by decide) (by decide) (by decide) (law_33 G _ _ _ _ _ _ (XA.of (by omega) hL) (XA.of (by omega) hL) (XA.of (by omega) hL) (XA.of (by omega) hL) (XA.of (by omega) hL) hI hk hn K)
    · exact xi_tableIn (off := 1389) (tgt := 1422) dL_law_33 (by decide) (by decide) (by decide) (by decide) (law_34 G _ _ _ _ _ _ (XA.of (by omega) hL) (XA.of (by omega) hL) (XA.of (by omega) hL) (XA.of (by omega) hL) (XA.of (by omega) hL) hI hk hn K)
    · exact xi_tableIn (off := 1422) (tgt := 1455) dL_law_33 (by decide) (by decide) (by decide) (by decide) (law_35 G _ _ _ _ _ _ (XA.of (by omega) hL) (XA.of (by omega) hL) (XA.of (by omega) hL) (XA.of (by omega) hL) (XA.of (by omega) hL) hI hk hn K)
    · exact xi_tableIn (off := 1455) (tgt := 1488) dL_law_33 (by decide) (by decide) (by decide) (by decide) (law_36 G _ _ _ _ _ _ (XA.of (by omega) hL) (XA.of (by omega) hL) (XA.of (by omega) hL) (XA.of (by omega) hL) (XA.of (by omega) hL) hI hk hn K)
    · exact xi_tableIn (off := 1508) (tgt := 1541) dL_law_33 (by decide) (by decide) (by decide) (by decide) (law_37 G _ _ _ _ _ _ (XA.of (by omega) hL) (XA.of (by omega) hL) (XA.of (by omega) hL) (XA.of (by omega) hL) (XA.of (by omega) hL) hI hk hn K)
    · exact xi_tableIn (off := 1551) (tgt := 1584) dL_law_33 (by decide) (by decide) (by decide) (by decide) (law_38 G _ _ _ _ _ _ (XA.of (by omega) hL) (XA.of (by omega) hL) (XA.of (by omega) hL) (XA.of (by omega) hL) (XA.of (by omega) hL) hI hk hn K)
    · exact xi_tableIn (off := 1594) (tgt := 1627) dL_law_33 (by decide) (by decide) (by decide) (by decide) (law_39 G _ _ _ _ _ _ (XA.of (by omega) hL) (XA.of (by omega) hL) (XA.of (by omega) hL) (XA.of (by omega) hL) (XA.of (by omega) hL) hI hk hn K)
    · exact xi_tableIn (off := 1617) (tgt := 1650) dL_law_33 (by decide) (by decide) (by decide) (by decide) (law_40 G _ _ _ _ _ _ (XA.of (by omega) hL) (XA.of (by omega) hL) (XA.of (by omega) hL) (XA.of (by omega) hL) (XA.of (by omega) hL) hI hk hn K)
    · exact xi_tableIn (off := 1630) (tgt := 1663) dL_law_33 (by decide) (by decide) (by decide) (by decide) (law_41 G _ _ _ _ _ _ (XA.of (by omega) hL) (XA.of (by omega) hL) (XA.of (by omega) hL) (XA.of (by omega) hL) (XA.of (by omega) hL) hI hk hn K)
    · exact xi_tableIn (off := 1663) (tgt := 1696) dL_law_33 (by decide) (by decide) (by decide) (by decide) (law_42 G _ _ _ _ _ _ (XA.of (by omega) hL) (XA.of (by omega) hL) (XA.of (by omega) hL) (XA.of (by omega) hL) (XA.of (by omega) hL) hI hk hn K)
  · exact xi_tableOut (tgt := 1719) dL_law_33 (Or.inr (by rw [nI_toInt (by omega)]; omega)) (by decide) (K σ Gb k n hI (by omega) (by omega))
set_option maxHeartbeats 4000000 in
set_option maxRecDepth 100000 in
theorem law_exit {nm : String} (G : xG) {q : Nat} (hq : G.2.2.2.2.2.2.1 < 6 * q + 6) (hL : G.2.2.2.2.2.2.1 ≤ 3072) (h6 : q ≤ 600) {M : xMem} {k n : Nat} (hk : k ≤ 599000) (hn : n ≤ 7300000) : xW G (mL nm) room_1 (xLZ G) 18 (LV (nI (6 * q))) [] M k n := by
  refine xi_iload_n 0 dL_law_18 rfl ?_
  refine xi_aload_nS 3 dL_law_19 rfl ?_
  refine xi_slen (v := nI G.2.2.2.2.2.2.1) dL_law_20 rfl ?_
  refine xi_bipush (v := 6) dL_law_21 (by decide) ?_
  refine xi_isub (v := nI G.2.2.2.2.2.2.1 - 6) dL_law_23 rfl ?_
  refine xi_icmp_gt_t (tgt := 1725) dL_law_24 (by decide) (lx hq hL h6) ?_
  refine xi_iconst (v := 1) dL_law_1725 (by decide) ?_
  exact xi_lret dL_law_1726 (by omega) (by omega)
set_option maxHeartbeats 4000000 in
set_option maxRecDepth 100000 in
theorem law_loop {nm : String} (G : xG) (hL : G.2.2.2.2.2.2.1 ≤ 3072) : ∀ (f q : Nat) (σ : St) (Gb : xMem) (k n : Nat), INV3 σ → G.2.2.2.2.2.2.1 < 6 * q + 6 * f + 6 → q + f ≤ 600 → k ≤ 163 + q → n ≤ 36018 + 5 * q → xW G (mL nm) room_1 (xLZ G) 18 (LV (nI (6 * q))) [] (mem σ Gb) k n := by
  intro f
  induction f with
  | zero =>
    intro q σ Gb k n hI h1 h2 hk hn
    exact law_exit G (by omega) hL (by omega) (by omega) (by omega)
  | succ f ih =>
    intro q σ Gb k n hI h1 h2 hk hn
    by_cases h : 6 * q + 6 ≤ G.2.2.2.2.2.2.1
    · refine xi_iload_n 0 dL_law_18 rfl ?_
      refine xi_aload_nS 3 dL_law_19 rfl ?_
      refine xi_slen (v := nI G.2.2.2.2.2.2.1) dL_law_20 rfl ?_
      refine xi_bipush (v := 6) dL_law_21 (by decide) ?_
      refine xi_isub (v := nI G.2.2.2.2.2.2.1 - 6) dL_law_23 rfl ?_
      refine xi_icmp_gt_f (tgt := 1725) dL_law_24 (by decide) (ly h hL) ?_
      refine law_switch G h hL hI (by omega) (by omega) (fun w Gb' k' n' hw hk' hn' => ?_)
      refine xi_iinc (v := nI (6 * (q + 1))) (lv' := LV (nI (6 * (q + 1)))) 0 dL_law_1719 rfl ?_ (Nat.le_of_ble_eq_true rfl) rfl ?_
      · rw [show Int32.ofInt 6 = nI 6 from rfl, nI_add]
        rfl
      refine xi_goto (tgt := 18) dL_law_1722 (by decide) ?_
      exact ih (q + 1) w Gb' k' n' hw (by omega) (by omega) (by omega) (by omega)
    · exact law_exit G (by omega) hL (by omega) (by omega) (by omega)
def MA : xMem := [.inr (8, [.ref 1, .ref 3, .ref 5, .ref 10, .ref 11, .ref 84, .ref 90, .ref 98, .ref 141, .ref 145]), .inr (1, [.ref 2, .int 0]), xzb 400, .inr (1, [.ref 4, .int 0]), xzb 256, .inr (6, [.ref 6, .int 0, .int (-1), .ref 1, .int 0, .int 0, .int 0, .int 0]), .inr (5, [.int 0, .int 0, .ref 7, .ref 8, .ref 9]), xz 9, xz 9, xz 81, .inl (2, 3, .inr (.inr (.inr (.inr (va_up (va_up (va_up (fun _ => none) 0 (some 12)) 1 (some 36)) 2 (some 60)))))), .inl (3, 3, .inr (.inr (.inr (.inr (va_up (va_up (va_up (fun _ => none) 0 (some 16)) 1 (some 40)) 2 (some 64)))))), .inr (5, [.int 0, .int 0, .ref 13, .ref 14, .ref 15]), xz 9, xz 9, xz 81, .inr (3, [.ref 17, .ref 18]), .inl (4, 7, .inr (.inr (.inr (.inr (va_up (va_up (va_up (va_up (va_up (va_up (va_up (fun _ => none) 0 (some 22)) 1 (some 24)) 2 (some 26)) 3 (some 28)) 4 (some 30)) 5 (some 32)) 6 (some 34)))))), .inr (5, [.int 0, .int 0, .ref 19, .ref 20, .ref 21]), xz 9, xz 9, xz 81, .inr (2, [.int 0, .int 0, .int 0, .int 0, .ref 23]), xz 9, .inr (2, [.int 0, .int 0, .int 0, .int 0, .ref 25]), xz 9, .inr (2, [.int 0, .int 0, .int 0, .int 0, .ref 27]), xz 9, .inr (2, [.int 0, .int 0, .int 0, .int 0, .ref 29]), xz 9, .inr (2, [.int 0, .int 0, .int 0, .int 0, .ref 31]), xz 9, .inr (2, [.int 0, .int 0, .int 0, .int 0, .ref 33]), xz 9, .inr (2, [.int 0, .int 0, .int 0, .int 0, .ref 35]), xz 9, .inr (5, [.int 0, .int 0, .ref 37, .ref 38, .ref 39]), xz 9, xz 9, xz 81, .inr (3, [.ref 41, .ref 42]), .inl (4, 7, .inr (.inr (.inr (.inr (va_up (va_up (va_up (va_up (va_up (va_up (va_up (fun _ => none) 0 (some 46)) 1 (some 48)) 2 (some 50)) 3 (some 52)) 4 (some 54)) 5 (some 56)) 6 (some 58)))))), .inr (5, [.int 0, .int 0, .ref 43, .ref 44, .ref 45]), xz 9, xz 9, xz 81, .inr (2, [.int 0, .int 0, .int 0, .int 0, .ref 47]), xz 9, .inr (2, [.int 0, .int 0, .int 0, .int 0, .ref 49]), xz 9, .inr (2, [.int 0, .int 0, .int 0, .int 0, .ref 51]), xz 9, .inr (2, [.int 0, .int 0, .int 0, .int 0, .ref 53]), xz 9, .inr (2, [.int 0, .int 0, .int 0, .int 0, .ref 55]), xz 9, .inr (2, [.int 0, .int 0, .int 0, .int 0, .ref 57]), xz 9, .inr (2, [.int 0, .int 0, .int 0, .int 0, .ref 59]), xz 9, .inr (5, [.int 0, .int 0, .ref 61, .ref 62, .ref 63]), xz 9, xz 9, xz 81, .inr (3, [.ref 65, .ref 66]), .inl (4, 7, .inr (.inr (.inr (.inr (va_up (va_up (va_up (va_up (va_up (va_up (va_up (fun _ => none) 0 (some 70)) 1 (some 72)) 2 (some 74)) 3 (some 76)) 4 (some 78)) 5 (some 80)) 6 (some 82)))))), .inr (5, [.int 0, .int 0, .ref 67, .ref 68, .ref 69]), xz 9, xz 9, xz 81, .inr (2, [.int 0, .int 0, .int 0, .int 0, .ref 71]), xz 9, .inr (2, [.int 0, .int 0, .int 0, .int 0, .ref 73]), xz 9, .inr (2, [.int 0, .int 0, .int 0, .int 0, .ref 75]), xz 9, .inr (2, [.int 0, .int 0, .int 0, .int 0, .ref 77]), xz 9, .inr (2, [.int 0, .int 0, .int 0, .int 0, .ref 79]), xz 9, .inr (2, [.int 0, .int 0, .int 0, .int 0, .ref 81]), xz 9, .inr (2, [.int 0, .int 0, .int 0, .int 0, .ref 83]), xz 9, .inr (7, [.ref 85, .ref 86, .ref 87, .ref 88, .ref 89]), xz 4608, xz 4608, xz 4608, xz 512, xz 512, .inr (0, [.ref 91, .ref 95, .ref 96, .ref 97]), .inr (5, [.int 0, .int 0, .ref 92, .ref 93, .ref 94]), xz 9, xz 9, xz 81, xz 9, xz 4096, xz 4096, .inr (4, [.int 0, .int 0, .ref 99, .ref 100]), xz 10, .inl (2, 10, .inr (.inr (.inr (.inr (va_up (va_up (va_up (va_up (va_up (va_up (va_up (va_up (va_up (va_up (fun _ => none) 0 (some 101)) 1 (some 105)) 2 (some 109)) 3 (some 113)) 4 (some 117)) 5 (some 121)) 6 (some 125)) 7 (some 129)) 8 (some 133)) 9 (some 137)))))), .inr (5, [.int 0, .int 0, .ref 102, .ref 103, .ref 104]), xz 9, xz 9, xz 81, .inr (5, [.int 0, .int 0, .ref 106, .ref 107, .ref 108]), xz 9, xz 9, xz 81, .inr (5, [.int 0, .int 0, .ref 110, .ref 111, .ref 112]), xz 9, xz 9, xz 81, .inr (5, [.int 0, .int 0, .ref 114, .ref 115, .ref 116]), xz 9, xz 9, xz 81, .inr (5, [.int 0, .int 0, .ref 118, .ref 119, .ref 120]), xz 9, xz 9, xz 81, .inr (5, [.int 0, .int 0, .ref 122, .ref 123, .ref 124]), xz 9, xz 9, xz 81, .inr (5, [.int 0, .int 0, .ref 126, .ref 127, .ref 128]), xz 9, xz 9, xz 81, .inr (5, [.int 0, .int 0, .ref 130, .ref 131, .ref 132]), xz 9, xz 9, xz 81, .inr (5, [.int 0, .int 0, .ref 134, .ref 135, .ref 136]), xz 9, xz 9, xz 81, .inr (5, [.int 0, .int 0, .ref 138, .ref 139, .ref 140]), xz 9, xz 9, xz 81, .inr (5, [.int 0, .int 0, .ref 142, .ref 143, .ref 144]), xz 9, xz 9, xz 81, .inr (5, [.int 0, .int 0, .ref 146, .ref 147, .ref 148]), xz 9, xz 9, xz 81]
def MB : xMem := [.inr (9, [.ref 150, .ref 151, .ref 152, .int 0, .ref 153, .int 0, .int 0, .int (-1), .int 0, .int 0, .int 0, .int 0, .int 0, .ref 154, .ref 155, .ref 156, .ref 157, .int 0, .int 0, .int 0, .ref 158, .ref 159, .ref 160, .ref 161, .ref 162, .int 0]), xz 273, xz 273, xz 2730, xz 400, xz 9, xz 512, xz 512, xz 4608, xz 9, xz 9, xz 9, xz 81, xz 400]
theorem qa3 (a0 a1 a2 : Nat) : (va_up (va_up (va_up (fun _ => none) 0 (some a0)) 1 (some a1)) 2 (some a2)) = (fun j => ([a0, a1, a2] : List Nat)[j]?) := by
  funext j
  by_cases h : j < 3
  · rcases (show j = 0 ∨ j = 1 ∨ j = 2 by omega) with rfl | rfl | rfl <;> rfl
  · have h2 : ([a0, a1, a2] : List Nat)[j]? = none := List.getElem?_eq_none (by simp only [List.length_cons, List.length_nil]; omega)
    rw [h2]
    simp only [va_up]
    rw [if_neg (show ¬ j = 2 by omega)]
    rw [if_neg (show ¬ j = 1 by omega)]
    rw [if_neg (show ¬ j = 0 by omega)]
theorem qa7 (a0 a1 a2 a3 a4 a5 a6 : Nat) : (va_up (va_up (va_up (va_up (va_up (va_up (va_up (fun _ => none) 0 (some a0)) 1 (some a1)) 2 (some a2)) 3 (some a3)) 4 (some a4)) 5 (some a5)) 6 (some a6)) = (fun j => ([a0, a1, a2, a3, a4, a5, a6] : List Nat)[j]?) := by
  funext j
  by_cases h : j < 7
  · rcases (show j = 0 ∨ j = 1 ∨ j = 2 ∨ j = 3 ∨ j = 4 ∨ j = 5 ∨ j = 6 by omega) with rfl | rfl | rfl | rfl | rfl | rfl | rfl <;> rfl
  · have h2 : ([a0, a1, a2, a3, a4, a5, a6] : List Nat)[j]? = none := List.getElem?_eq_none (by simp only [List.length_cons, List.length_nil]; omega)
    rw [h2]
    simp only [va_up]
    rw [if_neg (show ¬ j = 6 by omega)]
    rw [if_neg (show ¬ j = 5 by omega)]
    rw [if_neg (show ¬ j = 4 by omega)]
    rw [if_neg (show ¬ j = 3 by omega)]
    rw [if_neg (show ¬ j = 2 by omega)]
    rw [if_neg (show ¬ j = 1 by omega)]
    rw [if_neg (show ¬ j = 0 by omega)]
theorem qa10 (a0 a1 a2 a3 a4 a5 a6 a7 a8 a9 : Nat) : (va_up (va_up (va_up (va_up (va_up (va_up (va_up (va_up (va_up (va_up (fun _ => none) 0 (some a0)) 1 (some a1)) 2 (some a2)) 3 (some a3)) 4 (some a4)) 5 (some a5)) 6 (some a6)) 7 (some a7)) 8 (some a8)) 9 (some a9)) = (fun j => ([a0, a1, a2, a3, a4, a5, a6, a7, a8, a9] : List Nat)[j]?) := by
  funext j
  by_cases h : j < 10
  · rcases (show j = 0 ∨ j = 1 ∨ j = 2 ∨ j = 3 ∨ j = 4 ∨ j = 5 ∨ j = 6 ∨ j = 7 ∨ j = 8 ∨ j = 9 by omega) with rfl | rfl | rfl | rfl | rfl | rfl | rfl | rfl | rfl | rfl <;> rfl
  · have h2 : ([a0, a1, a2, a3, a4, a5, a6, a7, a8, a9] : List Nat)[j]? = none := List.getElem?_eq_none (by simp only [List.length_cons, List.length_nil]; omega)
    rw [h2]
    simp only [va_up]
    rw [if_neg (show ¬ j = 9 by omega)]
    rw [if_neg (show ¬ j = 8 by omega)]
    rw [if_neg (show ¬ j = 7 by omega)]
    rw [if_neg (show ¬ j = 6 by omega)]
    rw [if_neg (show ¬ j = 5 by omega)]
    rw [if_neg (show ¬ j = 4 by omega)]
    rw [if_neg (show ¬ j = 3 by omega)]
    rw [if_neg (show ¬ j = 2 by omega)]
    rw [if_neg (show ¬ j = 1 by omega)]
    rw [if_neg (show ¬ j = 0 by omega)]
/-- both objects are new -/
def st0 : St := fun a => if a = 5 then (fun i => if i = 2 then -1 else 0) else if a = 149 then (fun i => if i = 7 then -1 else 0) else fun _ => 0
theorem rc_0 : (.inr (8, [.ref 1, .ref 3, .ref 5, .ref 10, .ref 11, .ref 84, .ref 90, .ref 98, .ref 141, .ref 145]) : va_E) = rcell st0 0 (.inr (8, [some 1, some 3, some 5, some 10, some 11, some 84, some 90, some 98, some 141, some 145])) := rfl
theorem rc_1 : (.inr (1, [.ref 2, .int 0]) : va_E) = rcell st0 1 (.inr (1, [some 2, none])) := rfl
theorem rc_2 : (xzb 400 : va_E) = rcell st0 2 (.inl (1, 400, none)) := rfl
theorem rc_3 : (.inr (1, [.ref 4, .int 0]) : va_E) = rcell st0 3 (.inr (1, [some 4, none])) := rfl
theorem rc_4 : (xzb 256 : va_E) = rcell st0 4 (.inl (1, 256, none)) := rfl
theorem rc_5 : (.inr (6, [.ref 6, .int 0, .int (-1), .ref 1, .int 0, .int 0, .int 0, .int 0]) : va_E) = rcell st0 5 (.inr (6, [some 6, none, none, some 1, none, none, none, none])) := rfl
theorem rc_6 : (.inr (5, [.int 0, .int 0, .ref 7, .ref 8, .ref 9]) : va_E) = rcell st0 6 (.inr (5, [none, none, some 7, some 8, some 9])) := rfl
theorem rc_7 : (xz 9 : va_E) = rcell st0 7 (.inl (0, 9, none)) := rfl
theorem rc_8 : (xz 9 : va_E) = rcell st0 8 (.inl (0, 9, none)) := rfl
theorem rc_9 : (xz 81 : va_E) = rcell st0 9 (.inl (0, 81, none)) := rfl
theorem rc_10 : (.inl (2, 3, .inr (.inr (.inr (.inr (va_up (va_up (va_up (fun _ => none) 0 (some 12)) 1 (some 36)) 2 (some 60)))))) : va_E) = rcell st0 10 (.inl (2, 3, some [12, 36, 60])) := congrArg (fun f => (Sum.inl (2, 3, .inr (.inr (.inr (.inr f)))) : va_E)) (qa3 12 36 60)
theorem rc_11 : (.inl (3, 3, .inr (.inr (.inr (.inr (va_up (va_up (va_up (fun _ => none) 0 (some 16)) 1 (some 40)) 2 (some 64)))))) : va_E) = rcell st0 11 (.inl (3, 3, some [16, 40, 64])) := congrArg (fun f => (Sum.inl (3, 3, .inr (.inr (.inr (.inr f)))) : va_E)) (qa3 16 40 64)
theorem rc_12 : (.inr (5, [.int 0, .int 0, .ref 13, .ref 14, .ref 15]) : va_E) = rcell st0 12 (.inr (5, [none, none, some 13, some 14, some 15])) := rfl
theorem rc_13 : (xz 9 : va_E) = rcell st0 13 (.inl (0, 9, none)) := rfl
theorem rc_14 : (xz 9 : va_E) = rcell st0 14 (.inl (0, 9, none)) := rfl
theorem rc_15 : (xz 81 : va_E) = rcell st0 15 (.inl (0, 81, none)) := rfl
theorem rc_16 : (.inr (3, [.ref 17, .ref 18]) : va_E) = rcell st0 16 (.inr (3, [some 17, some 18])) := rfl
theorem rc_17 : (.inl (4, 7, .inr (.inr (.inr (.inr (va_up (va_up (va_up (va_up (va_up (va_up (va_up (fun _ => none) 0 (some 22)) 1 (some 24)) 2 (some 26)) 3 (some 28)) 4 (some 30)) 5 (some 32)) 6 (some 34)))))) : va_E) = rcell st0 17 (.inl (4, 7, some [22, 24, 26, 28, 30, 32, 34])) := congrArg (fun f => (Sum.inl (4, 7, .inr (.inr (.inr (.inr f)))) : va_E)) (qa7 22 24 26 28 30 32 34)
theorem rc_18 : (.inr (5, [.int 0, .int 0, .ref 19, .ref 20, .ref 21]) : va_E) = rcell st0 18 (.inr (5, [none, none, some 19, some 20, some 21])) := rfl
theorem rc_19 : (xz 9 : va_E) = rcell st0 19 (.inl (0, 9, none)) := rfl
theorem rc_20 : (xz 9 : va_E) = rcell st0 20 (.inl (0, 9, none)) := rfl
theorem rc_21 : (xz 81 : va_E) = rcell st0 21 (.inl (0, 81, none)) := rfl
theorem rc_22 : (.inr (2, [.int 0, .int 0, .int 0, .int 0, .ref 23]) : va_E) = rcell st0 22 (.inr (2, [none, none, none, none, some 23])) := rfl
theorem rc_23 : (xz 9 : va_E) = rcell st0 23 (.inl (0, 9, none)) := rfl
theorem rc_24 : (.inr (2, [.int 0, .int 0, .int 0, .int 0, .ref 25]) : va_E) = rcell st0 24 (.inr (2, [none, none, none, none, some 25])) := rfl
theorem rc_25 : (xz 9 : va_E) = rcell st0 25 (.inl (0, 9, none)) := rfl
theorem rc_26 : (.inr (2, [.int 0, .int 0, .int 0, .int 0, .ref 27]) : va_E) = rcell st0 26 (.inr (2, [none, none, none, none, some 27])) := rfl
theorem rc_27 : (xz 9 : va_E) = rcell st0 27 (.inl (0, 9, none)) := rfl
theorem rc_28 : (.inr (2, [.int 0, .int 0, .int 0, .int 0, .ref 29]) : va_E) = rcell st0 28 (.inr (2, [none, none, none, none, some 29])) := rfl
theorem rc_29 : (xz 9 : va_E) = rcell st0 29 (.inl (0, 9, none)) := rfl
theorem rc_30 : (.inr (2, [.int 0, .int 0, .int 0, .int 0, .ref 31]) : va_E) = rcell st0 30 (.inr (2, [none, none, none, none, some 31])) := rfl
theorem rc_31 : (xz 9 : va_E) = rcell st0 31 (.inl (0, 9, none)) := rfl
theorem rc_32 : (.inr (2, [.int 0, .int 0, .int 0, .int 0, .ref 33]) : va_E) = rcell st0 32 (.inr (2, [none, none, none, none, some 33])) := rfl
theorem rc_33 : (xz 9 : va_E) = rcell st0 33 (.inl (0, 9, none)) := rfl
theorem rc_34 : (.inr (2, [.int 0, .int 0, .int 0, .int 0, .ref 35]) : va_E) = rcell st0 34 (.inr (2, [none, none, none, none, some 35])) := rfl
theorem rc_35 : (xz 9 : va_E) = rcell st0 35 (.inl (0, 9, none)) := rfl
theorem rc_36 : (.inr (5, [.int 0, .int 0, .ref 37, .ref 38, .ref 39]) : va_E) = rcell st0 36 (.inr (5, [none, none, some 37, some 38, some 39])) := rfl
theorem rc_37 : (xz 9 : va_E) = rcell st0 37 (.inl (0, 9, none)) := rfl
theorem rc_38 : (xz 9 : va_E) = rcell st0 38 (.inl (0, 9, none)) := rfl
theorem rc_39 : (xz 81 : va_E) = rcell st0 39 (.inl (0, 81, none)) := rfl
theorem rc_40 : (.inr (3, [.ref 41, .ref 42]) : va_E) = rcell st0 40 (.inr (3, [some 41, some 42])) := rfl
theorem rc_41 : (.inl (4, 7, .inr (.inr (.inr (.inr (va_up (va_up (va_up (va_up (va_up (va_up (va_up (fun _ => none) 0 (some 46)) 1 (some 48)) 2 (some 50)) 3 (some 52)) 4 (some 54)) 5 (some 56)) 6 (some 58)))))) : va_E) = rcell st0 41 (.inl (4, 7, some [46, 48, 50, 52, 54, 56, 58])) := congrArg (fun f => (Sum.inl (4, 7, .inr (.inr (.inr (.inr f)))) : va_E)) (qa7 46 48 50 52 54 56 58)
theorem rc_42 : (.inr (5, [.int 0, .int 0, .ref 43, .ref 44, .ref 45]) : va_E) = rcell st0 42 (.inr (5, [none, none, some 43, some 44, some 45])) := rfl
theorem rc_43 : (xz 9 : va_E) = rcell st0 43 (.inl (0, 9, none)) := rfl
theorem rc_44 : (xz 9 : va_E) = rcell st0 44 (.inl (0, 9, none)) := rfl
theorem rc_45 : (xz 81 : va_E) = rcell st0 45 (.inl (0, 81, none)) := rfl
theorem rc_46 : (.inr (2, [.int 0, .int 0, .int 0, .int 0, .ref 47]) : va_E) = rcell st0 46 (.inr (2, [none, none, none, none, some 47])) := rfl
theorem rc_47 : (xz 9 : va_E) = rcell st0 47 (.inl (0, 9, none)) := rfl
theorem rc_48 : (.inr (2, [.int 0, .int 0, .int 0, .int 0, .ref 49]) : va_E) = rcell st0 48 (.inr (2, [none, none, none, none, some 49])) := rfl
theorem rc_49 : (xz 9 : va_E) = rcell st0 49 (.inl (0, 9, none)) := rfl
theorem rc_50 : (.inr (2, [.int 0, .int 0, .int 0, .int 0, .ref 51]) : va_E) = rcell st0 50 (.inr (2, [none, none, none, none, some 51])) := rfl
theorem rc_51 : (xz 9 : va_E) = rcell st0 51 (.inl (0, 9, none)) := rfl
theorem rc_52 : (.inr (2, [.int 0, .int 0, .int 0, .int 0, .ref 53]) : va_E) = rcell st0 52 (.inr (2, [none, none, none, none, some 53])) := rfl
theorem rc_53 : (xz 9 : va_E) = rcell st0 53 (.inl (0, 9, none)) := rfl
theorem rc_54 : (.inr (2, [.int 0, .int 0, .int 0, .int 0, .ref 55]) : va_E) = rcell st0 54 (.inr (2, [none, none, none, none, some 55])) := rfl
theorem rc_55 : (xz 9 : va_E) = rcell st0 55 (.inl (0, 9, none)) := rfl
theorem rc_56 : (.inr (2, [.int 0, .int 0, .int 0, .int 0, .ref 57]) : va_E) = rcell st0 56 (.inr (2, [none, none, none, none, some 57])) := rfl
theorem rc_57 : (xz 9 : va_E) = rcell st0 57 (.inl (0, 9, none)) := rfl
theorem rc_58 : (.inr (2, [.int 0, .int 0, .int 0, .int 0, .ref 59]) : va_E) = rcell st0 58 (.inr (2, [none, none, none, none, some 59])) := rfl
theorem rc_59 : (xz 9 : va_E) = rcell st0 59 (.inl (0, 9, none)) := rfl
theorem rc_60 : (.inr (5, [.int 0, .int 0, .ref 61, .ref 62, .ref 63]) : va_E) = rcell st0 60 (.inr (5, [none, none, some 61, some 62, some 63])) := rfl
theorem rc_61 : (xz 9 : va_E) = rcell st0 61 (.inl (0, 9, none)) := rfl
theorem rc_62 : (xz 9 : va_E) = rcell st0 62 (.inl (0, 9, none)) := rfl
theorem rc_63 : (xz 81 : va_E) = rcell st0 63 (.inl (0, 81, none)) := rfl
theorem rc_64 : (.inr (3, [.ref 65, .ref 66]) : va_E) = rcell st0 64 (.inr (3, [some 65, some 66])) := rfl
theorem rc_65 : (.inl (4, 7, .inr (.inr (.inr (.inr (va_up (va_up (va_up (va_up (va_up (va_up (va_up (fun _ => none) 0 (some 70)) 1 (some 72)) 2 (some 74)) 3 (some 76)) 4 (some 78)) 5 (some 80)) 6 (some 82)))))) : va_E) = rcell st0 65 (.inl (4, 7, some [70, 72, 74, 76, 78, 80, 82])) := congrArg (fun f => (Sum.inl (4, 7, .inr (.inr (.inr (.inr f)))) : va_E)) (qa7 70 72 74 76 78 80 82)
theorem rc_66 : (.inr (5, [.int 0, .int 0, .ref 67, .ref 68, .ref 69]) : va_E) = rcell st0 66 (.inr (5, [none, none, some 67, some 68, some 69])) := rfl
theorem rc_67 : (xz 9 : va_E) = rcell st0 67 (.inl (0, 9, none)) := rfl
theorem rc_68 : (xz 9 : va_E) = rcell st0 68 (.inl (0, 9, none)) := rfl
theorem rc_69 : (xz 81 : va_E) = rcell st0 69 (.inl (0, 81, none)) := rfl
theorem rc_70 : (.inr (2, [.int 0, .int 0, .int 0, .int 0, .ref 71]) : va_E) = rcell st0 70 (.inr (2, [none, none, none, none, some 71])) := rfl
theorem rc_71 : (xz 9 : va_E) = rcell st0 71 (.inl (0, 9, none)) := rfl
theorem rc_72 : (.inr (2, [.int 0, .int 0, .int 0, .int 0, .ref 73]) : va_E) = rcell st0 72 (.inr (2, [none, none, none, none, some 73])) := rfl
theorem rc_73 : (xz 9 : va_E) = rcell st0 73 (.inl (0, 9, none)) := rfl
theorem rc_74 : (.inr (2, [.int 0, .int 0, .int 0, .int 0, .ref 75]) : va_E) = rcell st0 74 (.inr (2, [none, none, none, none, some 75])) := rfl
theorem rc_75 : (xz 9 : va_E) = rcell st0 75 (.inl (0, 9, none)) := rfl
theorem rc_76 : (.inr (2, [.int 0, .int 0, .int 0, .int 0, .ref 77]) : va_E) = rcell st0 76 (.inr (2, [none, none, none, none, some 77])) := rfl
theorem rc_77 : (xz 9 : va_E) = rcell st0 77 (.inl (0, 9, none)) := rfl
theorem rc_78 : (.inr (2, [.int 0, .int 0, .int 0, .int 0, .ref 79]) : va_E) = rcell st0 78 (.inr (2, [none, none, none, none, some 79])) := rfl
theorem rc_79 : (xz 9 : va_E) = rcell st0 79 (.inl (0, 9, none)) := rfl
theorem rc_80 : (.inr (2, [.int 0, .int 0, .int 0, .int 0, .ref 81]) : va_E) = rcell st0 80 (.inr (2, [none, none, none, none, some 81])) := rfl
theorem rc_81 : (xz 9 : va_E) = rcell st0 81 (.inl (0, 9, none)) := rfl
theorem rc_82 : (.inr (2, [.int 0, .int 0, .int 0, .int 0, .ref 83]) : va_E) = rcell st0 82 (.inr (2, [none, none, none, none, some 83])) := rfl
theorem rc_83 : (xz 9 : va_E) = rcell st0 83 (.inl (0, 9, none)) := rfl
theorem rc_84 : (.inr (7, [.ref 85, .ref 86, .ref 87, .ref 88, .ref 89]) : va_E) = rcell st0 84 (.inr (7, [some 85, some 86, some 87, some 88, some 89])) := rfl
theorem rc_85 : (xz 4608 : va_E) = rcell st0 85 (.inl (0, 4608, none)) := rfl
theorem rc_86 : (xz 4608 : va_E) = rcell st0 86 (.inl (0, 4608, none)) := rfl
theorem rc_87 : (xz 4608 : va_E) = rcell st0 87 (.inl (0, 4608, none)) := rfl
theorem rc_88 : (xz 512 : va_E) = rcell st0 88 (.inl (0, 512, none)) := rfl
theorem rc_89 : (xz 512 : va_E) = rcell st0 89 (.inl (0, 512, none)) := rfl
theorem rc_90 : (.inr (0, [.ref 91, .ref 95, .ref 96, .ref 97]) : va_E) = rcell st0 90 (.inr (0, [some 91, some 95, some 96, some 97])) := rfl
theorem rc_91 : (.inr (5, [.int 0, .int 0, .ref 92, .ref 93, .ref 94]) : va_E) = rcell st0 91 (.inr (5, [none, none, some 92, some 93, some 94])) := rfl
theorem rc_92 : (xz 9 : va_E) = rcell st0 92 (.inl (0, 9, none)) := rfl
theorem rc_93 : (xz 9 : va_E) = rcell st0 93 (.inl (0, 9, none)) := rfl
theorem rc_94 : (xz 81 : va_E) = rcell st0 94 (.inl (0, 81, none)) := rfl
theorem rc_95 : (xz 9 : va_E) = rcell st0 95 (.inl (0, 9, none)) := rfl
theorem rc_96 : (xz 4096 : va_E) = rcell st0 96 (.inl (0, 4096, none)) := rfl
theorem rc_97 : (xz 4096 : va_E) = rcell st0 97 (.inl (0, 4096, none)) := rfl
theorem rc_98 : (.inr (4, [.int 0, .int 0, .ref 99, .ref 100]) : va_E) = rcell st0 98 (.inr (4, [none, none, some 99, some 100])) := rfl
theorem rc_99 : (xz 10 : va_E) = rcell st0 99 (.inl (0, 10, none)) := rfl
theorem rc_100 : (.inl (2, 10, .inr (.inr (.inr (.inr (va_up (va_up (va_up (va_up (va_up (va_up (va_up (va_up (va_up (va_up (fun _ => none) 0 (some 101)) 1 (some 105)) 2 (some 109)) 3 (some 113)) 4 (some 117)) 5 (some 121)) 6 (some 125)) 7 (some 129)) 8 (some 133)) 9 (some 137)))))) : va_E) = rcell st0 100 (.inl (2, 10, some [101, 105, 109, 113, 117, 121, 125, 129, 133, 137])) := congrArg (fun f => (Sum.inl (2, 10, .inr (.inr (.inr (.inr f)))) : va_E)) (qa10 101 105 109 113 117 121 125 129 133 137)
theorem rc_101 : (.inr (5, [.int 0, .int 0, .ref 102, .ref 103, .ref 104]) : va_E) = rcell st0 101 (.inr (5, [none, none, some 102, some 103, some 104])) := rfl
theorem rc_102 : (xz 9 : va_E) = rcell st0 102 (.inl (0, 9, none)) := rfl
theorem rc_103 : (xz 9 : va_E) = rcell st0 103 (.inl (0, 9, none)) := rfl
theorem rc_104 : (xz 81 : va_E) = rcell st0 104 (.inl (0, 81, none)) := rfl
theorem rc_105 : (.inr (5, [.int 0, .int 0, .ref 106, .ref 107, .ref 108]) : va_E) = rcell st0 105 (.inr (5, [none, none, some 106, some 107, some 108])) := rfl
theorem rc_106 : (xz 9 : va_E) = rcell st0 106 (.inl (0, 9, none)) := rfl
theorem rc_107 : (xz 9 : va_E) = rcell st0 107 (.inl (0, 9, none)) := rfl
theorem rc_108 : (xz 81 : va_E) = rcell st0 108 (.inl (0, 81, none)) := rfl
theorem rc_109 : (.inr (5, [.int 0, .int 0, .ref 110, .ref 111, .ref 112]) : va_E) = rcell st0 109 (.inr (5, [none, none, some 110, some 111, some 112])) := rfl
theorem rc_110 : (xz 9 : va_E) = rcell st0 110 (.inl (0, 9, none)) := rfl
theorem rc_111 : (xz 9 : va_E) = rcell st0 111 (.inl (0, 9, none)) := rfl
theorem rc_112 : (xz 81 : va_E) = rcell st0 112 (.inl (0, 81, none)) := rfl
theorem rc_113 : (.inr (5, [.int 0, .int 0, .ref 114, .ref 115, .ref 116]) : va_E) = rcell st0 113 (.inr (5, [none, none, some 114, some 115, some 116])) := rfl
theorem rc_114 : (xz 9 : va_E) = rcell st0 114 (.inl (0, 9, none)) := rfl
theorem rc_115 : (xz 9 : va_E) = rcell st0 115 (.inl (0, 9, none)) := rfl
theorem rc_116 : (xz 81 : va_E) = rcell st0 116 (.inl (0, 81, none)) := rfl
theorem rc_117 : (.inr (5, [.int 0, .int 0, .ref 118, .ref 119, .ref 120]) : va_E) = rcell st0 117 (.inr (5, [none, none, some 118, some 119, some 120])) := rfl
theorem rc_118 : (xz 9 : va_E) = rcell st0 118 (.inl (0, 9, none)) := rfl
theorem rc_119 : (xz 9 : va_E) = rcell st0 119 (.inl (0, 9, none)) := rfl
theorem rc_120 : (xz 81 : va_E) = rcell st0 120 (.inl (0, 81, none)) := rfl
theorem rc_121 : (.inr (5, [.int 0, .int 0, .ref 122, .ref 123, .ref 124]) : va_E) = rcell st0 121 (.inr (5, [none, none, some 122, some 123, some 124])) := rfl
theorem rc_122 : (xz 9 : va_E) = rcell st0 122 (.inl (0, 9, none)) := rfl
theorem rc_123 : (xz 9 : va_E) = rcell st0 123 (.inl (0, 9, none)) := rfl
theorem rc_124 : (xz 81 : va_E) = rcell st0 124 (.inl (0, 81, none)) := rfl
theorem rc_125 : (.inr (5, [.int 0, .int 0, .ref 126, .ref 127, .ref 128]) : va_E) = rcell st0 125 (.inr (5, [none, none, some 126, some 127, some 128])) := rfl
theorem rc_126 : (xz 9 : va_E) = rcell st0 126 (.inl (0, 9, none)) := rfl
theorem rc_127 : (xz 9 : va_E) = rcell st0 127 (.inl (0, 9, none)) := rfl
theorem rc_128 : (xz 81 : va_E) = rcell st0 128 (.inl (0, 81, none)) := rfl
theorem rc_129 : (.inr (5, [.int 0, .int 0, .ref 130, .ref 131, .ref 132]) : va_E) = rcell st0 129 (.inr (5, [none, none, some 130, some 131, some 132])) := rfl
theorem rc_130 : (xz 9 : va_E) = rcell st0 130 (.inl (0, 9, none)) := rfl
theorem rc_131 : (xz 9 : va_E) = rcell st0 131 (.inl (0, 9, none)) := rfl
theorem rc_132 : (xz 81 : va_E) = rcell st0 132 (.inl (0, 81, none)) := rfl
theorem rc_133 : (.inr (5, [.int 0, .int 0, .ref 134, .ref 135, .ref 136]) : va_E) = rcell st0 133 (.inr (5, [none, none, some 134, some 135, some 136])) := rfl
theorem rc_134 : (xz 9 : va_E) = rcell st0 134 (.inl (0, 9, none)) := rfl
theorem rc_135 : (xz 9 : va_E) = rcell st0 135 (.inl (0, 9, none)) := rfl
theorem rc_136 : (xz 81 : va_E) = rcell st0 136 (.inl (0, 81, none)) := rfl
theorem rc_137 : (.inr (5, [.int 0, .int 0, .ref 138, .ref 139, .ref 140]) : va_E) = rcell st0 137 (.inr (5, [none, none, some 138, some 139, some 140])) := rfl
theorem rc_138 : (xz 9 : va_E) = rcell st0 138 (.inl (0, 9, none)) := rfl
theorem rc_139 : (xz 9 : va_E) = rcell st0 139 (.inl (0, 9, none)) := rfl
theorem rc_140 : (xz 81 : va_E) = rcell st0 140 (.inl (0, 81, none)) := rfl
theorem rc_141 : (.inr (5, [.int 0, .int 0, .ref 142, .ref 143, .ref 144]) : va_E) = rcell st0 141 (.inr (5, [none, none, some 142, some 143, some 144])) := rfl
theorem rc_142 : (xz 9 : va_E) = rcell st0 142 (.inl (0, 9, none)) := rfl
theorem rc_143 : (xz 9 : va_E) = rcell st0 143 (.inl (0, 9, none)) := rfl
theorem rc_144 : (xz 81 : va_E) = rcell st0 144 (.inl (0, 81, none)) := rfl
theorem rc_145 : (.inr (5, [.int 0, .int 0, .ref 146, .ref 147, .ref 148]) : va_E) = rcell st0 145 (.inr (5, [none, none, some 146, some 147, some 148])) := rfl
theorem rc_146 : (xz 9 : va_E) = rcell st0 146 (.inl (0, 9, none)) := rfl
theorem rc_147 : (xz 9 : va_E) = rcell st0 147 (.inl (0, 9, none)) := rfl
theorem rc_148 : (xz 81 : va_E) = rcell st0 148 (.inl (0, 81, none)) := rfl
theorem rc_149 : (.inr (9, [.ref 150, .ref 151, .ref 152, .int 0, .ref 153, .int 0, .int 0, .int (-1), .int 0, .int 0, .int 0, .int 0, .int 0, .ref 154, .ref 155, .ref 156, .ref 157, .int 0, .int 0, .int 0, .ref 158, .ref 159, .ref 160, .ref 161, .ref 162, .int 0]) : va_E) = rcell st0 149 (.inr (9, [some 150, some 151, some 152, none, some 153, none, none, none, none, none, none, none, none, some 154, some 155, some 156, some 157, none, none, none, some 158, some 159, some 160, some 161, some 162, none])) := rfl
theorem rc_150 : (xz 273 : va_E) = rcell st0 150 (.inl (0, 273, none)) := rfl
theorem rc_151 : (xz 273 : va_E) = rcell st0 151 (.inl (0, 273, none)) := rfl
theorem rc_152 : (xz 2730 : va_E) = rcell st0 152 (.inl (0, 2730, none)) := rfl
theorem rc_153 : (xz 400 : va_E) = rcell st0 153 (.inl (0, 400, none)) := rfl
theorem rc_154 : (xz 9 : va_E) = rcell st0 154 (.inl (0, 9, none)) := rfl
theorem rc_155 : (xz 512 : va_E) = rcell st0 155 (.inl (0, 512, none)) := rfl
theorem rc_156 : (xz 512 : va_E) = rcell st0 156 (.inl (0, 512, none)) := rfl
theorem rc_157 : (xz 4608 : va_E) = rcell st0 157 (.inl (0, 4608, none)) := rfl
theorem rc_158 : (xz 9 : va_E) = rcell st0 158 (.inl (0, 9, none)) := rfl
theorem rc_159 : (xz 9 : va_E) = rcell st0 159 (.inl (0, 9, none)) := rfl
theorem rc_160 : (xz 9 : va_E) = rcell st0 160 (.inl (0, 9, none)) := rfl
theorem rc_161 : (xz 81 : va_E) = rcell st0 161 (.inl (0, 81, none)) := rfl
theorem rc_162 : (xz 400 : va_E) = rcell st0 162 (.inl (0, 400, none)) := rfl
set_option maxHeartbeats 4000000 in
set_option maxRecDepth 100000 in
theorem rl_eq : [rcell st0 0 (.inr (8, [some 1, some 3, some 5, some 10, some 11, some 84, some 90, some 98, some 141, some 145])), rcell st0 1 (.inr (1, [some 2, none])), rcell st0 2 (.inl (1, 400, none)), rcell st0 3 (.inr (1, [some 4, none])), rcell st0 4 (.inl (1, 256, none)), rcell st0 5 (.inr (6, [some 6, none, none, some 1, none, none, none, none])), rcell st0 6 (.inr (5, [none, none, some 7, some 8, some 9])), rcell st0 7 (.inl (0, 9, none)), rcell st0 8 (.inl (0, 9, none)), rcell st0 9 (.inl (0, 81, none)), rcell st0 10 (.inl (2, 3, some [12, 36, 60])), rcell st0 11 (.inl (3, 3, some [16, 40, 64])), rcell st0 12 (.inr (5, [none, none, some 13, some 14, some 15])), rcell st0 13 (.inl (0, 9, none)), rcell st0 14 (.inl (0, 9, none)), rcell st0 15 (.inl (0, 81, none)), rcell st0 16 (.inr (3, [some 17, some 18])), rcell st0 17 (.inl (4, 7, some [22, 24, 26, 28, 30, 32, 34])), rcell st0 18 (.inr (5, [none, none, some 19, some 20, some 21])), rcell st0 19 (.inl (0, 9, none)), rcell st0 20 (.inl (0, 9, none)), rcell st0 21 (.inl (0, 81, none)), rcell st0 22 (.inr (2, [none, none, none, none, some 23])), rcell st0 23 (.inl (0, 9, none)), rcell st0 24 (.inr (2, [none, none, none, none, some 25])), rcell st0 25 (.inl (0, 9, none)), rcell st0 26 (.inr (2, [none, none, none, none, some 27])), rcell st0 27 (.inl (0, 9, none)), rcell st0 28 (.inr (2, [none, none, none, none, some 29])), rcell st0 29 (.inl (0, 9, none)), rcell st0 30 (.inr (2, [none, none, none, none, some 31])), rcell st0 31 (.inl (0, 9, none)), rcell st0 32 (.inr (2, [none, none, none, none, some 33])), rcell st0 33 (.inl (0, 9, none)), rcell st0 34 (.inr (2, [none, none, none, none, some 35])), rcell st0 35 (.inl (0, 9, none)), rcell st0 36 (.inr (5, [none, none, some 37, some 38, some 39])), rcell st0 37 (.inl (0, 9, none)), rcell st0 38 (.inl (0, 9, none)), rcell st0 39 (.inl (0, 81, none)), rcell st0 40 (.inr (3, [some 41, some 42])), rcell st0 41 (.inl (4, 7, some [46, 48, 50, 52, 54, 56, 58])), rcell st0 42 (.inr (5, [none, none, some 43, some 44, some 45])), rcell st0 43 (.inl (0, 9, none)), rcell st0 44 (.inl (0, 9, none)), rcell st0 45 (.inl (0, 81, none)), rcell st0 46 (.inr (2, [none, none, none, none, some 47])), rcell st0 47 (.inl (0, 9, none)), rcell st0 48 (.inr (2, [none, none, none, none, some 49])), rcell st0 49 (.inl (0, 9, none)), rcell st0 50 (.inr (2, [none, none, none, none, some 51])), rcell st0 51 (.inl (0, 9, none)), rcell st0 52 (.inr (2, [none, none, none, none, some 53])), rcell st0 53 (.inl (0, 9, none)), rcell st0 54 (.inr (2, [none, none, none, none, some 55])), rcell st0 55 (.inl (0, 9, none)), rcell st0 56 (.inr (2, [none, none, none, none, some 57])), rcell st0 57 (.inl (0, 9, none)), rcell st0 58 (.inr (2, [none, none, none, none, some 59])), rcell st0 59 (.inl (0, 9, none)), rcell st0 60 (.inr (5, [none, none, some 61, some 62, some 63])), rcell st0 61 (.inl (0, 9, none)), rcell st0 62 (.inl (0, 9, none)), rcell st0 63 (.inl (0, 81, none)), rcell st0 64 (.inr (3, [some 65, some 66])), rcell st0 65 (.inl (4, 7, some [70, 72, 74, 76, 78, 80, 82])), rcell st0 66 (.inr (5, [none, none, some 67, some 68, some 69])), rcell st0 67 (.inl (0, 9, none)), rcell st0 68 (.inl (0, 9, none)), rcell st0 69 (.inl (0, 81, none)), rcell st0 70 (.inr (2, [none, none, none, none, some 71])), rcell st0 71 (.inl (0, 9, none)), rcell st0 72 (.inr (2, [none, none, none, none, some 73])), rcell st0 73 (.inl (0, 9, none)), rcell st0 74 (.inr (2, [none, none, none, none, some 75])), rcell st0 75 (.inl (0, 9, none)), rcell st0 76 (.inr (2, [none, none, none, none, some 77])), rcell st0 77 (.inl (0, 9, none)), rcell st0 78 (.inr (2, [none, none, none, none, some 79])), rcell st0 79 (.inl (0, 9, none)), rcell st0 80 (.inr (2, [none, none, none, none, some 81])), rcell st0 81 (.inl (0, 9, none)), rcell st0 82 (.inr (2, [none, none, none, none, some 83])), rcell st0 83 (.inl (0, 9, none)), rcell st0 84 (.inr (7, [some 85, some 86, some 87, some 88, some 89])), rcell st0 85 (.inl (0, 4608, none)), rcell st0 86 (.inl (0, 4608, none)), rcell st0 87 (.inl (0, 4608, none)), rcell st0 88 (.inl (0, 512, none)), rcell st0 89 (.inl (0, 512, none)), rcell st0 90 (.inr (0, [some 91, some 95, some 96, some 97])), rcell st0 91 (.inr (5, [none, none, some 92, some 93, some 94])), rcell st0 92 (.inl (0, 9, none)), rcell st0 93 (.inl (0, 9, none)), rcell st0 94 (.inl (0, 81, none)), rcell st0 95 (.inl (0, 9, none)), rcell st0 96 (.inl (0, 4096, none)), rcell st0 97 (.inl (0, 4096, none)), rcell st0 98 (.inr (4, [none, none, some 99, some 100])), rcell st0 99 (.inl (0, 10, none)), rcell st0 100 (.inl (2, 10, some [101, 105, 109, 113, 117, 121, 125, 129, 133, 137])), rcell st0 101 (.inr (5, [none, none, some 102, some 103, some 104])), rcell st0 102 (.inl (0, 9, none)), rcell st0 103 (.inl (0, 9, none)), rcell st0 104 (.inl (0, 81, none)), rcell st0 105 (.inr (5, [none, none, some 106, some 107, some 108])), rcell st0 106 (.inl (0, 9, none)), rcell st0 107 (.inl (0, 9, none)), rcell st0 108 (.inl (0, 81, none)), rcell st0 109 (.inr (5, [none, none, some 110, some 111, some 112])), rcell st0 110 (.inl (0, 9, none)), rcell st0 111 (.inl (0, 9, none)), rcell st0 112 (.inl (0, 81, none)), rcell st0 113 (.inr (5, [none, none, some 114, some 115, some 116])), rcell st0 114 (.inl (0, 9, none)), rcell st0 115 (.inl (0, 9, none)), rcell st0 116 (.inl (0, 81, none)), rcell st0 117 (.inr (5, [none, none, some 118, some 119, some 120])), rcell st0 118 (.inl (0, 9, none)), rcell st0 119 (.inl (0, 9, none)), rcell st0 120 (.inl (0, 81, none)), rcell st0 121 (.inr (5, [none, none, some 122, some 123, some 124])), rcell st0 122 (.inl (0, 9, none)), rcell st0 123 (.inl (0, 9, none)), rcell st0 124 (.inl (0, 81, none)), rcell st0 125 (.inr (5, [none, none, some 126, some 127, some 128])), rcell st0 126 (.inl (0, 9, none)), rcell st0 127 (.inl (0, 9, none)), rcell st0 128 (.inl (0, 81, none)), rcell st0 129 (.inr (5, [none, none, some 130, some 131, some 132])), rcell st0 130 (.inl (0, 9, none)), rcell st0 131 (.inl (0, 9, none)), rcell st0 132 (.inl (0, 81, none)), rcell st0 133 (.inr (5, [none, none, some 134, some 135, some 136])), rcell st0 134 (.inl (0, 9, none)), rcell st0 135 (.inl (0, 9, none)), rcell st0 136 (.inl (0, 81, none)), rcell st0 137 (.inr (5, [none, none, some 138, some 139, some 140])), rcell st0 138 (.inl (0, 9, none)), rcell st0 139 (.inl (0, 9, none)), rcell st0 140 (.inl (0, 81, none)), rcell st0 141 (.inr (5, [none, none, some 142, some 143, some 144])), rcell st0 142 (.inl (0, 9, none)), rcell st0 143 (.inl (0, 9, none)), rcell st0 144 (.inl (0, 81, none)), rcell st0 145 (.inr (5, [none, none, some 146, some 147, some 148])), rcell st0 146 (.inl (0, 9, none)), rcell st0 147 (.inl (0, 9, none)), rcell st0 148 (.inl (0, 81, none)), rcell st0 149 (.inr (9, [some 150, some 151, some 152, none, some 153, none, none, none, none, none, none, none, none, some 154, some 155, some 156, some 157, none, none, none, some 158, some 159, some 160, some 161, some 162, none])), rcell st0 150 (.inl (0, 273, none)), rcell st0 151 (.inl (0, 273, none)), rcell st0 152 (.inl (0, 2730, none)), rcell st0 153 (.inl (0, 400, none)), rcell st0 154 (.inl (0, 9, none)), rcell st0 155 (.inl (0, 512, none)), rcell st0 156 (.inl (0, 512, none)), rcell st0 157 (.inl (0, 4608, none)), rcell st0 158 (.inl (0, 9, none)), rcell st0 159 (.inl (0, 9, none)), rcell st0 160 (.inl (0, 9, none)), rcell st0 161 (.inl (0, 81, none)), rcell st0 162 (.inl (0, 400, none))] = rnd st0 0 SH := rfl
theorem rcc {a b : va_E} {l m : xMem} (h : a = b) (h2 : l = m) : a :: l = b :: m := by rw [h, h2]
set_option maxHeartbeats 4000000 in
set_option maxRecDepth 100000 in
theorem m0_eq : MA ++ MB = mem st0 [] := by
  unfold mem
  rw [List.append_nil, ← rl_eq]
  exact (rcc rc_0 (rcc rc_1 (rcc rc_2 (rcc rc_3 (rcc rc_4 (rcc rc_5 (rcc rc_6 (rcc rc_7 (rcc rc_8 (rcc rc_9 (rcc rc_10 (rcc rc_11 (rcc rc_12 (rcc rc_13 (rcc rc_14 (rcc rc_15 (rcc rc_16 (rcc rc_17 (rcc rc_18 (rcc rc_19 (rcc rc_20 (rcc rc_21 (rcc rc_22 (rcc rc_23 (rcc rc_24 (rcc rc_25 (rcc rc_26 (rcc rc_27 (rcc rc_28 (rcc rc_29 (rcc rc_30 (rcc rc_31 (rcc rc_32 (rcc rc_33 (rcc rc_34 (rcc rc_35 (rcc rc_36 (rcc rc_37 (rcc rc_38 (rcc rc_39 (rcc rc_40 (rcc rc_41 (rcc rc_42 (rcc rc_43 (rcc rc_44 (rcc rc_45 (rcc rc_46 (rcc rc_47 (rcc rc_48 (rcc rc_49 (rcc rc_50 (rcc rc_51 (rcc rc_52 (rcc rc_53 (rcc rc_54 (rcc rc_55 (rcc rc_56 (rcc rc_57 (rcc rc_58 (rcc rc_59 (rcc rc_60 (rcc rc_61 (rcc rc_62 (rcc rc_63 (rcc rc_64 (rcc rc_65 (rcc rc_66 (rcc rc_67 (rcc rc_68 (rcc rc_69 (rcc rc_70 (rcc rc_71 (rcc rc_72 (rcc rc_73 (rcc rc_74 (rcc rc_75 (rcc rc_76 (rcc rc_77 (rcc rc_78 (rcc rc_79 (rcc rc_80 (rcc rc_81 (rcc rc_82 (rcc rc_83 (rcc rc_84 (rcc rc_85 (rcc rc_86 (rcc rc_87 (rcc rc_88 (rcc rc_89 (rcc rc_90 (rcc rc_91 (rcc rc_92 (rcc rc_93 (rcc rc_94 (rcc rc_95 (rcc rc_96 (rcc rc_97 (rcc rc_98 (rcc rc_99 (rcc rc_100 (rcc rc_101 (rcc rc_102 (rcc rc_103 (rcc rc_104 (rcc rc_105 (rcc rc_106 (rcc rc_107 (rcc rc_108 (rcc rc_109 (rcc rc_110 (rcc rc_111 (rcc rc_112 (rcc rc_113 (rcc rc_114 (rcc rc_115 (rcc rc_116 (rcc rc_117 (rcc rc_118 (rcc rc_119 (rcc rc_120 (rcc rc_121 (rcc rc_122 (rcc rc_123 (rcc rc_124 (rcc rc_125 (rcc rc_126 (rcc rc_127 (rcc rc_128 (rcc rc_129 (rcc rc_130 (rcc rc_131 (rcc rc_132 (rcc rc_133 (rcc rc_134 (rcc rc_135 (rcc rc_136 (rcc rc_137 (rcc rc_138 (rcc rc_139 (rcc rc_140 (rcc rc_141 (rcc rc_142 (rcc rc_143 (rcc rc_144 (rcc rc_145 (rcc rc_146 (rcc rc_147 (rcc rc_148 (rcc rc_149 (rcc rc_150 (rcc rc_151 (rcc rc_152 (rcc rc_153 (rcc rc_154 (rcc rc_155 (rcc rc_156 (rcc rc_157 (rcc rc_158 (rcc rc_159 (rcc rc_160 (rcc rc_161 (rcc rc_162 rfl)))))))))))))))))))))))))))))))))))))))))))))))))))))))))))))))))))))))))))))))))))))))))))))))))))))))))))))))))))))))))))))))))))))))))))))))))))))))))))))))))))
theorem st0_zero {a i : Nat} (h1 : ¬ (a = 5 ∧ i = 2)) (h2 : ¬ (a = 149 ∧ i = 7)) : st0 a i = 0 := by
  unfold st0
  by_cases e5 : a = 5
  · rw [if_pos e5]
    exact if_neg (fun h => h1 ⟨e5, h⟩)
  · rw [if_neg e5]
    by_cases e9 : a = 149
    · rw [if_pos e9]
      exact if_neg (fun h => h2 ⟨e9, h⟩)
    · rw [if_neg e9]
theorem INV0 : INV st0 := by
  refine ⟨fun a i h => ?_, ⟨?_, ?_, fun m _ => ?_⟩, 0, by omega, st0_zero (by omega) (by omega), st0_zero (by omega) (by omega)⟩
  · rw [st0_zero (fun e => ?_) (fun e => ?_)]
    · exact ⟨0, h, rfl⟩
    · obtain ⟨rfl, rfl⟩ := e
      exact absurd h (by decide +kernel)
    · obtain ⟨rfl, rfl⟩ := e
      exact absurd h (by decide +kernel)
  · intro s _ n e hn p hp
    rw [st0_zero (by omega) (by omega)] at e
    have := nI_inj (a := 0) (b := n) e (by omega) (by omega)
    omega
  · intro s _ n e hn p hp
    rw [st0_zero (by omega) (by omega)] at e
    have := nI_inj (a := 0) (b := n) e (by omega) (by omega)
    omega
  · intro s _ n e hn p hp
    dsimp only at e
    rw [st0_zero (by omega) (by omega)] at e
    have := nI_inj (a := 0) (b := n) e (by omega) (by omega)
    omega
theorem INV20 : INV2 st0 := by
  refine ⟨INV0, ⟨0, fun _ => 0, ⟨by omega, st0_zero (by omega) (by omega), fun i hi => by omega⟩, by omega, st0_zero (by omega) (by omega), fun i hi => by omega⟩, ?_, ?_⟩
  · rw [st0_zero (by omega) (by omega), st0_zero (by omega) (by omega)]
  · rfl
theorem CN0 {x : Nat} (h1 : 5 < x) (h2 : x + 3 < 149) : CN x 0 0 (fun _ _ => 0) st0 := ⟨st0_zero (by omega) (by omega), st0_zero (by omega) (by omega), fun a _ => by rw [st0_zero (by omega) (by omega), nr_0]; rfl, fun a b _ _ => by rw [st0_zero (by omega) (by omega)]; rfl⟩
theorem enc0 (k : Nat) : enc (0, 0, (fun _ _ => 0), fun _ => 0) k = 0 := by
  unfold enc
  split
  · rfl
  · split
    · rfl
    · rfl
theorem INV30 : INV3 st0 := by
  refine ⟨INV20, ⟨fun _ _ => (0, 0, (fun _ _ => 0), fun _ => 0), 0, ⟨by omega, fun _ _ _ _ => gv0⟩, ⟨fun s hs => ⟨CN0 (by omega) (by omega), fun i hi => absurd hi (Nat.not_lt_zero i)⟩, st0_zero (by omega) (by omega), 0, by omega, st0_zero (by omega) (by omega), fun j hj => absurd hj (Nat.not_lt_zero j)⟩, st0_zero (by omega) (by omega), fun k hk => ?_, fun j hj => absurd hj (Nat.not_lt_zero j)⟩, ⟨fun s hs => ⟨0, 0, fun _ _ => 0, gv0.1, CN0 (by omega) (by omega), fun q hq h => absurd (st0_zero (by omega) (by omega)) h⟩, 0, 0, fun _ _ => 0, gv0.1, CN0 (by omega) (by omega), fun cell i P L _ hi => absurd hi (Nat.not_lt_zero i)⟩, [], by decide, ⟨st0_zero (by omega) (by omega), fun i hi => absurd hi (Nat.not_lt_zero i)⟩, st0_zero (by omega) (by omega), fun i hi => absurd hi (Nat.not_lt_zero i)⟩
  rw [st0_zero (by omega) (by omega), enc0]
  rfl
set_option maxHeartbeats 4000000 in
set_option maxRecDepth 100000 in
theorem law_start {nm : String} (G : xG) (hL : G.2.2.2.2.2.2.1 ≤ 3072) : xW G (mL nm) room_1 (xLZ G) 0 [(0, .float 200)] [] [] 0 0 := by
  refine xi_new (i := 0) (ci := 8) (fs := [.null, .null, .null, .null, .null, .null, .null, .null, .null, .null]) (M' := [.inr (8, [.null, .null, .null, .null, .null, .null, .null, .null, .null, .null])]) dL_law_0 rfl ok_8 w_22 w_23 w_1 nf_8 rfl rfl rfl (Nat.le_of_ble_eq_true rfl) (Nat.le_of_ble_eq_true rfl) ?_
  refine xi_dup dL_law_3 rfl ?_
  refine xi_callI (as := []) (rest := [.ref 0]) dL_law_4 (ct_X11_init G [] 0 rfl _ rfl) mkX11_init w_25 w_24 rfl rfl rfl rfl (Nat.le_of_ble_eq_true rfl) (Nat.le_of_ble_eq_true rfl) (Nat.le_of_ble_eq_true rfl) (Nat.le_of_ble_eq_true rfl) (Nat.le_of_ble_eq_true rfl) ?_
  intro v M2 hq
  obtain ⟨rfl, rfl⟩ := hq
  show xW _ _ _ _ 7 _ [.ref 0] MA _ _
  refine xi_astore_n (lv' := [(1, .ref 0), (0, .float 200)]) dL_law_7 (Nat.le_of_ble_eq_true rfl) rfl ?_
  refine xi_new (i := 149) (ci := 9) (fs := [.null, .null, .null, .int 0, .null, .int 0, .int 0, .int 0, .int 0, .int 0, .int 0, .int 0, .int 0, .null, .null, .null, .null, .int 0, .int 0, .int 0, .null, .null, .null, .null, .null, .int 0]) (M' := MA ++ [.inr (9, [.null, .null, .null, .int 0, .null, .int 0, .int 0, .int 0, .int 0, .int 0, .int 0, .int 0, .int 0, .null, .null, .null, .null, .int 0, .int 0, .int 0, .null, .null, .null, .null, .null, .int 0])]) dL_law_8 rfl ok_9 w_1002 w_1003 w_11 nf_9 rfl rfl rfl (Nat.le_of_ble_eq_true rfl) (Nat.le_of_ble_eq_true rfl) ?_
  refine xi_dup dL_law_11 rfl ?_
  refine xi_callI (as := []) (rest := [.ref 149]) dL_law_12 (ct_X12_init G MA 149 rfl _ rfl) mkX12_init w_1005 w_1004 rfl rfl rfl rfl (Nat.le_of_ble_eq_true rfl) (Nat.le_of_ble_eq_true rfl) (Nat.le_of_ble_eq_true rfl) (Nat.le_of_ble_eq_true rfl) (Nat.le_of_ble_eq_true rfl) ?_
  intro v M2 hq
  obtain ⟨rfl, rfl⟩ := hq
  show xW _ _ _ _ 15 _ [.ref 149] (MA ++ MB) 163 36018
  rw [m0_eq]
  refine xi_astore_n (lv' := [(2, .ref 149), (1, .ref 0), (0, .float 200)]) dL_law_15 (Nat.le_of_ble_eq_true rfl) rfl ?_
  refine xi_iconst (v := nI (6 * 0)) dL_law_16 (by decide) ?_
  refine xi_istore_n (lv' := LV (nI (6 * 0))) dL_law_17 (Nat.le_of_ble_eq_true rfl) rfl ?_
  exact law_loop G hL 512 0 st0 [] 163 36018 INV30 (by omega) (by omega) (by omega) (by omega)
