/-! decode rows -/
theorem q2_cX12_parts : ∀ i, (r0_cX12_parts)[64 + i]? = (r2_cX12_parts)[i]? := chn (A := a1_cX12_parts) (B := r2_cX12_parts) (n := 32) (k := 32) rfl q1_cX12_parts
theorem dX12_parts_0 : decode cX12_parts 0 = .ok (.iconst 0, 1) := dc_3 (gB_l lq_cX12_parts (p := 0) (o := 3) rfl)
theorem dX12_parts_1 : decode cX12_parts 1 = .ok (.istore_n 2, 1) := dc_61 (gB_l lq_cX12_parts (p := 1) (o := 61) rfl)
theorem dX12_parts_2 : decode cX12_parts 2 = .ok (.iconst 0, 1) := dc_3 (gB_l lq_cX12_parts (p := 2) (o := 3) rfl)
theorem dX12_parts_3 : decode cX12_parts 3 = .ok (.istore_n 3, 1) := dc_62 (gB_l lq_cX12_parts (p := 3) (o := 62) rfl)
theorem dX12_parts_4 : decode cX12_parts 4 = .ok (.iload_n 3, 1) := dc_29 (gB_l lq_cX12_parts (p := 4) (o := 29) rfl)
theorem dX12_parts_5 : decode cX12_parts 5 = .ok (.aload_n 0, 1) := dc_42 (gB_l lq_cX12_parts (p := 5) (o := 42) rfl)
theorem dX12_parts_6 : decode cX12_parts 6 = .ok (.iload_n 1, 1) := dc_27 (gB_l lq_cX12_parts (p := 6) (o := 27) rfl)
theorem dX12_parts_7 : decode cX12_parts 7 = .ok (.invokevirtual 63, 3) := dc_182 (gB_l lq_cX12_parts (p := 7) (o := 182) rfl) (gB_l lq_cX12_parts (p := 8) (o := 0) rfl) (gB_l lq_cX12_parts (p := 9) (o := 63) rfl) rfl
theorem dX12_parts_10 : decode cX12_parts 10 = .ok (.if_icmp .ge 64, 3) := dc_162 (gB_l lq_cX12_parts (p := 10) (o := 162) rfl) (gB_l lq_cX12_parts (p := 11) (o := 0) rfl) (gB_l lq_cX12_parts (p := 12) (o := 64) rfl) rfl
theorem dX12_parts_13 : decode cX12_parts 13 = .ok (.iconst 1, 1) := dc_4 (gB_l lq_cX12_parts (p := 13) (o := 4) rfl)
theorem dX12_parts_14 : decode cX12_parts 14 = .ok (.istore 4, 2) := dc_54 (gB_l lq_cX12_parts (p := 14) (o := 54) rfl) (gB_l lq_cX12_parts (p := 15) (o := 4) rfl)
theorem dX12_parts_16 : decode cX12_parts 16 = .ok (.iconst 0, 1) := dc_3 (gB_l lq_cX12_parts (p := 16) (o := 3) rfl)
theorem dX12_parts_17 : decode cX12_parts 17 = .ok (.istore 5, 2) := dc_54 (gB_l lq_cX12_parts (p := 17) (o := 54) rfl) (gB_l lq_cX12_parts (p := 18) (o := 5) rfl)
theorem dX12_parts_19 : decode cX12_parts 19 = .ok (.iload 5, 2) := dc_21 (gB_l lq_cX12_parts (p := 19) (o := 21) rfl) (gB_l lq_cX12_parts (p := 20) (o := 5) rfl)
theorem dX12_parts_21 : decode cX12_parts 21 = .ok (.iload_n 3, 1) := dc_29 (gB_l lq_cX12_parts (p := 21) (o := 29) rfl)
theorem dX12_parts_22 : decode cX12_parts 22 = .ok (.if_icmp .ge 33, 3) := dc_162 (gB_l lq_cX12_parts (p := 22) (o := 162) rfl) (gB_l lq_cX12_parts (p := 23) (o := 0) rfl) (gB_l lq_cX12_parts (p := 24) (o := 33) rfl) rfl
theorem dX12_parts_25 : decode cX12_parts 25 = .ok (.iload 4, 2) := dc_21 (gB_l lq_cX12_parts (p := 25) (o := 21) rfl) (gB_l lq_cX12_parts (p := 26) (o := 4) rfl)
theorem dX12_parts_27 : decode cX12_parts 27 = .ok (.ifCond .eq 19, 3) := dc_153 (gB_l lq_cX12_parts (p := 27) (o := 153) rfl) (gB_l lq_cX12_parts (p := 28) (o := 0) rfl) (gB_l lq_cX12_parts (p := 29) (o := 19) rfl) rfl
theorem dX12_parts_30 : decode cX12_parts 30 = .ok (.aload_n 0, 1) := dc_42 (gB_l lq_cX12_parts (p := 30) (o := 42) rfl)
theorem dX12_parts_31 : decode cX12_parts 31 = .ok (.iload_n 1, 1) := dc_27 (gB_l lq_cX12_parts (p := 31) (o := 27) rfl)
theorem dX12_parts_32 : decode cX12_parts 32 = .ok (.iload 5, 2) := dc_21 (gB_c lq_cX12_parts q1_cX12_parts 0 (o := 21) rfl) (gB_c lq_cX12_parts q1_cX12_parts 1 (o := 5) rfl)
theorem dX12_parts_34 : decode cX12_parts 34 = .ok (.iload_n 3, 1) := dc_29 (gB_c lq_cX12_parts q1_cX12_parts 2 (o := 29) rfl)
theorem dX12_parts_35 : decode cX12_parts 35 = .ok (.invokevirtual 196, 3) := dc_182 (gB_c lq_cX12_parts q1_cX12_parts 3 (o := 182) rfl) (gB_c lq_cX12_parts q1_cX12_parts 4 (o := 0) rfl) (gB_c lq_cX12_parts q1_cX12_parts 5 (o := 196) rfl) rfl
theorem dX12_parts_38 : decode cX12_parts 38 = .ok (.iconst (-1), 1) := dc_2 (gB_c lq_cX12_parts q1_cX12_parts 6 (o := 2) rfl)
theorem dX12_parts_39 : decode cX12_parts 39 = .ok (.if_icmp .ne 7, 3) := dc_160 (gB_c lq_cX12_parts q1_cX12_parts 7 (o := 160) rfl) (gB_c lq_cX12_parts q1_cX12_parts 8 (o := 0) rfl) (gB_c lq_cX12_parts q1_cX12_parts 9 (o := 7) rfl) rfl
theorem dX12_parts_42 : decode cX12_parts 42 = .ok (.iconst 1, 1) := dc_4 (gB_c lq_cX12_parts q1_cX12_parts 10 (o := 4) rfl)
theorem dX12_parts_43 : decode cX12_parts 43 = .ok (.goto 4, 3) := dc_167 (gB_c lq_cX12_parts q1_cX12_parts 11 (o := 167) rfl) (gB_c lq_cX12_parts q1_cX12_parts 12 (o := 0) rfl) (gB_c lq_cX12_parts q1_cX12_parts 13 (o := 4) rfl) rfl
theorem dX12_parts_46 : decode cX12_parts 46 = .ok (.iconst 0, 1) := dc_3 (gB_c lq_cX12_parts q1_cX12_parts 14 (o := 3) rfl)
theorem dX12_parts_47 : decode cX12_parts 47 = .ok (.istore 4, 2) := dc_54 (gB_c lq_cX12_parts q1_cX12_parts 15 (o := 54) rfl) (gB_c lq_cX12_parts q1_cX12_parts 16 (o := 4) rfl)
theorem dX12_parts_49 : decode cX12_parts 49 = .ok (.iinc 5 1, 3) := dc_132 (gB_c lq_cX12_parts q1_cX12_parts 17 (o := 132) rfl) (gB_c lq_cX12_parts q1_cX12_parts 18 (o := 5) rfl) (gB_c lq_cX12_parts q1_cX12_parts 19 (o := 1) rfl) rfl
theorem dX12_parts_52 : decode cX12_parts 52 = .ok (.goto (-33), 3) := dc_167 (gB_c lq_cX12_parts q1_cX12_parts 20 (o := 167) rfl) (gB_c lq_cX12_parts q1_cX12_parts 21 (o := 255) rfl) (gB_c lq_cX12_parts q1_cX12_parts 22 (o := 223) rfl) rfl
theorem dX12_parts_55 : decode cX12_parts 55 = .ok (.iload_n 2, 1) := dc_28 (gB_c lq_cX12_parts q1_cX12_parts 23 (o := 28) rfl)
theorem dX12_parts_56 : decode cX12_parts 56 = .ok (.iload 4, 2) := dc_21 (gB_c lq_cX12_parts q1_cX12_parts 24 (o := 21) rfl) (gB_c lq_cX12_parts q1_cX12_parts 25 (o := 4) rfl)
theorem dX12_parts_58 : decode cX12_parts 58 = .ok (.ifCond .eq 7, 3) := dc_153 (gB_c lq_cX12_parts q1_cX12_parts 26 (o := 153) rfl) (gB_c lq_cX12_parts q1_cX12_parts 27 (o := 0) rfl) (gB_c lq_cX12_parts q1_cX12_parts 28 (o := 7) rfl) rfl
theorem dX12_parts_61 : decode cX12_parts 61 = .ok (.iconst 1, 1) := dc_4 (gB_c lq_cX12_parts q1_cX12_parts 29 (o := 4) rfl)
theorem dX12_parts_62 : decode cX12_parts 62 = .ok (.goto 4, 3) := dc_167 (gB_c lq_cX12_parts q1_cX12_parts 30 (o := 167) rfl) (gB_c lq_cX12_parts q1_cX12_parts 31 (o := 0) rfl) (gB_c lq_cX12_parts q2_cX12_parts 0 (o := 4) rfl) rfl
theorem dX12_parts_65 : decode cX12_parts 65 = .ok (.iconst 0, 1) := dc_3 (gB_c lq_cX12_parts q2_cX12_parts 1 (o := 3) rfl)
theorem dX12_parts_66 : decode cX12_parts 66 = .ok (.iadd, 1) := dc_96 (gB_c lq_cX12_parts q2_cX12_parts 2 (o := 96) rfl)
theorem dX12_parts_67 : decode cX12_parts 67 = .ok (.istore_n 2, 1) := dc_61 (gB_c lq_cX12_parts q2_cX12_parts 3 (o := 61) rfl)
theorem dX12_parts_68 : decode cX12_parts 68 = .ok (.iinc 3 1, 3) := dc_132 (gB_c lq_cX12_parts q2_cX12_parts 4 (o := 132) rfl) (gB_c lq_cX12_parts q2_cX12_parts 5 (o := 3) rfl) (gB_c lq_cX12_parts q2_cX12_parts 6 (o := 1) rfl) rfl
theorem dX12_parts_71 : decode cX12_parts 71 = .ok (.goto (-67), 3) := dc_167 (gB_c lq_cX12_parts q2_cX12_parts 7 (o := 167) rfl) (gB_c lq_cX12_parts q2_cX12_parts 8 (o := 255) rfl) (gB_c lq_cX12_parts q2_cX12_parts 9 (o := 189) rfl) rfl
theorem dX12_parts_74 : decode cX12_parts 74 = .ok (.iload_n 2, 1) := dc_28 (gB_c lq_cX12_parts q2_cX12_parts 10 (o := 28) rfl)
theorem dX12_parts_75 : decode cX12_parts 75 = .ok (.ireturn, 1) := dc_172 (gB_c lq_cX12_parts q2_cX12_parts 11 (o := 172) rfl)
abbrev r0_cX12_passes : List Nat := [42, 180, 0, 123, 154, 0, 7, 42, 182, 0, 130, 177]
theorem lq_cX12_passes : (cX12_passes).data.toList.map UInt8.toNat = r0_cX12_passes := by decide +kernel
theorem dX12_passes_0 : decode cX12_passes 0 = .ok (.aload_n 0, 1) := dc_42 (gB_l lq_cX12_passes (p := 0) (o := 42) rfl)
theorem dX12_passes_1 : decode cX12_passes 1 = .ok (.getfield 123, 3) := dc_180 (gB_l lq_cX12_passes (p := 1) (o := 180) rfl) (gB_l lq_cX12_passes (p := 2) (o := 0) rfl) (gB_l lq_cX12_passes (p := 3) (o := 123) rfl) rfl
theorem dX12_passes_4 : decode cX12_passes 4 = .ok (.ifCond .ne 7, 3) := dc_154 (gB_l lq_cX12_passes (p := 4) (o := 154) rfl) (gB_l lq_cX12_passes (p := 5) (o := 0) rfl) (gB_l lq_cX12_passes (p := 6) (o := 7) rfl) rfl
theorem dX12_passes_7 : decode cX12_passes 7 = .ok (.aload_n 0, 1) := dc_42 (gB_l lq_cX12_passes (p := 7) (o := 42) rfl)
theorem dX12_passes_8 : decode cX12_passes 8 = .ok (.invokevirtual 130, 3) := dc_182 (gB_l lq_cX12_passes (p := 8) (o := 182) rfl) (gB_l lq_cX12_passes (p := 9) (o := 0) rfl) (gB_l lq_cX12_passes (p := 10) (o := 130) rfl) rfl
theorem dX12_passes_11 : decode cX12_passes 11 = .ok (.return_, 1) := dc_177 (gB_l lq_cX12_passes (p := 11) (o := 177) rfl)
abbrev r0_cX12_place : List Nat := [42, 27, 28, 182, 0, 70, 153, 0, 12, 42, 27, 28, 182, 0, 220, 167, 0, 5, 16, 254, 172]
theorem lq_cX12_place : (cX12_place).data.toList.map UInt8.toNat = r0_cX12_place := by decide +kernel
theorem dX12_place_0 : decode cX12_place 0 = .ok (.aload_n 0, 1) := dc_42 (gB_l lq_cX12_place (p := 0) (o := 42) rfl)
theorem dX12_place_1 : decode cX12_place 1 = .ok (.iload_n 1, 1) := dc_27 (gB_l lq_cX12_place (p := 1) (o := 27) rfl)
theorem dX12_place_2 : decode cX12_place 2 = .ok (.iload_n 2, 1) := dc_28 (gB_l lq_cX12_place (p := 2) (o := 28) rfl)
theorem dX12_place_3 : decode cX12_place 3 = .ok (.invokevirtual 70, 3) := dc_182 (gB_l lq_cX12_place (p := 3) (o := 182) rfl) (gB_l lq_cX12_place (p := 4) (o := 0) rfl) (gB_l lq_cX12_place (p := 5) (o := 70) rfl) rfl
theorem dX12_place_6 : decode cX12_place 6 = .ok (.ifCond .eq 12, 3) := dc_153 (gB_l lq_cX12_place (p := 6) (o := 153) rfl) (gB_l lq_cX12_place (p := 7) (o := 0) rfl) (gB_l lq_cX12_place (p := 8) (o := 12) rfl) rfl
theorem dX12_place_9 : decode cX12_place 9 = .ok (.aload_n 0, 1) := dc_42 (gB_l lq_cX12_place (p := 9) (o := 42) rfl)
theorem dX12_place_10 : decode cX12_place 10 = .ok (.iload_n 1, 1) := dc_27 (gB_l lq_cX12_place (p := 10) (o := 27) rfl)
theorem dX12_place_11 : decode cX12_place 11 = .ok (.iload_n 2, 1) := dc_28 (gB_l lq_cX12_place (p := 11) (o := 28) rfl)
theorem dX12_place_12 : decode cX12_place 12 = .ok (.invokevirtual 220, 3) := dc_182 (gB_l lq_cX12_place (p := 12) (o := 182) rfl) (gB_l lq_cX12_place (p := 13) (o := 0) rfl) (gB_l lq_cX12_place (p := 14) (o := 220) rfl) rfl
theorem dX12_place_15 : decode cX12_place 15 = .ok (.goto 5, 3) := dc_167 (gB_l lq_cX12_place (p := 15) (o := 167) rfl) (gB_l lq_cX12_place (p := 16) (o := 0) rfl) (gB_l lq_cX12_place (p := 17) (o := 5) rfl) rfl
theorem dX12_place_18 : decode cX12_place 18 = .ok (.bipush (-2), 2) := dc_16 (gB_l lq_cX12_place (p := 18) (o := 16) rfl) (gB_l lq_cX12_place (p := 19) (o := 254) rfl) rfl
theorem dX12_place_20 : decode cX12_place 20 = .ok (.ireturn, 1) := dc_172 (gB_l lq_cX12_place (p := 20) (o := 172) rfl)
abbrev r0_cX12_placeOf : List Nat := [3, 62, 42, 27, 29, 182, 0, 217, 28, 159, 0, 9, 132, 3, 1, 167, 255, 243, 29, 172]
theorem lq_cX12_placeOf : (cX12_placeOf).data.toList.map UInt8.toNat = r0_cX12_placeOf := by decide +kernel
theorem dX12_placeOf_0 : decode cX12_placeOf 0 = .ok (.iconst 0, 1) := dc_3 (gB_l lq_cX12_placeOf (p := 0) (o := 3) rfl)
theorem dX12_placeOf_1 : decode cX12_placeOf 1 = .ok (.istore_n 3, 1) := dc_62 (gB_l lq_cX12_placeOf (p := 1) (o := 62) rfl)
theorem dX12_placeOf_2 : decode cX12_placeOf 2 = .ok (.aload_n 0, 1) := dc_42 (gB_l lq_cX12_placeOf (p := 2) (o := 42) rfl)
theorem dX12_placeOf_3 : decode cX12_placeOf 3 = .ok (.iload_n 1, 1) := dc_27 (gB_l lq_cX12_placeOf (p := 3) (o := 27) rfl)
theorem dX12_placeOf_4 : decode cX12_placeOf 4 = .ok (.iload_n 3, 1) := dc_29 (gB_l lq_cX12_placeOf (p := 4) (o := 29) rfl)
theorem dX12_placeOf_5 : decode cX12_placeOf 5 = .ok (.invokevirtual 217, 3) := dc_182 (gB_l lq_cX12_placeOf (p := 5) (o := 182) rfl) (gB_l lq_cX12_placeOf (p := 6) (o := 0) rfl) (gB_l lq_cX12_placeOf (p := 7) (o := 217) rfl) rfl
theorem dX12_placeOf_8 : decode cX12_placeOf 8 = .ok (.iload_n 2, 1) := dc_28 (gB_l lq_cX12_placeOf (p := 8) (o := 28) rfl)
theorem dX12_placeOf_9 : decode cX12_placeOf 9 = .ok (.if_icmp .eq 9, 3) := dc_159 (gB_l lq_cX12_placeOf (p := 9) (o := 159) rfl) (gB_l lq_cX12_placeOf (p := 10) (o := 0) rfl) (gB_l lq_cX12_placeOf (p := 11) (o := 9) rfl) rfl
theorem dX12_placeOf_12 : decode cX12_placeOf 12 = .ok (.iinc 3 1, 3) := dc_132 (gB_l lq_cX12_placeOf (p := 12) (o := 132) rfl) (gB_l lq_cX12_placeOf (p := 13) (o := 3) rfl) (gB_l lq_cX12_placeOf (p := 14) (o := 1) rfl) rfl
theorem dX12_placeOf_15 : decode cX12_placeOf 15 = .ok (.goto (-13), 3) := dc_167 (gB_l lq_cX12_placeOf (p := 15) (o := 167) rfl) (gB_l lq_cX12_placeOf (p := 16) (o := 255) rfl) (gB_l lq_cX12_placeOf (p := 17) (o := 243) rfl) rfl
theorem dX12_placeOf_18 : decode cX12_placeOf 18 = .ok (.iload_n 3, 1) := dc_29 (gB_l lq_cX12_placeOf (p := 18) (o := 29) rfl)
theorem dX12_placeOf_19 : decode cX12_placeOf 19 = .ok (.ireturn, 1) := dc_172 (gB_l lq_cX12_placeOf (p := 19) (o := 172) rfl)
abbrev r0_cX12_points : List Nat := [42, 180, 0, 7, 16, 91, 27, 104, 46, 172]
theorem lq_cX12_points : (cX12_points).data.toList.map UInt8.toNat = r0_cX12_points := by decide +kernel
theorem dX12_points_0 : decode cX12_points 0 = .ok (.aload_n 0, 1) := dc_42 (gB_l lq_cX12_points (p := 0) (o := 42) rfl)
theorem dX12_points_1 : decode cX12_points 1 = .ok (.getfield 7, 3) := dc_180 (gB_l lq_cX12_points (p := 1) (o := 180) rfl) (gB_l lq_cX12_points (p := 2) (o := 0) rfl) (gB_l lq_cX12_points (p := 3) (o := 7) rfl) rfl
theorem dX12_points_4 : decode cX12_points 4 = .ok (.bipush 91, 2) := dc_16 (gB_l lq_cX12_points (p := 4) (o := 16) rfl) (gB_l lq_cX12_points (p := 5) (o := 91) rfl) rfl
theorem dX12_points_6 : decode cX12_points 6 = .ok (.iload_n 1, 1) := dc_27 (gB_l lq_cX12_points (p := 6) (o := 27) rfl)
theorem dX12_points_7 : decode cX12_points 7 = .ok (.imul, 1) := dc_104 (gB_l lq_cX12_points (p := 7) (o := 104) rfl)
theorem dX12_points_8 : decode cX12_points 8 = .ok (.iaload, 1) := dc_46 (gB_l lq_cX12_points (p := 8) (o := 46) rfl)
theorem dX12_points_9 : decode cX12_points 9 = .ok (.ireturn, 1) := dc_172 (gB_l lq_cX12_points (p := 9) (o := 172) rfl)
abbrev r1_cX12_polish : List Nat := [29, 172]
def a0_cX12_polish : List Nat := [42, 27, 182, 0, 67, 153, 0, 10, 28, 184, 0, 245, 154, 0, 6, 16, 254, 172, 42, 27, 28, 182, 1, 67, 62, 42, 27, 182, 1, 64, 54, 4]
abbrev r0_cX12_polish : List Nat := a0_cX12_polish ++ r1_cX12_polish
theorem lq_cX12_polish : (cX12_polish).data.toList.map UInt8.toNat = r0_cX12_polish := by decide +kernel
theorem q1_cX12_polish : ∀ i, (r0_cX12_polish)[32 + i]? = (r1_cX12_polish)[i]? := chn (A := a0_cX12_polish) (B := r1_cX12_polish) (n := 0) (k := 32) rfl (ch0 (R := r0_cX12_polish))
theorem dX12_polish_0 : decode cX12_polish 0 = .ok (.aload_n 0, 1) := dc_42 (gB_l lq_cX12_polish (p := 0) (o := 42) rfl)
theorem dX12_polish_1 : decode cX12_polish 1 = .ok (.iload_n 1, 1) := dc_27 (gB_l lq_cX12_polish (p := 1) (o := 27) rfl)
theorem dX12_polish_2 : decode cX12_polish 2 = .ok (.invokevirtual 67, 3) := dc_182 (gB_l lq_cX12_polish (p := 2) (o := 182) rfl) (gB_l lq_cX12_polish (p := 3) (o := 0) rfl) (gB_l lq_cX12_polish (p := 4) (o := 67) rfl) rfl
theorem dX12_polish_5 : decode cX12_polish 5 = .ok (.ifCond .eq 10, 3) := dc_153 (gB_l lq_cX12_polish (p := 5) (o := 153) rfl) (gB_l lq_cX12_polish (p := 6) (o := 0) rfl) (gB_l lq_cX12_polish (p := 7) (o := 10) rfl) rfl
theorem dX12_polish_8 : decode cX12_polish 8 = .ok (.iload_n 2, 1) := dc_28 (gB_l lq_cX12_polish (p := 8) (o := 28) rfl)
theorem dX12_polish_9 : decode cX12_polish 9 = .ok (.invokestatic 245, 3) := dc_184 (gB_l lq_cX12_polish (p := 9) (o := 184) rfl) (gB_l lq_cX12_polish (p := 10) (o := 0) rfl) (gB_l lq_cX12_polish (p := 11) (o := 245) rfl) rfl
theorem dX12_polish_12 : decode cX12_polish 12 = .ok (.ifCond .ne 6, 3) := dc_154 (gB_l lq_cX12_polish (p := 12) (o := 154) rfl) (gB_l lq_cX12_polish (p := 13) (o := 0) rfl) (gB_l lq_cX12_polish (p := 14) (o := 6) rfl) rfl
theorem dX12_polish_15 : decode cX12_polish 15 = .ok (.bipush (-2), 2) := dc_16 (gB_l lq_cX12_polish (p := 15) (o := 16) rfl) (gB_l lq_cX12_polish (p := 16) (o := 254) rfl) rfl
theorem dX12_polish_17 : decode cX12_polish 17 = .ok (.ireturn, 1) := dc_172 (gB_l lq_cX12_polish (p := 17) (o := 172) rfl)
theorem dX12_polish_18 : decode cX12_polish 18 = .ok (.aload_n 0, 1) := dc_42 (gB_l lq_cX12_polish (p := 18) (o := 42) rfl)
theorem dX12_polish_19 : decode cX12_polish 19 = .ok (.iload_n 1, 1) := dc_27 (gB_l lq_cX12_polish (p := 19) (o := 27) rfl)
theorem dX12_polish_20 : decode cX12_polish 20 = .ok (.iload_n 2, 1) := dc_28 (gB_l lq_cX12_polish (p := 20) (o := 28) rfl)
theorem dX12_polish_21 : decode cX12_polish 21 = .ok (.invokevirtual 323, 3) := dc_182 (gB_l lq_cX12_polish (p := 21) (o := 182) rfl) (gB_l lq_cX12_polish (p := 22) (o := 1) rfl) (gB_l lq_cX12_polish (p := 23) (o := 67) rfl) rfl
theorem dX12_polish_24 : decode cX12_polish 24 = .ok (.istore_n 3, 1) := dc_62 (gB_l lq_cX12_polish (p := 24) (o := 62) rfl)
theorem dX12_polish_25 : decode cX12_polish 25 = .ok (.aload_n 0, 1) := dc_42 (gB_l lq_cX12_polish (p := 25) (o := 42) rfl)
theorem dX12_polish_26 : decode cX12_polish 26 = .ok (.iload_n 1, 1) := dc_27 (gB_l lq_cX12_polish (p := 26) (o := 27) rfl)
theorem dX12_polish_27 : decode cX12_polish 27 = .ok (.invokevirtual 320, 3) := dc_182 (gB_l lq_cX12_polish (p := 27) (o := 182) rfl) (gB_l lq_cX12_polish (p := 28) (o := 1) rfl) (gB_l lq_cX12_polish (p := 29) (o := 64) rfl) rfl
theorem dX12_polish_30 : decode cX12_polish 30 = .ok (.istore 4, 2) := dc_54 (gB_l lq_cX12_polish (p := 30) (o := 54) rfl) (gB_l lq_cX12_polish (p := 31) (o := 4) rfl)
theorem dX12_polish_32 : decode cX12_polish 32 = .ok (.iload_n 3, 1) := dc_29 (gB_c lq_cX12_polish q1_cX12_polish 0 (o := 29) rfl)
theorem dX12_polish_33 : decode cX12_polish 33 = .ok (.ireturn, 1) := dc_172 (gB_c lq_cX12_polish q1_cX12_polish 1 (o := 172) rfl)
abbrev r0_cX12_polished : List Nat := [42, 27, 182, 0, 67, 153, 0, 10, 28, 184, 0, 245, 154, 0, 6, 16, 254, 172, 42, 27, 28, 182, 1, 67, 62, 42, 27, 28, 182, 0, 251, 172]
theorem lq_cX12_polished : (cX12_polished).data.toList.map UInt8.toNat = r0_cX12_polished := by decide +kernel
theorem dX12_polished_0 : decode cX12_polished 0 = .ok (.aload_n 0, 1) := dc_42 (gB_l lq_cX12_polished (p := 0) (o := 42) rfl)
theorem dX12_polished_1 : decode cX12_polished 1 = .ok (.iload_n 1, 1) := dc_27 (gB_l lq_cX12_polished (p := 1) (o := 27) rfl)
theorem dX12_polished_2 : decode cX12_polished 2 = .ok (.invokevirtual 67, 3) := dc_182 (gB_l lq_cX12_polished (p := 2) (o := 182) rfl) (gB_l lq_cX12_polished (p := 3) (o := 0) rfl) (gB_l lq_cX12_polished (p := 4) (o := 67) rfl) rfl
theorem dX12_polished_5 : decode cX12_polished 5 = .ok (.ifCond .eq 10, 3) := dc_153 (gB_l lq_cX12_polished (p := 5) (o := 153) rfl) (gB_l lq_cX12_polished (p := 6) (o := 0) rfl) (gB_l lq_cX12_polished (p := 7) (o := 10) rfl) rfl
theorem dX12_polished_8 : decode cX12_polished 8 = .ok (.iload_n 2, 1) := dc_28 (gB_l lq_cX12_polished (p := 8) (o := 28) rfl)
theorem dX12_polished_9 : decode cX12_polished 9 = .ok (.invokestatic 245, 3) := dc_184 (gB_l lq_cX12_polished (p := 9) (o := 184) rfl) (gB_l lq_cX12_polished (p := 10) (o := 0) rfl) (gB_l lq_cX12_polished (p := 11) (o := 245) rfl) rfl
theorem dX12_polished_12 : decode cX12_polished 12 = .ok (.ifCond .ne 6, 3) := dc_154 (gB_l lq_cX12_polished (p := 12) (o := 154) rfl) (gB_l lq_cX12_polished (p := 13) (o := 0) rfl) (gB_l lq_cX12_polished (p := 14) (o := 6) rfl) rfl
theorem dX12_polished_15 : decode cX12_polished 15 = .ok (.bipush (-2), 2) := dc_16 (gB_l lq_cX12_polished (p := 15) (o := 16) rfl) (gB_l lq_cX12_polished (p := 16) (o := 254) rfl) rfl
theorem dX12_polished_17 : decode cX12_polished 17 = .ok (.ireturn, 1) := dc_172 (gB_l lq_cX12_polished (p := 17) (o := 172) rfl)
theorem dX12_polished_18 : decode cX12_polished 18 = .ok (.aload_n 0, 1) := dc_42 (gB_l lq_cX12_polished (p := 18) (o := 42) rfl)
theorem dX12_polished_19 : decode cX12_polished 19 = .ok (.iload_n 1, 1) := dc_27 (gB_l lq_cX12_polished (p := 19) (o := 27) rfl)
theorem dX12_polished_20 : decode cX12_polished 20 = .ok (.iload_n 2, 1) := dc_28 (gB_l lq_cX12_polished (p := 20) (o := 28) rfl)
theorem dX12_polished_21 : decode cX12_polished 21 = .ok (.invokevirtual 323, 3) := dc_182 (gB_l lq_cX12_polished (p := 21) (o := 182) rfl) (gB_l lq_cX12_polished (p := 22) (o := 1) rfl) (gB_l lq_cX12_polished (p := 23) (o := 67) rfl) rfl
theorem dX12_polished_24 : decode cX12_polished 24 = .ok (.istore_n 3, 1) := dc_62 (gB_l lq_cX12_polished (p := 24) (o := 62) rfl)
theorem dX12_polished_25 : decode cX12_polished 25 = .ok (.aload_n 0, 1) := dc_42 (gB_l lq_cX12_polished (p := 25) (o := 42) rfl)
theorem dX12_polished_26 : decode cX12_polished 26 = .ok (.iload_n 1, 1) := dc_27 (gB_l lq_cX12_polished (p := 26) (o := 27) rfl)
theorem dX12_polished_27 : decode cX12_polished 27 = .ok (.iload_n 2, 1) := dc_28 (gB_l lq_cX12_polished (p := 27) (o := 28) rfl)
theorem dX12_polished_28 : decode cX12_polished 28 = .ok (.invokevirtual 251, 3) := dc_182 (gB_l lq_cX12_polished (p := 28) (o := 182) rfl) (gB_l lq_cX12_polished (p := 29) (o := 0) rfl) (gB_l lq_cX12_polished (p := 30) (o := 251) rfl) rfl
theorem dX12_polished_31 : decode cX12_polished 31 = .ok (.ireturn, 1) := dc_172 (gB_l lq_cX12_polished (p := 31) (o := 172) rfl)
abbrev r4_cX12_polishes : List Nat := [54, 5, 21, 5, 153, 0, 18, 42, 21, 6, 21, 7, 182, 1, 61, 21, 8, 54, 4, 132, 3, 1, 167, 255, 124, 29, 172]
def a3_cX12_polishes : List Nat := [8, 21, 9, 54, 6, 21, 10, 54, 7, 132, 10, 1, 167, 255, 200, 132, 9, 1, 167, 255, 178, 21, 6, 2, 159, 0, 7, 4, 167, 0, 4, 3]
abbrev r3_cX12_polishes : List Nat := a3_cX12_polishes ++ r4_cX12_polishes
def a2_cX12_polishes : List Nat := [9, 21, 10, 182, 1, 61, 42, 27, 28, 182, 0, 251, 54, 11, 42, 21, 9, 21, 10, 182, 1, 61, 21, 11, 21, 8, 162, 0, 15, 21, 11, 54]
abbrev r2_cX12_polishes : List Nat := a2_cX12_polishes ++ r3_cX12_polishes
def a1_cX12_polishes : List Nat := [8, 3, 54, 9, 21, 9, 42, 27, 182, 0, 63, 162, 0, 74, 21, 9, 4, 96, 54, 10, 21, 10, 42, 27, 182, 0, 63, 162, 0, 52, 42, 21]
abbrev r1_cX12_polishes : List Nat := a1_cX12_polishes ++ r2_cX12_polishes
def a0_cX12_polishes : List Nat := [42, 27, 182, 0, 248, 3, 62, 42, 27, 28, 182, 0, 251, 54, 4, 4, 54, 5, 21, 5, 153, 0, 133, 2, 54, 6, 2, 54, 7, 21, 4, 54]
abbrev r0_cX12_polishes : List Nat := a0_cX12_polishes ++ r1_cX12_polishes
theorem lq_cX12_polishes : (cX12_polishes).data.toList.map UInt8.toNat = r0_cX12_polishes := by decide +kernel
theorem q1_cX12_polishes : ∀ i, (r0_cX12_polishes)[32 + i]? = (r1_cX12_polishes)[i]? := chn (A := a0_cX12_polishes) (B := r1_cX12_polishes) (n := 0) (k := 32) rfl (ch0 (R := r0_cX12_polishes))
theorem q2_cX12_polishes : ∀ i, (r0_cX12_polishes)[64 + i]? = (r2_cX12_polishes)[i]? := chn (A := a1_cX12_polishes) (B := r2_cX12_polishes) (n := 32) (k := 32) rfl q1_cX12_polishes
theorem q3_cX12_polishes : ∀ i, (r0_cX12_polishes)[96 + i]? = (r3_cX12_polishes)[i]? := chn (A := a2_cX12_polishes) (B := r3_cX12_polishes) (n := 64) (k := 32) rfl q2_cX12_polishes
theorem q4_cX12_polishes : ∀ i, (r0_cX12_polishes)[128 + i]? = (r4_cX12_polishes)[i]? := chn (A := a3_cX12_polishes) (B := r4_cX12_polishes) (n := 96) (k := 32) rfl q3_cX12_polishes
theorem dX12_polishes_0 : decode cX12_polishes 0 = .ok (.aload_n 0, 1) := dc_42 (gB_l lq_cX12_polishes (p := 0) (o := 42) rfl)
theorem dX12_polishes_1 : decode cX12_polishes 1 = .ok (.iload_n 1, 1) := dc_27 (gB_l lq_cX12_polishes (p := 1) (o := 27) rfl)
theorem dX12_polishes_2 : decode cX12_polishes 2 = .ok (.invokevirtual 248, 3) := dc_182 (gB_l lq_cX12_polishes (p := 2) (o := 182) rfl) (gB_l lq_cX12_polishes (p := 3) (o := 0) rfl) (gB_l lq_cX12_polishes (p := 4) (o := 248) rfl) rfl
theorem dX12_polishes_5 : decode cX12_polishes 5 = .ok (.iconst 0, 1) := dc_3 (gB_l lq_cX12_polishes (p := 5) (o := 3) rfl)
theorem dX12_polishes_6 : decode cX12_polishes 6 = .ok (.istore_n 3, 1) := dc_62 (gB_l lq_cX12_polishes (p := 6) (o := 62) rfl)
theorem dX12_polishes_7 : decode cX12_polishes 7 = .ok (.aload_n 0, 1) := dc_42 (gB_l lq_cX12_polishes (p := 7) (o := 42) rfl)
theorem dX12_polishes_8 : decode cX12_polishes 8 = .ok (.iload_n 1, 1) := dc_27 (gB_l lq_cX12_polishes (p := 8) (o := 27) rfl)
theorem dX12_polishes_9 : decode cX12_polishes 9 = .ok (.iload_n 2, 1) := dc_28 (gB_l lq_cX12_polishes (p := 9) (o := 28) rfl)
theorem dX12_polishes_10 : decode cX12_polishes 10 = .ok (.invokevirtual 251, 3) := dc_182 (gB_l lq_cX12_polishes (p := 10) (o := 182) rfl) (gB_l lq_cX12_polishes (p := 11) (o := 0) rfl) (gB_l lq_cX12_polishes (p := 12) (o := 251) rfl) rfl
theorem dX12_polishes_13 : decode cX12_polishes 13 = .ok (.istore 4, 2) := dc_54 (gB_l lq_cX12_polishes (p := 13) (o := 54) rfl) (gB_l lq_cX12_polishes (p := 14) (o := 4) rfl)
theorem dX12_polishes_15 : decode cX12_polishes 15 = .ok (.iconst 1, 1) := dc_4 (gB_l lq_cX12_polishes (p := 15) (o := 4) rfl)
theorem dX12_polishes_16 : decode cX12_polishes 16 = .ok (.istore 5, 2) := dc_54 (gB_l lq_cX12_polishes (p := 16) (o := 54) rfl) (gB_l lq_cX12_polishes (p := 17) (o := 5) rfl)
theorem dX12_polishes_18 : decode cX12_polishes 18 = .ok (.iload 5, 2) := dc_21 (gB_l lq_cX12_polishes (p := 18) (o := 21) rfl) (gB_l lq_cX12_polishes (p := 19) (o := 5) rfl)
theorem dX12_polishes_20 : decode cX12_polishes 20 = .ok (.ifCond .eq 133, 3) := dc_153 (gB_l lq_cX12_polishes (p := 20) (o := 153) rfl) (gB_l lq_cX12_polishes (p := 21) (o := 0) rfl) (gB_l lq_cX12_polishes (p := 22) (o := 133) rfl) rfl
theorem dX12_polishes_23 : decode cX12_polishes 23 = .ok (.iconst (-1), 1) := dc_2 (gB_l lq_cX12_polishes (p := 23) (o := 2) rfl)
theorem dX12_polishes_24 : decode cX12_polishes 24 = .ok (.istore 6, 2) := dc_54 (gB_l lq_cX12_polishes (p := 24) (o := 54) rfl) (gB_l lq_cX12_polishes (p := 25) (o := 6) rfl)
theorem dX12_polishes_26 : decode cX12_polishes 26 = .ok (.iconst (-1), 1) := dc_2 (gB_l lq_cX12_polishes (p := 26) (o := 2) rfl)
theorem dX12_polishes_27 : decode cX12_polishes 27 = .ok (.istore 7, 2) := dc_54 (gB_l lq_cX12_polishes (p := 27) (o := 54) rfl) (gB_l lq_cX12_polishes (p := 28) (o := 7) rfl)
theorem dX12_polishes_29 : decode cX12_polishes 29 = .ok (.iload 4, 2) := dc_21 (gB_l lq_cX12_polishes (p := 29) (o := 21) rfl) (gB_l lq_cX12_polishes (p := 30) (o := 4) rfl)
theorem dX12_polishes_31 : decode cX12_polishes 31 = .ok (.istore 8, 2) := dc_54 (gB_l lq_cX12_polishes (p := 31) (o := 54) rfl) (gB_c lq_cX12_polishes q1_cX12_polishes 0 (o := 8) rfl)
theorem dX12_polishes_33 : decode cX12_polishes 33 = .ok (.iconst 0, 1) := dc_3 (gB_c lq_cX12_polishes q1_cX12_polishes 1 (o := 3) rfl)
theorem dX12_polishes_34 : decode cX12_polishes 34 = .ok (.istore 9, 2) := dc_54 (gB_c lq_cX12_polishes q1_cX12_polishes 2 (o := 54) rfl) (gB_c lq_cX12_polishes q1_cX12_polishes 3 (o := 9) rfl)
theorem dX12_polishes_36 : decode cX12_polishes 36 = .ok (.iload 9, 2) := dc_21 (gB_c lq_cX12_polishes q1_cX12_polishes 4 (o := 21) rfl) (gB_c lq_cX12_polishes q1_cX12_polishes 5 (o := 9) rfl)
theorem dX12_polishes_38 : decode cX12_polishes 38 = .ok (.aload_n 0, 1) := dc_42 (gB_c lq_cX12_polishes q1_cX12_polishes 6 (o := 42) rfl)
theorem dX12_polishes_39 : decode cX12_polishes 39 = .ok (.iload_n 1, 1) := dc_27 (gB_c lq_cX12_polishes q1_cX12_polishes 7 (o := 27) rfl)
theorem dX12_polishes_40 : decode cX12_polishes 40 = .ok (.invokevirtual 63, 3) := dc_182 (gB_c lq_cX12_polishes q1_cX12_polishes 8 (o := 182) rfl) (gB_c lq_cX12_polishes q1_cX12_polishes 9 (o := 0) rfl) (gB_c lq_cX12_polishes q1_cX12_polishes 10 (o := 63) rfl) rfl
theorem dX12_polishes_43 : decode cX12_polishes 43 = .ok (.if_icmp .ge 74, 3) := dc_162 (gB_c lq_cX12_polishes q1_cX12_polishes 11 (o := 162) rfl) (gB_c lq_cX12_polishes q1_cX12_polishes 12 (o := 0) rfl) (gB_c lq_cX12_polishes q1_cX12_polishes 13 (o := 74) rfl) rfl
theorem dX12_polishes_46 : decode cX12_polishes 46 = .ok (.iload 9, 2) := dc_21 (gB_c lq_cX12_polishes q1_cX12_polishes 14 (o := 21) rfl) (gB_c lq_cX12_polishes q1_cX12_polishes 15 (o := 9) rfl)
theorem dX12_polishes_48 : decode cX12_polishes 48 = .ok (.iconst 1, 1) := dc_4 (gB_c lq_cX12_polishes q1_cX12_polishes 16 (o := 4) rfl)
theorem dX12_polishes_49 : decode cX12_polishes 49 = .ok (.iadd, 1) := dc_96 (gB_c lq_cX12_polishes q1_cX12_polishes 17 (o := 96) rfl)
theorem dX12_polishes_50 : decode cX12_polishes 50 = .ok (.istore 10, 2) := dc_54 (gB_c lq_cX12_polishes q1_cX12_polishes 18 (o := 54) rfl) (gB_c lq_cX12_polishes q1_cX12_polishes 19 (o := 10) rfl)
theorem dX12_polishes_52 : decode cX12_polishes 52 = .ok (.iload 10, 2) := dc_21 (gB_c lq_cX12_polishes q1_cX12_polishes 20 (o := 21) rfl) (gB_c lq_cX12_polishes q1_cX12_polishes 21 (o := 10) rfl)
theorem dX12_polishes_54 : decode cX12_polishes 54 = .ok (.aload_n 0, 1) := dc_42 (gB_c lq_cX12_polishes q1_cX12_polishes 22 (o := 42) rfl)
theorem dX12_polishes_55 : decode cX12_polishes 55 = .ok (.iload_n 1, 1) := dc_27 (gB_c lq_cX12_polishes q1_cX12_polishes 23 (o := 27) rfl)
theorem dX12_polishes_56 : decode cX12_polishes 56 = .ok (.invokevirtual 63, 3) := dc_182 (gB_c lq_cX12_polishes q1_cX12_polishes 24 (o := 182) rfl) (gB_c lq_cX12_polishes q1_cX12_polishes 25 (o := 0) rfl) (gB_c lq_cX12_polishes q1_cX12_polishes 26 (o := 63) rfl) rfl
theorem dX12_polishes_59 : decode cX12_polishes 59 = .ok (.if_icmp .ge 52, 3) := dc_162 (gB_c lq_cX12_polishes q1_cX12_polishes 27 (o := 162) rfl) (gB_c lq_cX12_polishes q1_cX12_polishes 28 (o := 0) rfl) (gB_c lq_cX12_polishes q1_cX12_polishes 29 (o := 52) rfl) rfl
theorem dX12_polishes_62 : decode cX12_polishes 62 = .ok (.aload_n 0, 1) := dc_42 (gB_c lq_cX12_polishes q1_cX12_polishes 30 (o := 42) rfl)
theorem dX12_polishes_63 : decode cX12_polishes 63 = .ok (.iload 9, 2) := dc_21 (gB_c lq_cX12_polishes q1_cX12_polishes 31 (o := 21) rfl) (gB_c lq_cX12_polishes q2_cX12_polishes 0 (o := 9) rfl)
theorem dX12_polishes_65 : decode cX12_polishes 65 = .ok (.iload 10, 2) := dc_21 (gB_c lq_cX12_polishes q2_cX12_polishes 1 (o := 21) rfl) (gB_c lq_cX12_polishes q2_cX12_polishes 2 (o := 10) rfl)
theorem dX12_polishes_67 : decode cX12_polishes 67 = .ok (.invokevirtual 317, 3) := dc_182 (gB_c lq_cX12_polishes q2_cX12_polishes 3 (o := 182) rfl) (gB_c lq_cX12_polishes q2_cX12_polishes 4 (o := 1) rfl) (gB_c lq_cX12_polishes q2_cX12_polishes 5 (o := 61) rfl) rfl
theorem dX12_polishes_70 : decode cX12_polishes 70 = .ok (.aload_n 0, 1) := dc_42 (gB_c lq_cX12_polishes q2_cX12_polishes 6 (o := 42) rfl)
theorem dX12_polishes_71 : decode cX12_polishes 71 = .ok (.iload_n 1, 1) := dc_27 (gB_c lq_cX12_polishes q2_cX12_polishes 7 (o := 27) rfl)
theorem dX12_polishes_72 : decode cX12_polishes 72 = .ok (.iload_n 2, 1) := dc_28 (gB_c lq_cX12_polishes q2_cX12_polishes 8 (o := 28) rfl)
theorem dX12_polishes_73 : decode cX12_polishes 73 = .ok (.invokevirtual 251, 3) := dc_182 (gB_c lq_cX12_polishes q2_cX12_polishes 9 (o := 182) rfl) (gB_c lq_cX12_polishes q2_cX12_polishes 10 (o := 0) rfl) (gB_c lq_cX12_polishes q2_cX12_polishes 11 (o := 251) rfl) rfl
theorem dX12_polishes_76 : decode cX12_polishes 76 = .ok (.istore 11, 2) := dc_54 (gB_c lq_cX12_polishes q2_cX12_polishes 12 (o := 54) rfl) (gB_c lq_cX12_polishes q2_cX12_polishes 13 (o := 11) rfl)
theorem dX12_polishes_78 : decode cX12_polishes 78 = .ok (.aload_n 0, 1) := dc_42 (gB_c lq_cX12_polishes q2_cX12_polishes 14 (o := 42) rfl)
theorem dX12_polishes_79 : decode cX12_polishes 79 = .ok (.iload 9, 2) := dc_21 (gB_c lq_cX12_polishes q2_cX12_polishes 15 (o := 21) rfl) (gB_c lq_cX12_polishes q2_cX12_polishes 16 (o := 9) rfl)
theorem dX12_polishes_81 : decode cX12_polishes 81 = .ok (.iload 10, 2) := dc_21 (gB_c lq_cX12_polishes q2_cX12_polishes 17 (o := 21) rfl) (gB_c lq_cX12_polishes q2_cX12_polishes 18 (o := 10) rfl)
theorem dX12_polishes_83 : decode cX12_polishes 83 = .ok (.invokevirtual 317, 3) := dc_182 (gB_c lq_cX12_polishes q2_cX12_polishes 19 (o := 182) rfl) (gB_c lq_cX12_polishes q2_cX12_polishes 20 (o := 1) rfl) (gB_c lq_cX12_polishes q2_cX12_polishes 21 (o := 61) rfl) rfl
theorem dX12_polishes_86 : decode cX12_polishes 86 = .ok (.iload 11, 2) := dc_21 (gB_c lq_cX12_polishes q2_cX12_polishes 22 (o := 21) rfl) (gB_c lq_cX12_polishes q2_cX12_polishes 23 (o := 11) rfl)
theorem dX12_polishes_88 : decode cX12_polishes 88 = .ok (.iload 8, 2) := dc_21 (gB_c lq_cX12_polishes q2_cX12_polishes 24 (o := 21) rfl) (gB_c lq_cX12_polishes q2_cX12_polishes 25 (o := 8) rfl)
theorem dX12_polishes_90 : decode cX12_polishes 90 = .ok (.if_icmp .ge 15, 3) := dc_162 (gB_c lq_cX12_polishes q2_cX12_polishes 26 (o := 162) rfl) (gB_c lq_cX12_polishes q2_cX12_polishes 27 (o := 0) rfl) (gB_c lq_cX12_polishes q2_cX12_polishes 28 (o := 15) rfl) rfl
theorem dX12_polishes_93 : decode cX12_polishes 93 = .ok (.iload 11, 2) := dc_21 (gB_c lq_cX12_polishes q2_cX12_polishes 29 (o := 21) rfl) (gB_c lq_cX12_polishes q2_cX12_polishes 30 (o := 11) rfl)
theorem dX12_polishes_95 : decode cX12_polishes 95 = .ok (.istore 8, 2) := dc_54 (gB_c lq_cX12_polishes q2_cX12_polishes 31 (o := 54) rfl) (gB_c lq_cX12_polishes q3_cX12_polishes 0 (o := 8) rfl)
theorem dX12_polishes_97 : decode cX12_polishes 97 = .ok (.iload 9, 2) := dc_21 (gB_c lq_cX12_polishes q3_cX12_polishes 1 (o := 21) rfl) (gB_c lq_cX12_polishes q3_cX12_polishes 2 (o := 9) rfl)
theorem dX12_polishes_99 : decode cX12_polishes 99 = .ok (.istore 6, 2) := dc_54 (gB_c lq_cX12_polishes q3_cX12_polishes 3 (o := 54) rfl) (gB_c lq_cX12_polishes q3_cX12_polishes 4 (o := 6) rfl)
theorem dX12_polishes_101 : decode cX12_polishes 101 = .ok (.iload 10, 2) := dc_21 (gB_c lq_cX12_polishes q3_cX12_polishes 5 (o := 21) rfl) (gB_c lq_cX12_polishes q3_cX12_polishes 6 (o := 10) rfl)
theorem dX12_polishes_103 : decode cX12_polishes 103 = .ok (.istore 7, 2) := dc_54 (gB_c lq_cX12_polishes q3_cX12_polishes 7 (o := 54) rfl) (gB_c lq_cX12_polishes q3_cX12_polishes 8 (o := 7) rfl)
theorem dX12_polishes_105 : decode cX12_polishes 105 = .ok (.iinc 10 1, 3) := dc_132 (gB_c lq_cX12_polishes q3_cX12_polishes 9 (o := 132) rfl) (gB_c lq_cX12_polishes q3_cX12_polishes 10 (o := 10) rfl) (gB_c lq_cX12_polishes q3_cX12_polishes 11 (o := 1) rfl) rfl
theorem dX12_polishes_108 : decode cX12_polishes 108 = .ok (.goto (-56), 3) := dc_167 (gB_c lq_cX12_polishes q3_cX12_polishes 12 (o := 167) rfl) (gB_c lq_cX12_polishes q3_cX12_polishes 13 (o := 255) rfl) (gB_c lq_cX12_polishes q3_cX12_polishes 14 (o := 200) rfl) rfl
theorem dX12_polishes_111 : decode cX12_polishes 111 = .ok (.iinc 9 1, 3) := dc_132 (gB_c lq_cX12_polishes q3_cX12_polishes 15 (o := 132) rfl) (gB_c lq_cX12_polishes q3_cX12_polishes 16 (o := 9) rfl) (gB_c lq_cX12_polishes q3_cX12_polishes 17 (o := 1) rfl) rfl
theorem dX12_polishes_114 : decode cX12_polishes 114 = .ok (.goto (-78), 3) := dc_167 (gB_c lq_cX12_polishes q3_cX12_polishes 18 (o := 167) rfl) (gB_c lq_cX12_polishes q3_cX12_polishes 19 (o := 255) rfl) (gB_c lq_cX12_polishes q3_cX12_polishes 20 (o := 178) rfl) rfl
theorem dX12_polishes_117 : decode cX12_polishes 117 = .ok (.iload 6, 2) := dc_21 (gB_c lq_cX12_polishes q3_cX12_polishes 21 (o := 21) rfl) (gB_c lq_cX12_polishes q3_cX12_polishes 22 (o := 6) rfl)
theorem dX12_polishes_119 : decode cX12_polishes 119 = .ok (.iconst (-1), 1) := dc_2 (gB_c lq_cX12_polishes q3_cX12_polishes 23 (o := 2) rfl)
theorem dX12_polishes_120 : decode cX12_polishes 120 = .ok (.if_icmp .eq 7, 3) := dc_159 (gB_c lq_cX12_polishes q3_cX12_polishes 24 (o := 159) rfl) (gB_c lq_cX12_polishes q3_cX12_polishes 25 (o := 0) rfl) (gB_c lq_cX12_polishes q3_cX12_polishes 26 (o := 7) rfl) rfl
theorem dX12_polishes_123 : decode cX12_polishes 123 = .ok (.iconst 1, 1) := dc_4 (gB_c lq_cX12_polishes q3_cX12_polishes 27 (o := 4) rfl)
theorem dX12_polishes_124 : decode cX12_polishes 124 = .ok (.goto 4, 3) := dc_167 (gB_c lq_cX12_polishes q3_cX12_polishes 28 (o := 167) rfl) (gB_c lq_cX12_polishes q3_cX12_polishes 29 (o := 0) rfl) (gB_c lq_cX12_polishes q3_cX12_polishes 30 (o := 4) rfl) rfl
theorem dX12_polishes_127 : decode cX12_polishes 127 = .ok (.iconst 0, 1) := dc_3 (gB_c lq_cX12_polishes q3_cX12_polishes 31 (o := 3) rfl)
theorem dX12_polishes_128 : decode cX12_polishes 128 = .ok (.istore 5, 2) := dc_54 (gB_c lq_cX12_polishes q4_cX12_polishes 0 (o := 54) rfl) (gB_c lq_cX12_polishes q4_cX12_polishes 1 (o := 5) rfl)
theorem dX12_polishes_130 : decode cX12_polishes 130 = .ok (.iload 5, 2) := dc_21 (gB_c lq_cX12_polishes q4_cX12_polishes 2 (o := 21) rfl) (gB_c lq_cX12_polishes q4_cX12_polishes 3 (o := 5) rfl)
theorem dX12_polishes_132 : decode cX12_polishes 132 = .ok (.ifCond .eq 18, 3) := dc_153 (gB_c lq_cX12_polishes q4_cX12_polishes 4 (o := 153) rfl) (gB_c lq_cX12_polishes q4_cX12_polishes 5 (o := 0) rfl) (gB_c lq_cX12_polishes q4_cX12_polishes 6 (o := 18) rfl) rfl
theorem dX12_polishes_135 : decode cX12_polishes 135 = .ok (.aload_n 0, 1) := dc_42 (gB_c lq_cX12_polishes q4_cX12_polishes 7 (o := 42) rfl)
theorem dX12_polishes_136 : decode cX12_polishes 136 = .ok (.iload 6, 2) := dc_21 (gB_c lq_cX12_polishes q4_cX12_polishes 8 (o := 21) rfl) (gB_c lq_cX12_polishes q4_cX12_polishes 9 (o := 6) rfl)
theorem dX12_polishes_138 : decode cX12_polishes 138 = .ok (.iload 7, 2) := dc_21 (gB_c lq_cX12_polishes q4_cX12_polishes 10 (o := 21) rfl) (gB_c lq_cX12_polishes q4_cX12_polishes 11 (o := 7) rfl)
theorem dX12_polishes_140 : decode cX12_polishes 140 = .ok (.invokevirtual 317, 3) := dc_182 (gB_c lq_cX12_polishes q4_cX12_polishes 12 (o := 182) rfl) (gB_c lq_cX12_polishes q4_cX12_polishes 13 (o := 1) rfl) (gB_c lq_cX12_polishes q4_cX12_polishes 14 (o := 61) rfl) rfl
theorem dX12_polishes_143 : decode cX12_polishes 143 = .ok (.iload 8, 2) := dc_21 (gB_c lq_cX12_polishes q4_cX12_polishes 15 (o := 21) rfl) (gB_c lq_cX12_polishes q4_cX12_polishes 16 (o := 8) rfl)
theorem dX12_polishes_145 : decode cX12_polishes 145 = .ok (.istore 4, 2) := dc_54 (gB_c lq_cX12_polishes q4_cX12_polishes 17 (o := 54) rfl) (gB_c lq_cX12_polishes q4_cX12_polishes 18 (o := 4) rfl)
theorem dX12_polishes_147 : decode cX12_polishes 147 = .ok (.iinc 3 1, 3) := dc_132 (gB_c lq_cX12_polishes q4_cX12_polishes 19 (o := 132) rfl) (gB_c lq_cX12_polishes q4_cX12_polishes 20 (o := 3) rfl) (gB_c lq_cX12_polishes q4_cX12_polishes 21 (o := 1) rfl) rfl
theorem dX12_polishes_150 : decode cX12_polishes 150 = .ok (.goto (-132), 3) := dc_167 (gB_c lq_cX12_polishes q4_cX12_polishes 22 (o := 167) rfl) (gB_c lq_cX12_polishes q4_cX12_polishes 23 (o := 255) rfl) (gB_c lq_cX12_polishes q4_cX12_polishes 24 (o := 124) rfl) rfl
theorem dX12_polishes_153 : decode cX12_polishes 153 = .ok (.iload_n 3, 1) := dc_29 (gB_c lq_cX12_polishes q4_cX12_polishes 25 (o := 29) rfl)
theorem dX12_polishes_154 : decode cX12_polishes 154 = .ok (.ireturn, 1) := dc_172 (gB_c lq_cX12_polishes q4_cX12_polishes 26 (o := 172) rfl)
abbrev r1_cX12_price : List Nat := [4, 10, 42, 27, 182, 0, 63, 4, 100, 133, 184, 0, 55, 154, 0, 6, 16, 254, 172, 42, 27, 28, 29, 182, 1, 4, 172]
def a0_cX12_price : List Nat := [42, 27, 182, 0, 67, 153, 0, 43, 28, 184, 0, 245, 153, 0, 36, 28, 5, 159, 0, 31, 29, 133, 28, 184, 0, 254, 153, 0, 7, 9, 167, 0]
abbrev r0_cX12_price : List Nat := a0_cX12_price ++ r1_cX12_price
theorem lq_cX12_price : (cX12_price).data.toList.map UInt8.toNat = r0_cX12_price := by decide +kernel
theorem q1_cX12_price : ∀ i, (r0_cX12_price)[32 + i]? = (r1_cX12_price)[i]? := chn (A := a0_cX12_price) (B := r1_cX12_price) (n := 0) (k := 32) rfl (ch0 (R := r0_cX12_price))
theorem dX12_price_0 : decode cX12_price 0 = .ok (.aload_n 0, 1) := dc_42 (gB_l lq_cX12_price (p := 0) (o := 42) rfl)
theorem dX12_price_1 : decode cX12_price 1 = .ok (.iload_n 1, 1) := dc_27 (gB_l lq_cX12_price (p := 1) (o := 27) rfl)
theorem dX12_price_2 : decode cX12_price 2 = .ok (.invokevirtual 67, 3) := dc_182 (gB_l lq_cX12_price (p := 2) (o := 182) rfl) (gB_l lq_cX12_price (p := 3) (o := 0) rfl) (gB_l lq_cX12_price (p := 4) (o := 67) rfl) rfl
theorem dX12_price_5 : decode cX12_price 5 = .ok (.ifCond .eq 43, 3) := dc_153 (gB_l lq_cX12_price (p := 5) (o := 153) rfl) (gB_l lq_cX12_price (p := 6) (o := 0) rfl) (gB_l lq_cX12_price (p := 7) (o := 43) rfl) rfl
theorem dX12_price_8 : decode cX12_price 8 = .ok (.iload_n 2, 1) := dc_28 (gB_l lq_cX12_price (p := 8) (o := 28) rfl)
theorem dX12_price_9 : decode cX12_price 9 = .ok (.invokestatic 245, 3) := dc_184 (gB_l lq_cX12_price (p := 9) (o := 184) rfl) (gB_l lq_cX12_price (p := 10) (o := 0) rfl) (gB_l lq_cX12_price (p := 11) (o := 245) rfl) rfl
theorem dX12_price_12 : decode cX12_price 12 = .ok (.ifCond .eq 36, 3) := dc_153 (gB_l lq_cX12_price (p := 12) (o := 153) rfl) (gB_l lq_cX12_price (p := 13) (o := 0) rfl) (gB_l lq_cX12_price (p := 14) (o := 36) rfl) rfl
theorem dX12_price_15 : decode cX12_price 15 = .ok (.iload_n 2, 1) := dc_28 (gB_l lq_cX12_price (p := 15) (o := 28) rfl)
theorem dX12_price_16 : decode cX12_price 16 = .ok (.iconst 2, 1) := dc_5 (gB_l lq_cX12_price (p := 16) (o := 5) rfl)
theorem dX12_price_17 : decode cX12_price 17 = .ok (.if_icmp .eq 31, 3) := dc_159 (gB_l lq_cX12_price (p := 17) (o := 159) rfl) (gB_l lq_cX12_price (p := 18) (o := 0) rfl) (gB_l lq_cX12_price (p := 19) (o := 31) rfl) rfl
theorem dX12_price_20 : decode cX12_price 20 = .ok (.iload_n 3, 1) := dc_29 (gB_l lq_cX12_price (p := 20) (o := 29) rfl)
theorem dX12_price_21 : decode cX12_price 21 = .ok (.i2l, 1) := dc_133 (gB_l lq_cX12_price (p := 21) (o := 133) rfl)
theorem dX12_price_22 : decode cX12_price 22 = .ok (.iload_n 2, 1) := dc_28 (gB_l lq_cX12_price (p := 22) (o := 28) rfl)
theorem dX12_price_23 : decode cX12_price 23 = .ok (.invokestatic 254, 3) := dc_184 (gB_l lq_cX12_price (p := 23) (o := 184) rfl) (gB_l lq_cX12_price (p := 24) (o := 0) rfl) (gB_l lq_cX12_price (p := 25) (o := 254) rfl) rfl
theorem dX12_price_26 : decode cX12_price 26 = .ok (.ifCond .eq 7, 3) := dc_153 (gB_l lq_cX12_price (p := 26) (o := 153) rfl) (gB_l lq_cX12_price (p := 27) (o := 0) rfl) (gB_l lq_cX12_price (p := 28) (o := 7) rfl) rfl
theorem dX12_price_29 : decode cX12_price 29 = .ok (.lconst 0, 1) := dc_9 (gB_l lq_cX12_price (p := 29) (o := 9) rfl)
theorem dX12_price_30 : decode cX12_price 30 = .ok (.goto 4, 3) := dc_167 (gB_l lq_cX12_price (p := 30) (o := 167) rfl) (gB_l lq_cX12_price (p := 31) (o := 0) rfl) (gB_c lq_cX12_price q1_cX12_price 0 (o := 4) rfl) rfl
theorem dX12_price_33 : decode cX12_price 33 = .ok (.lconst 1, 1) := dc_10 (gB_c lq_cX12_price q1_cX12_price 1 (o := 10) rfl)
theorem dX12_price_34 : decode cX12_price 34 = .ok (.aload_n 0, 1) := dc_42 (gB_c lq_cX12_price q1_cX12_price 2 (o := 42) rfl)
theorem dX12_price_35 : decode cX12_price 35 = .ok (.iload_n 1, 1) := dc_27 (gB_c lq_cX12_price q1_cX12_price 3 (o := 27) rfl)
theorem dX12_price_36 : decode cX12_price 36 = .ok (.invokevirtual 63, 3) := dc_182 (gB_c lq_cX12_price q1_cX12_price 4 (o := 182) rfl) (gB_c lq_cX12_price q1_cX12_price 5 (o := 0) rfl) (gB_c lq_cX12_price q1_cX12_price 6 (o := 63) rfl) rfl
theorem dX12_price_39 : decode cX12_price 39 = .ok (.iconst 1, 1) := dc_4 (gB_c lq_cX12_price q1_cX12_price 7 (o := 4) rfl)
theorem dX12_price_40 : decode cX12_price 40 = .ok (.isub, 1) := dc_100 (gB_c lq_cX12_price q1_cX12_price 8 (o := 100) rfl)
theorem dX12_price_41 : decode cX12_price 41 = .ok (.i2l, 1) := dc_133 (gB_c lq_cX12_price q1_cX12_price 9 (o := 133) rfl)
theorem dX12_price_42 : decode cX12_price 42 = .ok (.invokestatic 55, 3) := dc_184 (gB_c lq_cX12_price q1_cX12_price 10 (o := 184) rfl) (gB_c lq_cX12_price q1_cX12_price 11 (o := 0) rfl) (gB_c lq_cX12_price q1_cX12_price 12 (o := 55) rfl) rfl
theorem dX12_price_45 : decode cX12_price 45 = .ok (.ifCond .ne 6, 3) := dc_154 (gB_c lq_cX12_price q1_cX12_price 13 (o := 154) rfl) (gB_c lq_cX12_price q1_cX12_price 14 (o := 0) rfl) (gB_c lq_cX12_price q1_cX12_price 15 (o := 6) rfl) rfl
theorem dX12_price_48 : decode cX12_price 48 = .ok (.bipush (-2), 2) := dc_16 (gB_c lq_cX12_price q1_cX12_price 16 (o := 16) rfl) (gB_c lq_cX12_price q1_cX12_price 17 (o := 254) rfl) rfl
theorem dX12_price_50 : decode cX12_price 50 = .ok (.ireturn, 1) := dc_172 (gB_c lq_cX12_price q1_cX12_price 18 (o := 172) rfl)
theorem dX12_price_51 : decode cX12_price 51 = .ok (.aload_n 0, 1) := dc_42 (gB_c lq_cX12_price q1_cX12_price 19 (o := 42) rfl)
theorem dX12_price_52 : decode cX12_price 52 = .ok (.iload_n 1, 1) := dc_27 (gB_c lq_cX12_price q1_cX12_price 20 (o := 27) rfl)
theorem dX12_price_53 : decode cX12_price 53 = .ok (.iload_n 2, 1) := dc_28 (gB_c lq_cX12_price q1_cX12_price 21 (o := 28) rfl)
theorem dX12_price_54 : decode cX12_price 54 = .ok (.iload_n 3, 1) := dc_29 (gB_c lq_cX12_price q1_cX12_price 22 (o := 29) rfl)
theorem dX12_price_55 : decode cX12_price 55 = .ok (.invokevirtual 260, 3) := dc_182 (gB_c lq_cX12_price q1_cX12_price 23 (o := 182) rfl) (gB_c lq_cX12_price q1_cX12_price 24 (o := 1) rfl) (gB_c lq_cX12_price q1_cX12_price 25 (o := 4) rfl) rfl
theorem dX12_price_58 : decode cX12_price 58 = .ok (.ireturn, 1) := dc_172 (gB_c lq_cX12_price q1_cX12_price 26 (o := 172) rfl)
abbrev r1_cX12_priceOf : List Nat := [27, 29, 4, 100, 182, 1, 1, 42, 27, 29, 4, 100, 182, 0, 217, 182, 0, 238, 172]
def a0_cX12_priceOf : List Nat := [28, 184, 0, 254, 153, 0, 24, 42, 27, 28, 42, 27, 29, 182, 1, 1, 42, 27, 29, 182, 0, 217, 182, 0, 238, 167, 0, 25, 42, 27, 28, 42]
abbrev r0_cX12_priceOf : List Nat := a0_cX12_priceOf ++ r1_cX12_priceOf
theorem lq_cX12_priceOf : (cX12_priceOf).data.toList.map UInt8.toNat = r0_cX12_priceOf := by decide +kernel
theorem q1_cX12_priceOf : ∀ i, (r0_cX12_priceOf)[32 + i]? = (r1_cX12_priceOf)[i]? := chn (A := a0_cX12_priceOf) (B := r1_cX12_priceOf) (n := 0) (k := 32) rfl (ch0 (R := r0_cX12_priceOf))
theorem dX12_priceOf_0 : decode cX12_priceOf 0 = .ok (.iload_n 2, 1) := dc_28 (gB_l lq_cX12_priceOf (p := 0) (o := 28) rfl)
theorem dX12_priceOf_1 : decode cX12_priceOf 1 = .ok (.invokestatic 254, 3) := dc_184 (gB_l lq_cX12_priceOf (p := 1) (o := 184) rfl) (gB_l lq_cX12_priceOf (p := 2) (o := 0) rfl) (gB_l lq_cX12_priceOf (p := 3) (o := 254) rfl) rfl
theorem dX12_priceOf_4 : decode cX12_priceOf 4 = .ok (.ifCond .eq 24, 3) := dc_153 (gB_l lq_cX12_priceOf (p := 4) (o := 153) rfl) (gB_l lq_cX12_priceOf (p := 5) (o := 0) rfl) (gB_l lq_cX12_priceOf (p := 6) (o := 24) rfl) rfl
theorem dX12_priceOf_7 : decode cX12_priceOf 7 = .ok (.aload_n 0, 1) := dc_42 (gB_l lq_cX12_priceOf (p := 7) (o := 42) rfl)
theorem dX12_priceOf_8 : decode cX12_priceOf 8 = .ok (.iload_n 1, 1) := dc_27 (gB_l lq_cX12_priceOf (p := 8) (o := 27) rfl)
theorem dX12_priceOf_9 : decode cX12_priceOf 9 = .ok (.iload_n 2, 1) := dc_28 (gB_l lq_cX12_priceOf (p := 9) (o := 28) rfl)
theorem dX12_priceOf_10 : decode cX12_priceOf 10 = .ok (.aload_n 0, 1) := dc_42 (gB_l lq_cX12_priceOf (p := 10) (o := 42) rfl)
theorem dX12_priceOf_11 : decode cX12_priceOf 11 = .ok (.iload_n 1, 1) := dc_27 (gB_l lq_cX12_priceOf (p := 11) (o := 27) rfl)
theorem dX12_priceOf_12 : decode cX12_priceOf 12 = .ok (.iload_n 3, 1) := dc_29 (gB_l lq_cX12_priceOf (p := 12) (o := 29) rfl)
theorem dX12_priceOf_13 : decode cX12_priceOf 13 = .ok (.invokevirtual 257, 3) := dc_182 (gB_l lq_cX12_priceOf (p := 13) (o := 182) rfl) (gB_l lq_cX12_priceOf (p := 14) (o := 1) rfl) (gB_l lq_cX12_priceOf (p := 15) (o := 1) rfl) rfl
theorem dX12_priceOf_16 : decode cX12_priceOf 16 = .ok (.aload_n 0, 1) := dc_42 (gB_l lq_cX12_priceOf (p := 16) (o := 42) rfl)
theorem dX12_priceOf_17 : decode cX12_priceOf 17 = .ok (.iload_n 1, 1) := dc_27 (gB_l lq_cX12_priceOf (p := 17) (o := 27) rfl)
theorem dX12_priceOf_18 : decode cX12_priceOf 18 = .ok (.iload_n 3, 1) := dc_29 (gB_l lq_cX12_priceOf (p := 18) (o := 29) rfl)
theorem dX12_priceOf_19 : decode cX12_priceOf 19 = .ok (.invokevirtual 217, 3) := dc_182 (gB_l lq_cX12_priceOf (p := 19) (o := 182) rfl) (gB_l lq_cX12_priceOf (p := 20) (o := 0) rfl) (gB_l lq_cX12_priceOf (p := 21) (o := 217) rfl) rfl
theorem dX12_priceOf_22 : decode cX12_priceOf 22 = .ok (.invokevirtual 238, 3) := dc_182 (gB_l lq_cX12_priceOf (p := 22) (o := 182) rfl) (gB_l lq_cX12_priceOf (p := 23) (o := 0) rfl) (gB_l lq_cX12_priceOf (p := 24) (o := 238) rfl) rfl
theorem dX12_priceOf_25 : decode cX12_priceOf 25 = .ok (.goto 25, 3) := dc_167 (gB_l lq_cX12_priceOf (p := 25) (o := 167) rfl) (gB_l lq_cX12_priceOf (p := 26) (o := 0) rfl) (gB_l lq_cX12_priceOf (p := 27) (o := 25) rfl) rfl
theorem dX12_priceOf_28 : decode cX12_priceOf 28 = .ok (.aload_n 0, 1) := dc_42 (gB_l lq_cX12_priceOf (p := 28) (o := 42) rfl)
theorem dX12_priceOf_29 : decode cX12_priceOf 29 = .ok (.iload_n 1, 1) := dc_27 (gB_l lq_cX12_priceOf (p := 29) (o := 27) rfl)
theorem dX12_priceOf_30 : decode cX12_priceOf 30 = .ok (.iload_n 2, 1) := dc_28 (gB_l lq_cX12_priceOf (p := 30) (o := 28) rfl)
theorem dX12_priceOf_31 : decode cX12_priceOf 31 = .ok (.aload_n 0, 1) := dc_42 (gB_l lq_cX12_priceOf (p := 31) (o := 42) rfl)
theorem dX12_priceOf_32 : decode cX12_priceOf 32 = .ok (.iload_n 1, 1) := dc_27 (gB_c lq_cX12_priceOf q1_cX12_priceOf 0 (o := 27) rfl)
theorem dX12_priceOf_33 : decode cX12_priceOf 33 = .ok (.iload_n 3, 1) := dc_29 (gB_c lq_cX12_priceOf q1_cX12_priceOf 1 (o := 29) rfl)
theorem dX12_priceOf_34 : decode cX12_priceOf 34 = .ok (.iconst 1, 1) := dc_4 (gB_c lq_cX12_priceOf q1_cX12_priceOf 2 (o := 4) rfl)
theorem dX12_priceOf_35 : decode cX12_priceOf 35 = .ok (.isub, 1) := dc_100 (gB_c lq_cX12_priceOf q1_cX12_priceOf 3 (o := 100) rfl)
theorem dX12_priceOf_36 : decode cX12_priceOf 36 = .ok (.invokevirtual 257, 3) := dc_182 (gB_c lq_cX12_priceOf q1_cX12_priceOf 4 (o := 182) rfl) (gB_c lq_cX12_priceOf q1_cX12_priceOf 5 (o := 1) rfl) (gB_c lq_cX12_priceOf q1_cX12_priceOf 6 (o := 1) rfl) rfl
theorem dX12_priceOf_39 : decode cX12_priceOf 39 = .ok (.aload_n 0, 1) := dc_42 (gB_c lq_cX12_priceOf q1_cX12_priceOf 7 (o := 42) rfl)
theorem dX12_priceOf_40 : decode cX12_priceOf 40 = .ok (.iload_n 1, 1) := dc_27 (gB_c lq_cX12_priceOf q1_cX12_priceOf 8 (o := 27) rfl)
theorem dX12_priceOf_41 : decode cX12_priceOf 41 = .ok (.iload_n 3, 1) := dc_29 (gB_c lq_cX12_priceOf q1_cX12_priceOf 9 (o := 29) rfl)
theorem dX12_priceOf_42 : decode cX12_priceOf 42 = .ok (.iconst 1, 1) := dc_4 (gB_c lq_cX12_priceOf q1_cX12_priceOf 10 (o := 4) rfl)
theorem dX12_priceOf_43 : decode cX12_priceOf 43 = .ok (.isub, 1) := dc_100 (gB_c lq_cX12_priceOf q1_cX12_priceOf 11 (o := 100) rfl)
theorem dX12_priceOf_44 : decode cX12_priceOf 44 = .ok (.invokevirtual 217, 3) := dc_182 (gB_c lq_cX12_priceOf q1_cX12_priceOf 12 (o := 182) rfl) (gB_c lq_cX12_priceOf q1_cX12_priceOf 13 (o := 0) rfl) (gB_c lq_cX12_priceOf q1_cX12_priceOf 14 (o := 217) rfl) rfl
theorem dX12_priceOf_47 : decode cX12_priceOf 47 = .ok (.invokevirtual 238, 3) := dc_182 (gB_c lq_cX12_priceOf q1_cX12_priceOf 15 (o := 182) rfl) (gB_c lq_cX12_priceOf q1_cX12_priceOf 16 (o := 0) rfl) (gB_c lq_cX12_priceOf q1_cX12_priceOf 17 (o := 238) rfl) rfl
theorem dX12_priceOf_50 : decode cX12_priceOf 50 = .ok (.ireturn, 1) := dc_172 (gB_c lq_cX12_priceOf q1_cX12_priceOf 18 (o := 172) rfl)
abbrev r0_cX12_puts : List Nat := [42, 180, 0, 7, 16, 91, 27, 104, 16, 82, 96, 28, 96, 29, 79, 177]
theorem lq_cX12_puts : (cX12_puts).data.toList.map UInt8.toNat = r0_cX12_puts := by decide +kernel
theorem dX12_puts_0 : decode cX12_puts 0 = .ok (.aload_n 0, 1) := dc_42 (gB_l lq_cX12_puts (p := 0) (o := 42) rfl)
theorem dX12_puts_1 : decode cX12_puts 1 = .ok (.getfield 7, 3) := dc_180 (gB_l lq_cX12_puts (p := 1) (o := 180) rfl) (gB_l lq_cX12_puts (p := 2) (o := 0) rfl) (gB_l lq_cX12_puts (p := 3) (o := 7) rfl) rfl
theorem dX12_puts_4 : decode cX12_puts 4 = .ok (.bipush 91, 2) := dc_16 (gB_l lq_cX12_puts (p := 4) (o := 16) rfl) (gB_l lq_cX12_puts (p := 5) (o := 91) rfl) rfl
theorem dX12_puts_6 : decode cX12_puts 6 = .ok (.iload_n 1, 1) := dc_27 (gB_l lq_cX12_puts (p := 6) (o := 27) rfl)
theorem dX12_puts_7 : decode cX12_puts 7 = .ok (.imul, 1) := dc_104 (gB_l lq_cX12_puts (p := 7) (o := 104) rfl)
theorem dX12_puts_8 : decode cX12_puts 8 = .ok (.bipush 82, 2) := dc_16 (gB_l lq_cX12_puts (p := 8) (o := 16) rfl) (gB_l lq_cX12_puts (p := 9) (o := 82) rfl) rfl
theorem dX12_puts_10 : decode cX12_puts 10 = .ok (.iadd, 1) := dc_96 (gB_l lq_cX12_puts (p := 10) (o := 96) rfl)
theorem dX12_puts_11 : decode cX12_puts 11 = .ok (.iload_n 2, 1) := dc_28 (gB_l lq_cX12_puts (p := 11) (o := 28) rfl)
theorem dX12_puts_12 : decode cX12_puts 12 = .ok (.iadd, 1) := dc_96 (gB_l lq_cX12_puts (p := 12) (o := 96) rfl)
theorem dX12_puts_13 : decode cX12_puts 13 = .ok (.iload_n 3, 1) := dc_29 (gB_l lq_cX12_puts (p := 13) (o := 29) rfl)
theorem dX12_puts_14 : decode cX12_puts 14 = .ok (.iastore, 1) := dc_79 (gB_l lq_cX12_puts (p := 14) (o := 79) rfl)
theorem dX12_puts_15 : decode cX12_puts 15 = .ok (.return_, 1) := dc_177 (gB_l lq_cX12_puts (p := 15) (o := 177) rfl)
abbrev r4_cX12_readsLine : List Nat := [54, 4, 42, 182, 0, 146, 42, 180, 0, 123, 154, 0, 12, 42, 27, 28, 29, 21, 4, 182, 0, 162, 177]
def a3_cX12_readsLine : List Nat := [42, 6, 182, 0, 143, 42, 182, 0, 146, 4, 54, 4, 42, 16, 61, 182, 0, 155, 153, 0, 20, 42, 182, 0, 130, 42, 4, 16, 9, 182, 0, 149]
abbrev r3_cX12_readsLine : List Nat := a3_cX12_readsLine ++ r4_cX12_readsLine
def a2_cX12_readsLine : List Nat := [0, 123, 154, 0, 13, 28, 29, 160, 0, 8, 42, 5, 182, 0, 143, 42, 180, 0, 123, 154, 0, 18, 42, 27, 28, 29, 182, 0, 76, 158, 0, 8]
abbrev r2_cX12_readsLine : List Nat := a2_cX12_readsLine ++ r3_cX12_readsLine
def a1_cX12_readsLine : List Nat := [182, 0, 143, 42, 182, 0, 146, 42, 42, 16, 45, 182, 0, 155, 182, 0, 158, 42, 3, 42, 27, 182, 0, 63, 4, 100, 182, 0, 149, 62, 42, 180]
abbrev r1_cX12_readsLine : List Nat := a1_cX12_readsLine ++ r2_cX12_readsLine
def a0_cX12_readsLine : List Nat := [42, 3, 42, 27, 182, 0, 63, 4, 100, 182, 0, 149, 61, 42, 180, 0, 123, 154, 0, 18, 42, 27, 182, 0, 152, 16, 30, 160, 0, 8, 42, 7]
abbrev r0_cX12_readsLine : List Nat := a0_cX12_readsLine ++ r1_cX12_readsLine
theorem lq_cX12_readsLine : (cX12_readsLine).data.toList.map UInt8.toNat = r0_cX12_readsLine := by decide +kernel
theorem q1_cX12_readsLine : ∀ i, (r0_cX12_readsLine)[32 + i]? = (r1_cX12_readsLine)[i]? := chn (A := a0_cX12_readsLine) (B := r1_cX12_readsLine) (n := 0) (k := 32) rfl (ch0 (R := r0_cX12_readsLine))
theorem q2_cX12_readsLine : ∀ i, (r0_cX12_readsLine)[64 + i]? = (r2_cX12_readsLine)[i]? := chn (A := a1_cX12_readsLine) (B := r2_cX12_readsLine) (n := 32) (k := 32) rfl q1_cX12_readsLine
theorem q3_cX12_readsLine : ∀ i, (r0_cX12_readsLine)[96 + i]? = (r3_cX12_readsLine)[i]? := chn (A := a2_cX12_readsLine) (B := r3_cX12_readsLine) (n := 64) (k := 32) rfl q2_cX12_readsLine
theorem q4_cX12_readsLine : ∀ i, (r0_cX12_readsLine)[128 + i]? = (r4_cX12_readsLine)[i]? := chn (A := a3_cX12_readsLine) (B := r4_cX12_readsLine) (n := 96) (k := 32) rfl q3_cX12_readsLine
theorem dX12_readsLine_0 : decode cX12_readsLine 0 = .ok (.aload_n 0, 1) := dc_42 (gB_l lq_cX12_readsLine (p := 0) (o := 42) rfl)
theorem dX12_readsLine_1 : decode cX12_readsLine 1 = .ok (.iconst 0, 1) := dc_3 (gB_l lq_cX12_readsLine (p := 1) (o := 3) rfl)
theorem dX12_readsLine_2 : decode cX12_readsLine 2 = .ok (.aload_n 0, 1) := dc_42 (gB_l lq_cX12_readsLine (p := 2) (o := 42) rfl)
theorem dX12_readsLine_3 : decode cX12_readsLine 3 = .ok (.iload_n 1, 1) := dc_27 (gB_l lq_cX12_readsLine (p := 3) (o := 27) rfl)
theorem dX12_readsLine_4 : decode cX12_readsLine 4 = .ok (.invokevirtual 63, 3) := dc_182 (gB_l lq_cX12_readsLine (p := 4) (o := 182) rfl) (gB_l lq_cX12_readsLine (p := 5) (o := 0) rfl) (gB_l lq_cX12_readsLine (p := 6) (o := 63) rfl) rfl
theorem dX12_readsLine_7 : decode cX12_readsLine 7 = .ok (.iconst 1, 1) := dc_4 (gB_l lq_cX12_readsLine (p := 7) (o := 4) rfl)
theorem dX12_readsLine_8 : decode cX12_readsLine 8 = .ok (.isub, 1) := dc_100 (gB_l lq_cX12_readsLine (p := 8) (o := 100) rfl)
theorem dX12_readsLine_9 : decode cX12_readsLine 9 = .ok (.invokevirtual 149, 3) := dc_182 (gB_l lq_cX12_readsLine (p := 9) (o := 182) rfl) (gB_l lq_cX12_readsLine (p := 10) (o := 0) rfl) (gB_l lq_cX12_readsLine (p := 11) (o := 149) rfl) rfl
theorem dX12_readsLine_12 : decode cX12_readsLine 12 = .ok (.istore_n 2, 1) := dc_61 (gB_l lq_cX12_readsLine (p := 12) (o := 61) rfl)
theorem dX12_readsLine_13 : decode cX12_readsLine 13 = .ok (.aload_n 0, 1) := dc_42 (gB_l lq_cX12_readsLine (p := 13) (o := 42) rfl)
theorem dX12_readsLine_14 : decode cX12_readsLine 14 = .ok (.getfield 123, 3) := dc_180 (gB_l lq_cX12_readsLine (p := 14) (o := 180) rfl) (gB_l lq_cX12_readsLine (p := 15) (o := 0) rfl) (gB_l lq_cX12_readsLine (p := 16) (o := 123) rfl) rfl
theorem dX12_readsLine_17 : decode cX12_readsLine 17 = .ok (.ifCond .ne 18, 3) := dc_154 (gB_l lq_cX12_readsLine (p := 17) (o := 154) rfl) (gB_l lq_cX12_readsLine (p := 18) (o := 0) rfl) (gB_l lq_cX12_readsLine (p := 19) (o := 18) rfl) rfl
theorem dX12_readsLine_20 : decode cX12_readsLine 20 = .ok (.aload_n 0, 1) := dc_42 (gB_l lq_cX12_readsLine (p := 20) (o := 42) rfl)
theorem dX12_readsLine_21 : decode cX12_readsLine 21 = .ok (.iload_n 1, 1) := dc_27 (gB_l lq_cX12_readsLine (p := 21) (o := 27) rfl)
theorem dX12_readsLine_22 : decode cX12_readsLine 22 = .ok (.invokevirtual 152, 3) := dc_182 (gB_l lq_cX12_readsLine (p := 22) (o := 182) rfl) (gB_l lq_cX12_readsLine (p := 23) (o := 0) rfl) (gB_l lq_cX12_readsLine (p := 24) (o := 152) rfl) rfl
theorem dX12_readsLine_25 : decode cX12_readsLine 25 = .ok (.bipush 30, 2) := dc_16 (gB_l lq_cX12_readsLine (p := 25) (o := 16) rfl) (gB_l lq_cX12_readsLine (p := 26) (o := 30) rfl) rfl
theorem dX12_readsLine_27 : decode cX12_readsLine 27 = .ok (.if_icmp .ne 8, 3) := dc_160 (gB_l lq_cX12_readsLine (p := 27) (o := 160) rfl) (gB_l lq_cX12_readsLine (p := 28) (o := 0) rfl) (gB_l lq_cX12_readsLine (p := 29) (o := 8) rfl) rfl
theorem dX12_readsLine_30 : decode cX12_readsLine 30 = .ok (.aload_n 0, 1) := dc_42 (gB_l lq_cX12_readsLine (p := 30) (o := 42) rfl)
theorem dX12_readsLine_31 : decode cX12_readsLine 31 = .ok (.iconst 4, 1) := dc_7 (gB_l lq_cX12_readsLine (p := 31) (o := 7) rfl)
theorem dX12_readsLine_32 : decode cX12_readsLine 32 = .ok (.invokevirtual 143, 3) := dc_182 (gB_c lq_cX12_readsLine q1_cX12_readsLine 0 (o := 182) rfl) (gB_c lq_cX12_readsLine q1_cX12_readsLine 1 (o := 0) rfl) (gB_c lq_cX12_readsLine q1_cX12_readsLine 2 (o := 143) rfl) rfl
theorem dX12_readsLine_35 : decode cX12_readsLine 35 = .ok (.aload_n 0, 1) := dc_42 (gB_c lq_cX12_readsLine q1_cX12_readsLine 3 (o := 42) rfl)
theorem dX12_readsLine_36 : decode cX12_readsLine 36 = .ok (.invokevirtual 146, 3) := dc_182 (gB_c lq_cX12_readsLine q1_cX12_readsLine 4 (o := 182) rfl) (gB_c lq_cX12_readsLine q1_cX12_readsLine 5 (o := 0) rfl) (gB_c lq_cX12_readsLine q1_cX12_readsLine 6 (o := 146) rfl) rfl
theorem dX12_readsLine_39 : decode cX12_readsLine 39 = .ok (.aload_n 0, 1) := dc_42 (gB_c lq_cX12_readsLine q1_cX12_readsLine 7 (o := 42) rfl)
theorem dX12_readsLine_40 : decode cX12_readsLine 40 = .ok (.aload_n 0, 1) := dc_42 (gB_c lq_cX12_readsLine q1_cX12_readsLine 8 (o := 42) rfl)
theorem dX12_readsLine_41 : decode cX12_readsLine 41 = .ok (.bipush 45, 2) := dc_16 (gB_c lq_cX12_readsLine q1_cX12_readsLine 9 (o := 16) rfl) (gB_c lq_cX12_readsLine q1_cX12_readsLine 10 (o := 45) rfl) rfl
theorem dX12_readsLine_43 : decode cX12_readsLine 43 = .ok (.invokevirtual 155, 3) := dc_182 (gB_c lq_cX12_readsLine q1_cX12_readsLine 11 (o := 182) rfl) (gB_c lq_cX12_readsLine q1_cX12_readsLine 12 (o := 0) rfl) (gB_c lq_cX12_readsLine q1_cX12_readsLine 13 (o := 155) rfl) rfl
theorem dX12_readsLine_46 : decode cX12_readsLine 46 = .ok (.invokevirtual 158, 3) := dc_182 (gB_c lq_cX12_readsLine q1_cX12_readsLine 14 (o := 182) rfl) (gB_c lq_cX12_readsLine q1_cX12_readsLine 15 (o := 0) rfl) (gB_c lq_cX12_readsLine q1_cX12_readsLine 16 (o := 158) rfl) rfl
theorem dX12_readsLine_49 : decode cX12_readsLine 49 = .ok (.aload_n 0, 1) := dc_42 (gB_c lq_cX12_readsLine q1_cX12_readsLine 17 (o := 42) rfl)
theorem dX12_readsLine_50 : decode cX12_readsLine 50 = .ok (.iconst 0, 1) := dc_3 (gB_c lq_cX12_readsLine q1_cX12_readsLine 18 (o := 3) rfl)
theorem dX12_readsLine_51 : decode cX12_readsLine 51 = .ok (.aload_n 0, 1) := dc_42 (gB_c lq_cX12_readsLine q1_cX12_readsLine 19 (o := 42) rfl)
theorem dX12_readsLine_52 : decode cX12_readsLine 52 = .ok (.iload_n 1, 1) := dc_27 (gB_c lq_cX12_readsLine q1_cX12_readsLine 20 (o := 27) rfl)
theorem dX12_readsLine_53 : decode cX12_readsLine 53 = .ok (.invokevirtual 63, 3) := dc_182 (gB_c lq_cX12_readsLine q1_cX12_readsLine 21 (o := 182) rfl) (gB_c lq_cX12_readsLine q1_cX12_readsLine 22 (o := 0) rfl) (gB_c lq_cX12_readsLine q1_cX12_readsLine 23 (o := 63) rfl) rfl
theorem dX12_readsLine_56 : decode cX12_readsLine 56 = .ok (.iconst 1, 1) := dc_4 (gB_c lq_cX12_readsLine q1_cX12_readsLine 24 (o := 4) rfl)
theorem dX12_readsLine_57 : decode cX12_readsLine 57 = .ok (.isub, 1) := dc_100 (gB_c lq_cX12_readsLine q1_cX12_readsLine 25 (o := 100) rfl)
theorem dX12_readsLine_58 : decode cX12_readsLine 58 = .ok (.invokevirtual 149, 3) := dc_182 (gB_c lq_cX12_readsLine q1_cX12_readsLine 26 (o := 182) rfl) (gB_c lq_cX12_readsLine q1_cX12_readsLine 27 (o := 0) rfl) (gB_c lq_cX12_readsLine q1_cX12_readsLine 28 (o := 149) rfl) rfl
theorem dX12_readsLine_61 : decode cX12_readsLine 61 = .ok (.istore_n 3, 1) := dc_62 (gB_c lq_cX12_readsLine q1_cX12_readsLine 29 (o := 62) rfl)
theorem dX12_readsLine_62 : decode cX12_readsLine 62 = .ok (.aload_n 0, 1) := dc_42 (gB_c lq_cX12_readsLine q1_cX12_readsLine 30 (o := 42) rfl)
theorem dX12_readsLine_63 : decode cX12_readsLine 63 = .ok (.getfield 123, 3) := dc_180 (gB_c lq_cX12_readsLine q1_cX12_readsLine 31 (o := 180) rfl) (gB_c lq_cX12_readsLine q2_cX12_readsLine 0 (o := 0) rfl) (gB_c lq_cX12_readsLine q2_cX12_readsLine 1 (o := 123) rfl) rfl
theorem dX12_readsLine_66 : decode cX12_readsLine 66 = .ok (.ifCond .ne 13, 3) := dc_154 (gB_c lq_cX12_readsLine q2_cX12_readsLine 2 (o := 154) rfl) (gB_c lq_cX12_readsLine q2_cX12_readsLine 3 (o := 0) rfl) (gB_c lq_cX12_readsLine q2_cX12_readsLine 4 (o := 13) rfl) rfl
theorem dX12_readsLine_69 : decode cX12_readsLine 69 = .ok (.iload_n 2, 1) := dc_28 (gB_c lq_cX12_readsLine q2_cX12_readsLine 5 (o := 28) rfl)
theorem dX12_readsLine_70 : decode cX12_readsLine 70 = .ok (.iload_n 3, 1) := dc_29 (gB_c lq_cX12_readsLine q2_cX12_readsLine 6 (o := 29) rfl)
theorem dX12_readsLine_71 : decode cX12_readsLine 71 = .ok (.if_icmp .ne 8, 3) := dc_160 (gB_c lq_cX12_readsLine q2_cX12_readsLine 7 (o := 160) rfl) (gB_c lq_cX12_readsLine q2_cX12_readsLine 8 (o := 0) rfl) (gB_c lq_cX12_readsLine q2_cX12_readsLine 9 (o := 8) rfl) rfl
theorem dX12_readsLine_74 : decode cX12_readsLine 74 = .ok (.aload_n 0, 1) := dc_42 (gB_c lq_cX12_readsLine q2_cX12_readsLine 10 (o := 42) rfl)
theorem dX12_readsLine_75 : decode cX12_readsLine 75 = .ok (.iconst 2, 1) := dc_5 (gB_c lq_cX12_readsLine q2_cX12_readsLine 11 (o := 5) rfl)
theorem dX12_readsLine_76 : decode cX12_readsLine 76 = .ok (.invokevirtual 143, 3) := dc_182 (gB_c lq_cX12_readsLine q2_cX12_readsLine 12 (o := 182) rfl) (gB_c lq_cX12_readsLine q2_cX12_readsLine 13 (o := 0) rfl) (gB_c lq_cX12_readsLine q2_cX12_readsLine 14 (o := 143) rfl) rfl
theorem dX12_readsLine_79 : decode cX12_readsLine 79 = .ok (.aload_n 0, 1) := dc_42 (gB_c lq_cX12_readsLine q2_cX12_readsLine 15 (o := 42) rfl)
theorem dX12_readsLine_80 : decode cX12_readsLine 80 = .ok (.getfield 123, 3) := dc_180 (gB_c lq_cX12_readsLine q2_cX12_readsLine 16 (o := 180) rfl) (gB_c lq_cX12_readsLine q2_cX12_readsLine 17 (o := 0) rfl) (gB_c lq_cX12_readsLine q2_cX12_readsLine 18 (o := 123) rfl) rfl
theorem dX12_readsLine_83 : decode cX12_readsLine 83 = .ok (.ifCond .ne 18, 3) := dc_154 (gB_c lq_cX12_readsLine q2_cX12_readsLine 19 (o := 154) rfl) (gB_c lq_cX12_readsLine q2_cX12_readsLine 20 (o := 0) rfl) (gB_c lq_cX12_readsLine q2_cX12_readsLine 21 (o := 18) rfl) rfl
theorem dX12_readsLine_86 : decode cX12_readsLine 86 = .ok (.aload_n 0, 1) := dc_42 (gB_c lq_cX12_readsLine q2_cX12_readsLine 22 (o := 42) rfl)
theorem dX12_readsLine_87 : decode cX12_readsLine 87 = .ok (.iload_n 1, 1) := dc_27 (gB_c lq_cX12_readsLine q2_cX12_readsLine 23 (o := 27) rfl)
theorem dX12_readsLine_88 : decode cX12_readsLine 88 = .ok (.iload_n 2, 1) := dc_28 (gB_c lq_cX12_readsLine q2_cX12_readsLine 24 (o := 28) rfl)
theorem dX12_readsLine_89 : decode cX12_readsLine 89 = .ok (.iload_n 3, 1) := dc_29 (gB_c lq_cX12_readsLine q2_cX12_readsLine 25 (o := 29) rfl)
theorem dX12_readsLine_90 : decode cX12_readsLine 90 = .ok (.invokevirtual 76, 3) := dc_182 (gB_c lq_cX12_readsLine q2_cX12_readsLine 26 (o := 182) rfl) (gB_c lq_cX12_readsLine q2_cX12_readsLine 27 (o := 0) rfl) (gB_c lq_cX12_readsLine q2_cX12_readsLine 28 (o := 76) rfl) rfl
theorem dX12_readsLine_93 : decode cX12_readsLine 93 = .ok (.ifCond .le 8, 3) := dc_158 (gB_c lq_cX12_readsLine q2_cX12_readsLine 29 (o := 158) rfl) (gB_c lq_cX12_readsLine q2_cX12_readsLine 30 (o := 0) rfl) (gB_c lq_cX12_readsLine q2_cX12_readsLine 31 (o := 8) rfl) rfl
theorem dX12_readsLine_96 : decode cX12_readsLine 96 = .ok (.aload_n 0, 1) := dc_42 (gB_c lq_cX12_readsLine q3_cX12_readsLine 0 (o := 42) rfl)
theorem dX12_readsLine_97 : decode cX12_readsLine 97 = .ok (.iconst 3, 1) := dc_6 (gB_c lq_cX12_readsLine q3_cX12_readsLine 1 (o := 6) rfl)
theorem dX12_readsLine_98 : decode cX12_readsLine 98 = .ok (.invokevirtual 143, 3) := dc_182 (gB_c lq_cX12_readsLine q3_cX12_readsLine 2 (o := 182) rfl) (gB_c lq_cX12_readsLine q3_cX12_readsLine 3 (o := 0) rfl) (gB_c lq_cX12_readsLine q3_cX12_readsLine 4 (o := 143) rfl) rfl
theorem dX12_readsLine_101 : decode cX12_readsLine 101 = .ok (.aload_n 0, 1) := dc_42 (gB_c lq_cX12_readsLine q3_cX12_readsLine 5 (o := 42) rfl)
theorem dX12_readsLine_102 : decode cX12_readsLine 102 = .ok (.invokevirtual 146, 3) := dc_182 (gB_c lq_cX12_readsLine q3_cX12_readsLine 6 (o := 182) rfl) (gB_c lq_cX12_readsLine q3_cX12_readsLine 7 (o := 0) rfl) (gB_c lq_cX12_readsLine q3_cX12_readsLine 8 (o := 146) rfl) rfl
theorem dX12_readsLine_105 : decode cX12_readsLine 105 = .ok (.iconst 1, 1) := dc_4 (gB_c lq_cX12_readsLine q3_cX12_readsLine 9 (o := 4) rfl)
theorem dX12_readsLine_106 : decode cX12_readsLine 106 = .ok (.istore 4, 2) := dc_54 (gB_c lq_cX12_readsLine q3_cX12_readsLine 10 (o := 54) rfl) (gB_c lq_cX12_readsLine q3_cX12_readsLine 11 (o := 4) rfl)
theorem dX12_readsLine_108 : decode cX12_readsLine 108 = .ok (.aload_n 0, 1) := dc_42 (gB_c lq_cX12_readsLine q3_cX12_readsLine 12 (o := 42) rfl)
theorem dX12_readsLine_109 : decode cX12_readsLine 109 = .ok (.bipush 61, 2) := dc_16 (gB_c lq_cX12_readsLine q3_cX12_readsLine 13 (o := 16) rfl) (gB_c lq_cX12_readsLine q3_cX12_readsLine 14 (o := 61) rfl) rfl
theorem dX12_readsLine_111 : decode cX12_readsLine 111 = .ok (.invokevirtual 155, 3) := dc_182 (gB_c lq_cX12_readsLine q3_cX12_readsLine 15 (o := 182) rfl) (gB_c lq_cX12_readsLine q3_cX12_readsLine 16 (o := 0) rfl) (gB_c lq_cX12_readsLine q3_cX12_readsLine 17 (o := 155) rfl) rfl
theorem dX12_readsLine_114 : decode cX12_readsLine 114 = .ok (.ifCond .eq 20, 3) := dc_153 (gB_c lq_cX12_readsLine q3_cX12_readsLine 18 (o := 153) rfl) (gB_c lq_cX12_readsLine q3_cX12_readsLine 19 (o := 0) rfl) (gB_c lq_cX12_readsLine q3_cX12_readsLine 20 (o := 20) rfl) rfl
theorem dX12_readsLine_117 : decode cX12_readsLine 117 = .ok (.aload_n 0, 1) := dc_42 (gB_c lq_cX12_readsLine q3_cX12_readsLine 21 (o := 42) rfl)
theorem dX12_readsLine_118 : decode cX12_readsLine 118 = .ok (.invokevirtual 130, 3) := dc_182 (gB_c lq_cX12_readsLine q3_cX12_readsLine 22 (o := 182) rfl) (gB_c lq_cX12_readsLine q3_cX12_readsLine 23 (o := 0) rfl) (gB_c lq_cX12_readsLine q3_cX12_readsLine 24 (o := 130) rfl) rfl
theorem dX12_readsLine_121 : decode cX12_readsLine 121 = .ok (.aload_n 0, 1) := dc_42 (gB_c lq_cX12_readsLine q3_cX12_readsLine 25 (o := 42) rfl)
theorem dX12_readsLine_122 : decode cX12_readsLine 122 = .ok (.iconst 1, 1) := dc_4 (gB_c lq_cX12_readsLine q3_cX12_readsLine 26 (o := 4) rfl)
theorem dX12_readsLine_123 : decode cX12_readsLine 123 = .ok (.bipush 9, 2) := dc_16 (gB_c lq_cX12_readsLine q3_cX12_readsLine 27 (o := 16) rfl) (gB_c lq_cX12_readsLine q3_cX12_readsLine 28 (o := 9) rfl) rfl
theorem dX12_readsLine_125 : decode cX12_readsLine 125 = .ok (.invokevirtual 149, 3) := dc_182 (gB_c lq_cX12_readsLine q3_cX12_readsLine 29 (o := 182) rfl) (gB_c lq_cX12_readsLine q3_cX12_readsLine 30 (o := 0) rfl) (gB_c lq_cX12_readsLine q3_cX12_readsLine 31 (o := 149) rfl) rfl
theorem dX12_readsLine_128 : decode cX12_readsLine 128 = .ok (.istore 4, 2) := dc_54 (gB_c lq_cX12_readsLine q4_cX12_readsLine 0 (o := 54) rfl) (gB_c lq_cX12_readsLine q4_cX12_readsLine 1 (o := 4) rfl)
theorem dX12_readsLine_130 : decode cX12_readsLine 130 = .ok (.aload_n 0, 1) := dc_42 (gB_c lq_cX12_readsLine q4_cX12_readsLine 2 (o := 42) rfl)
theorem dX12_readsLine_131 : decode cX12_readsLine 131 = .ok (.invokevirtual 146, 3) := dc_182 (gB_c lq_cX12_readsLine q4_cX12_readsLine 3 (o := 182) rfl) (gB_c lq_cX12_readsLine q4_cX12_readsLine 4 (o := 0) rfl) (gB_c lq_cX12_readsLine q4_cX12_readsLine 5 (o := 146) rfl) rfl
theorem dX12_readsLine_134 : decode cX12_readsLine 134 = .ok (.aload_n 0, 1) := dc_42 (gB_c lq_cX12_readsLine q4_cX12_readsLine 6 (o := 42) rfl)
theorem dX12_readsLine_135 : decode cX12_readsLine 135 = .ok (.getfield 123, 3) := dc_180 (gB_c lq_cX12_readsLine q4_cX12_readsLine 7 (o := 180) rfl) (gB_c lq_cX12_readsLine q4_cX12_readsLine 8 (o := 0) rfl) (gB_c lq_cX12_readsLine q4_cX12_readsLine 9 (o := 123) rfl) rfl
theorem dX12_readsLine_138 : decode cX12_readsLine 138 = .ok (.ifCond .ne 12, 3) := dc_154 (gB_c lq_cX12_readsLine q4_cX12_readsLine 10 (o := 154) rfl) (gB_c lq_cX12_readsLine q4_cX12_readsLine 11 (o := 0) rfl) (gB_c lq_cX12_readsLine q4_cX12_readsLine 12 (o := 12) rfl) rfl
theorem dX12_readsLine_141 : decode cX12_readsLine 141 = .ok (.aload_n 0, 1) := dc_42 (gB_c lq_cX12_readsLine q4_cX12_readsLine 13 (o := 42) rfl)
theorem dX12_readsLine_142 : decode cX12_readsLine 142 = .ok (.iload_n 1, 1) := dc_27 (gB_c lq_cX12_readsLine q4_cX12_readsLine 14 (o := 27) rfl)
theorem dX12_readsLine_143 : decode cX12_readsLine 143 = .ok (.iload_n 2, 1) := dc_28 (gB_c lq_cX12_readsLine q4_cX12_readsLine 15 (o := 28) rfl)
theorem dX12_readsLine_144 : decode cX12_readsLine 144 = .ok (.iload_n 3, 1) := dc_29 (gB_c lq_cX12_readsLine q4_cX12_readsLine 16 (o := 29) rfl)
theorem dX12_readsLine_145 : decode cX12_readsLine 145 = .ok (.iload 4, 2) := dc_21 (gB_c lq_cX12_readsLine q4_cX12_readsLine 17 (o := 21) rfl) (gB_c lq_cX12_readsLine q4_cX12_readsLine 18 (o := 4) rfl)
theorem dX12_readsLine_147 : decode cX12_readsLine 147 = .ok (.invokevirtual 162, 3) := dc_182 (gB_c lq_cX12_readsLine q4_cX12_readsLine 19 (o := 182) rfl) (gB_c lq_cX12_readsLine q4_cX12_readsLine 20 (o := 0) rfl) (gB_c lq_cX12_readsLine q4_cX12_readsLine 21 (o := 162) rfl) rfl
theorem dX12_readsLine_150 : decode cX12_readsLine 150 = .ok (.return_, 1) := dc_177 (gB_c lq_cX12_readsLine q4_cX12_readsLine 22 (o := 177) rfl)
abbrev r4_cX12_readsNet : List Nat := [180, 0, 115, 153, 0, 8, 42, 4, 182, 0, 143, 177]
def a3_cX12_readsNet : List Nat := [42, 42, 16, 59, 182, 0, 155, 182, 0, 158, 42, 18, 182, 182, 0, 175, 153, 0, 8, 42, 27, 182, 0, 184, 42, 180, 0, 123, 154, 0, 15, 42]
abbrev r3_cX12_readsNet : List Nat := a3_cX12_readsNet ++ r4_cX12_readsNet
def a2_cX12_readsNet : List Nat := [0, 33, 42, 182, 0, 130, 42, 27, 182, 0, 179, 42, 16, 44, 182, 0, 155, 153, 0, 15, 42, 182, 0, 130, 42, 27, 182, 0, 179, 167, 255, 238]
abbrev r2_cX12_readsNet : List Nat := a2_cX12_readsNet ++ r3_cX12_readsNet
def a1_cX12_readsNet : List Nat := [91, 27, 104, 28, 79, 3, 62, 29, 28, 162, 0, 16, 42, 27, 29, 29, 182, 0, 169, 132, 3, 1, 167, 255, 241, 42, 16, 58, 182, 0, 155, 153]
abbrev r1_cX12_readsNet : List Nat := a1_cX12_readsNet ++ r2_cX12_readsNet
def a0_cX12_readsNet : List Nat := [42, 42, 18, 173, 182, 0, 175, 182, 0, 158, 42, 4, 16, 9, 182, 0, 149, 61, 42, 182, 0, 146, 42, 27, 182, 0, 96, 42, 180, 0, 7, 16]
abbrev r0_cX12_readsNet : List Nat := a0_cX12_readsNet ++ r1_cX12_readsNet
theorem lq_cX12_readsNet : (cX12_readsNet).data.toList.map UInt8.toNat = r0_cX12_readsNet := by decide +kernel
theorem q1_cX12_readsNet : ∀ i, (r0_cX12_readsNet)[32 + i]? = (r1_cX12_readsNet)[i]? := chn (A := a0_cX12_readsNet) (B := r1_cX12_readsNet) (n := 0) (k := 32) rfl (ch0 (R := r0_cX12_readsNet))
theorem q2_cX12_readsNet : ∀ i, (r0_cX12_readsNet)[64 + i]? = (r2_cX12_readsNet)[i]? := chn (A := a1_cX12_readsNet) (B := r2_cX12_readsNet) (n := 32) (k := 32) rfl q1_cX12_readsNet
theorem q3_cX12_readsNet : ∀ i, (r0_cX12_readsNet)[96 + i]? = (r3_cX12_readsNet)[i]? := chn (A := a2_cX12_readsNet) (B := r3_cX12_readsNet) (n := 64) (k := 32) rfl q2_cX12_readsNet
theorem q4_cX12_readsNet : ∀ i, (r0_cX12_readsNet)[128 + i]? = (r4_cX12_readsNet)[i]? := chn (A := a3_cX12_readsNet) (B := r4_cX12_readsNet) (n := 96) (k := 32) rfl q3_cX12_readsNet
theorem dX12_readsNet_0 : decode cX12_readsNet 0 = .ok (.aload_n 0, 1) := dc_42 (gB_l lq_cX12_readsNet (p := 0) (o := 42) rfl)
theorem dX12_readsNet_1 : decode cX12_readsNet 1 = .ok (.aload_n 0, 1) := dc_42 (gB_l lq_cX12_readsNet (p := 1) (o := 42) rfl)
theorem dX12_readsNet_2 : decode cX12_readsNet 2 = .ok (.ldc 173, 2) := dc_18 (gB_l lq_cX12_readsNet (p := 2) (o := 18) rfl) (gB_l lq_cX12_readsNet (p := 3) (o := 173) rfl)
theorem dX12_readsNet_4 : decode cX12_readsNet 4 = .ok (.invokevirtual 175, 3) := dc_182 (gB_l lq_cX12_readsNet (p := 4) (o := 182) rfl) (gB_l lq_cX12_readsNet (p := 5) (o := 0) rfl) (gB_l lq_cX12_readsNet (p := 6) (o := 175) rfl) rfl
theorem dX12_readsNet_7 : decode cX12_readsNet 7 = .ok (.invokevirtual 158, 3) := dc_182 (gB_l lq_cX12_readsNet (p := 7) (o := 182) rfl) (gB_l lq_cX12_readsNet (p := 8) (o := 0) rfl) (gB_l lq_cX12_readsNet (p := 9) (o := 158) rfl) rfl
theorem dX12_readsNet_10 : decode cX12_readsNet 10 = .ok (.aload_n 0, 1) := dc_42 (gB_l lq_cX12_readsNet (p := 10) (o := 42) rfl)
theorem dX12_readsNet_11 : decode cX12_readsNet 11 = .ok (.iconst 1, 1) := dc_4 (gB_l lq_cX12_readsNet (p := 11) (o := 4) rfl)
theorem dX12_readsNet_12 : decode cX12_readsNet 12 = .ok (.bipush 9, 2) := dc_16 (gB_l lq_cX12_readsNet (p := 12) (o := 16) rfl) (gB_l lq_cX12_readsNet (p := 13) (o := 9) rfl) rfl
theorem dX12_readsNet_14 : decode cX12_readsNet 14 = .ok (.invokevirtual 149, 3) := dc_182 (gB_l lq_cX12_readsNet (p := 14) (o := 182) rfl) (gB_l lq_cX12_readsNet (p := 15) (o := 0) rfl) (gB_l lq_cX12_readsNet (p := 16) (o := 149) rfl) rfl
theorem dX12_readsNet_17 : decode cX12_readsNet 17 = .ok (.istore_n 2, 1) := dc_61 (gB_l lq_cX12_readsNet (p := 17) (o := 61) rfl)
theorem dX12_readsNet_18 : decode cX12_readsNet 18 = .ok (.aload_n 0, 1) := dc_42 (gB_l lq_cX12_readsNet (p := 18) (o := 42) rfl)
theorem dX12_readsNet_19 : decode cX12_readsNet 19 = .ok (.invokevirtual 146, 3) := dc_182 (gB_l lq_cX12_readsNet (p := 19) (o := 182) rfl) (gB_l lq_cX12_readsNet (p := 20) (o := 0) rfl) (gB_l lq_cX12_readsNet (p := 21) (o := 146) rfl) rfl
theorem dX12_readsNet_22 : decode cX12_readsNet 22 = .ok (.aload_n 0, 1) := dc_42 (gB_l lq_cX12_readsNet (p := 22) (o := 42) rfl)
theorem dX12_readsNet_23 : decode cX12_readsNet 23 = .ok (.iload_n 1, 1) := dc_27 (gB_l lq_cX12_readsNet (p := 23) (o := 27) rfl)
theorem dX12_readsNet_24 : decode cX12_readsNet 24 = .ok (.invokevirtual 96, 3) := dc_182 (gB_l lq_cX12_readsNet (p := 24) (o := 182) rfl) (gB_l lq_cX12_readsNet (p := 25) (o := 0) rfl) (gB_l lq_cX12_readsNet (p := 26) (o := 96) rfl) rfl
theorem dX12_readsNet_27 : decode cX12_readsNet 27 = .ok (.aload_n 0, 1) := dc_42 (gB_l lq_cX12_readsNet (p := 27) (o := 42) rfl)
theorem dX12_readsNet_28 : decode cX12_readsNet 28 = .ok (.getfield 7, 3) := dc_180 (gB_l lq_cX12_readsNet (p := 28) (o := 180) rfl) (gB_l lq_cX12_readsNet (p := 29) (o := 0) rfl) (gB_l lq_cX12_readsNet (p := 30) (o := 7) rfl) rfl
theorem dX12_readsNet_31 : decode cX12_readsNet 31 = .ok (.bipush 91, 2) := dc_16 (gB_l lq_cX12_readsNet (p := 31) (o := 16) rfl) (gB_c lq_cX12_readsNet q1_cX12_readsNet 0 (o := 91) rfl) rfl
theorem dX12_readsNet_33 : decode cX12_readsNet 33 = .ok (.iload_n 1, 1) := dc_27 (gB_c lq_cX12_readsNet q1_cX12_readsNet 1 (o := 27) rfl)
theorem dX12_readsNet_34 : decode cX12_readsNet 34 = .ok (.imul, 1) := dc_104 (gB_c lq_cX12_readsNet q1_cX12_readsNet 2 (o := 104) rfl)
theorem dX12_readsNet_35 : decode cX12_readsNet 35 = .ok (.iload_n 2, 1) := dc_28 (gB_c lq_cX12_readsNet q1_cX12_readsNet 3 (o := 28) rfl)
theorem dX12_readsNet_36 : decode cX12_readsNet 36 = .ok (.iastore, 1) := dc_79 (gB_c lq_cX12_readsNet q1_cX12_readsNet 4 (o := 79) rfl)
theorem dX12_readsNet_37 : decode cX12_readsNet 37 = .ok (.iconst 0, 1) := dc_3 (gB_c lq_cX12_readsNet q1_cX12_readsNet 5 (o := 3) rfl)
theorem dX12_readsNet_38 : decode cX12_readsNet 38 = .ok (.istore_n 3, 1) := dc_62 (gB_c lq_cX12_readsNet q1_cX12_readsNet 6 (o := 62) rfl)
theorem dX12_readsNet_39 : decode cX12_readsNet 39 = .ok (.iload_n 3, 1) := dc_29 (gB_c lq_cX12_readsNet q1_cX12_readsNet 7 (o := 29) rfl)
theorem dX12_readsNet_40 : decode cX12_readsNet 40 = .ok (.iload_n 2, 1) := dc_28 (gB_c lq_cX12_readsNet q1_cX12_readsNet 8 (o := 28) rfl)
theorem dX12_readsNet_41 : decode cX12_readsNet 41 = .ok (.if_icmp .ge 16, 3) := dc_162 (gB_c lq_cX12_readsNet q1_cX12_readsNet 9 (o := 162) rfl) (gB_c lq_cX12_readsNet q1_cX12_readsNet 10 (o := 0) rfl) (gB_c lq_cX12_readsNet q1_cX12_readsNet 11 (o := 16) rfl) rfl
theorem dX12_readsNet_44 : decode cX12_readsNet 44 = .ok (.aload_n 0, 1) := dc_42 (gB_c lq_cX12_readsNet q1_cX12_readsNet 12 (o := 42) rfl)
theorem dX12_readsNet_45 : decode cX12_readsNet 45 = .ok (.iload_n 1, 1) := dc_27 (gB_c lq_cX12_readsNet q1_cX12_readsNet 13 (o := 27) rfl)
theorem dX12_readsNet_46 : decode cX12_readsNet 46 = .ok (.iload_n 3, 1) := dc_29 (gB_c lq_cX12_readsNet q1_cX12_readsNet 14 (o := 29) rfl)
theorem dX12_readsNet_47 : decode cX12_readsNet 47 = .ok (.iload_n 3, 1) := dc_29 (gB_c lq_cX12_readsNet q1_cX12_readsNet 15 (o := 29) rfl)
theorem dX12_readsNet_48 : decode cX12_readsNet 48 = .ok (.invokevirtual 169, 3) := dc_182 (gB_c lq_cX12_readsNet q1_cX12_readsNet 16 (o := 182) rfl) (gB_c lq_cX12_readsNet q1_cX12_readsNet 17 (o := 0) rfl) (gB_c lq_cX12_readsNet q1_cX12_readsNet 18 (o := 169) rfl) rfl
theorem dX12_readsNet_51 : decode cX12_readsNet 51 = .ok (.iinc 3 1, 3) := dc_132 (gB_c lq_cX12_readsNet q1_cX12_readsNet 19 (o := 132) rfl) (gB_c lq_cX12_readsNet q1_cX12_readsNet 20 (o := 3) rfl) (gB_c lq_cX12_readsNet q1_cX12_readsNet 21 (o := 1) rfl) rfl
theorem dX12_readsNet_54 : decode cX12_readsNet 54 = .ok (.goto (-15), 3) := dc_167 (gB_c lq_cX12_readsNet q1_cX12_readsNet 22 (o := 167) rfl) (gB_c lq_cX12_readsNet q1_cX12_readsNet 23 (o := 255) rfl) (gB_c lq_cX12_readsNet q1_cX12_readsNet 24 (o := 241) rfl) rfl
theorem dX12_readsNet_57 : decode cX12_readsNet 57 = .ok (.aload_n 0, 1) := dc_42 (gB_c lq_cX12_readsNet q1_cX12_readsNet 25 (o := 42) rfl)
theorem dX12_readsNet_58 : decode cX12_readsNet 58 = .ok (.bipush 58, 2) := dc_16 (gB_c lq_cX12_readsNet q1_cX12_readsNet 26 (o := 16) rfl) (gB_c lq_cX12_readsNet q1_cX12_readsNet 27 (o := 58) rfl) rfl
theorem dX12_readsNet_60 : decode cX12_readsNet 60 = .ok (.invokevirtual 155, 3) := dc_182 (gB_c lq_cX12_readsNet q1_cX12_readsNet 28 (o := 182) rfl) (gB_c lq_cX12_readsNet q1_cX12_readsNet 29 (o := 0) rfl) (gB_c lq_cX12_readsNet q1_cX12_readsNet 30 (o := 155) rfl) rfl
theorem dX12_readsNet_63 : decode cX12_readsNet 63 = .ok (.ifCond .eq 33, 3) := dc_153 (gB_c lq_cX12_readsNet q1_cX12_readsNet 31 (o := 153) rfl) (gB_c lq_cX12_readsNet q2_cX12_readsNet 0 (o := 0) rfl) (gB_c lq_cX12_readsNet q2_cX12_readsNet 1 (o := 33) rfl) rfl
theorem dX12_readsNet_66 : decode cX12_readsNet 66 = .ok (.aload_n 0, 1) := dc_42 (gB_c lq_cX12_readsNet q2_cX12_readsNet 2 (o := 42) rfl)
theorem dX12_readsNet_67 : decode cX12_readsNet 67 = .ok (.invokevirtual 130, 3) := dc_182 (gB_c lq_cX12_readsNet q2_cX12_readsNet 3 (o := 182) rfl) (gB_c lq_cX12_readsNet q2_cX12_readsNet 4 (o := 0) rfl) (gB_c lq_cX12_readsNet q2_cX12_readsNet 5 (o := 130) rfl) rfl
theorem dX12_readsNet_70 : decode cX12_readsNet 70 = .ok (.aload_n 0, 1) := dc_42 (gB_c lq_cX12_readsNet q2_cX12_readsNet 6 (o := 42) rfl)
theorem dX12_readsNet_71 : decode cX12_readsNet 71 = .ok (.iload_n 1, 1) := dc_27 (gB_c lq_cX12_readsNet q2_cX12_readsNet 7 (o := 27) rfl)
theorem dX12_readsNet_72 : decode cX12_readsNet 72 = .ok (.invokevirtual 179, 3) := dc_182 (gB_c lq_cX12_readsNet q2_cX12_readsNet 8 (o := 182) rfl) (gB_c lq_cX12_readsNet q2_cX12_readsNet 9 (o := 0) rfl) (gB_c lq_cX12_readsNet q2_cX12_readsNet 10 (o := 179) rfl) rfl
theorem dX12_readsNet_75 : decode cX12_readsNet 75 = .ok (.aload_n 0, 1) := dc_42 (gB_c lq_cX12_readsNet q2_cX12_readsNet 11 (o := 42) rfl)
theorem dX12_readsNet_76 : decode cX12_readsNet 76 = .ok (.bipush 44, 2) := dc_16 (gB_c lq_cX12_readsNet q2_cX12_readsNet 12 (o := 16) rfl) (gB_c lq_cX12_readsNet q2_cX12_readsNet 13 (o := 44) rfl) rfl
theorem dX12_readsNet_78 : decode cX12_readsNet 78 = .ok (.invokevirtual 155, 3) := dc_182 (gB_c lq_cX12_readsNet q2_cX12_readsNet 14 (o := 182) rfl) (gB_c lq_cX12_readsNet q2_cX12_readsNet 15 (o := 0) rfl) (gB_c lq_cX12_readsNet q2_cX12_readsNet 16 (o := 155) rfl) rfl
theorem dX12_readsNet_81 : decode cX12_readsNet 81 = .ok (.ifCond .eq 15, 3) := dc_153 (gB_c lq_cX12_readsNet q2_cX12_readsNet 17 (o := 153) rfl) (gB_c lq_cX12_readsNet q2_cX12_readsNet 18 (o := 0) rfl) (gB_c lq_cX12_readsNet q2_cX12_readsNet 19 (o := 15) rfl) rfl
theorem dX12_readsNet_84 : decode cX12_readsNet 84 = .ok (.aload_n 0, 1) := dc_42 (gB_c lq_cX12_readsNet q2_cX12_readsNet 20 (o := 42) rfl)
theorem dX12_readsNet_85 : decode cX12_readsNet 85 = .ok (.invokevirtual 130, 3) := dc_182 (gB_c lq_cX12_readsNet q2_cX12_readsNet 21 (o := 182) rfl) (gB_c lq_cX12_readsNet q2_cX12_readsNet 22 (o := 0) rfl) (gB_c lq_cX12_readsNet q2_cX12_readsNet 23 (o := 130) rfl) rfl
theorem dX12_readsNet_88 : decode cX12_readsNet 88 = .ok (.aload_n 0, 1) := dc_42 (gB_c lq_cX12_readsNet q2_cX12_readsNet 24 (o := 42) rfl)
theorem dX12_readsNet_89 : decode cX12_readsNet 89 = .ok (.iload_n 1, 1) := dc_27 (gB_c lq_cX12_readsNet q2_cX12_readsNet 25 (o := 27) rfl)
theorem dX12_readsNet_90 : decode cX12_readsNet 90 = .ok (.invokevirtual 179, 3) := dc_182 (gB_c lq_cX12_readsNet q2_cX12_readsNet 26 (o := 182) rfl) (gB_c lq_cX12_readsNet q2_cX12_readsNet 27 (o := 0) rfl) (gB_c lq_cX12_readsNet q2_cX12_readsNet 28 (o := 179) rfl) rfl
theorem dX12_readsNet_93 : decode cX12_readsNet 93 = .ok (.goto (-18), 3) := dc_167 (gB_c lq_cX12_readsNet q2_cX12_readsNet 29 (o := 167) rfl) (gB_c lq_cX12_readsNet q2_cX12_readsNet 30 (o := 255) rfl) (gB_c lq_cX12_readsNet q2_cX12_readsNet 31 (o := 238) rfl) rfl
theorem dX12_readsNet_96 : decode cX12_readsNet 96 = .ok (.aload_n 0, 1) := dc_42 (gB_c lq_cX12_readsNet q3_cX12_readsNet 0 (o := 42) rfl)
theorem dX12_readsNet_97 : decode cX12_readsNet 97 = .ok (.aload_n 0, 1) := dc_42 (gB_c lq_cX12_readsNet q3_cX12_readsNet 1 (o := 42) rfl)
theorem dX12_readsNet_98 : decode cX12_readsNet 98 = .ok (.bipush 59, 2) := dc_16 (gB_c lq_cX12_readsNet q3_cX12_readsNet 2 (o := 16) rfl) (gB_c lq_cX12_readsNet q3_cX12_readsNet 3 (o := 59) rfl) rfl
theorem dX12_readsNet_100 : decode cX12_readsNet 100 = .ok (.invokevirtual 155, 3) := dc_182 (gB_c lq_cX12_readsNet q3_cX12_readsNet 4 (o := 182) rfl) (gB_c lq_cX12_readsNet q3_cX12_readsNet 5 (o := 0) rfl) (gB_c lq_cX12_readsNet q3_cX12_readsNet 6 (o := 155) rfl) rfl
theorem dX12_readsNet_103 : decode cX12_readsNet 103 = .ok (.invokevirtual 158, 3) := dc_182 (gB_c lq_cX12_readsNet q3_cX12_readsNet 7 (o := 182) rfl) (gB_c lq_cX12_readsNet q3_cX12_readsNet 8 (o := 0) rfl) (gB_c lq_cX12_readsNet q3_cX12_readsNet 9 (o := 158) rfl) rfl
theorem dX12_readsNet_106 : decode cX12_readsNet 106 = .ok (.aload_n 0, 1) := dc_42 (gB_c lq_cX12_readsNet q3_cX12_readsNet 10 (o := 42) rfl)
theorem dX12_readsNet_107 : decode cX12_readsNet 107 = .ok (.ldc 182, 2) := dc_18 (gB_c lq_cX12_readsNet q3_cX12_readsNet 11 (o := 18) rfl) (gB_c lq_cX12_readsNet q3_cX12_readsNet 12 (o := 182) rfl)
theorem dX12_readsNet_109 : decode cX12_readsNet 109 = .ok (.invokevirtual 175, 3) := dc_182 (gB_c lq_cX12_readsNet q3_cX12_readsNet 13 (o := 182) rfl) (gB_c lq_cX12_readsNet q3_cX12_readsNet 14 (o := 0) rfl) (gB_c lq_cX12_readsNet q3_cX12_readsNet 15 (o := 175) rfl) rfl
theorem dX12_readsNet_112 : decode cX12_readsNet 112 = .ok (.ifCond .eq 8, 3) := dc_153 (gB_c lq_cX12_readsNet q3_cX12_readsNet 16 (o := 153) rfl) (gB_c lq_cX12_readsNet q3_cX12_readsNet 17 (o := 0) rfl) (gB_c lq_cX12_readsNet q3_cX12_readsNet 18 (o := 8) rfl) rfl
theorem dX12_readsNet_115 : decode cX12_readsNet 115 = .ok (.aload_n 0, 1) := dc_42 (gB_c lq_cX12_readsNet q3_cX12_readsNet 19 (o := 42) rfl)
theorem dX12_readsNet_116 : decode cX12_readsNet 116 = .ok (.iload_n 1, 1) := dc_27 (gB_c lq_cX12_readsNet q3_cX12_readsNet 20 (o := 27) rfl)
theorem dX12_readsNet_117 : decode cX12_readsNet 117 = .ok (.invokevirtual 184, 3) := dc_182 (gB_c lq_cX12_readsNet q3_cX12_readsNet 21 (o := 182) rfl) (gB_c lq_cX12_readsNet q3_cX12_readsNet 22 (o := 0) rfl) (gB_c lq_cX12_readsNet q3_cX12_readsNet 23 (o := 184) rfl) rfl
theorem dX12_readsNet_120 : decode cX12_readsNet 120 = .ok (.aload_n 0, 1) := dc_42 (gB_c lq_cX12_readsNet q3_cX12_readsNet 24 (o := 42) rfl)
theorem dX12_readsNet_121 : decode cX12_readsNet 121 = .ok (.getfield 123, 3) := dc_180 (gB_c lq_cX12_readsNet q3_cX12_readsNet 25 (o := 180) rfl) (gB_c lq_cX12_readsNet q3_cX12_readsNet 26 (o := 0) rfl) (gB_c lq_cX12_readsNet q3_cX12_readsNet 27 (o := 123) rfl) rfl
theorem dX12_readsNet_124 : decode cX12_readsNet 124 = .ok (.ifCond .ne 15, 3) := dc_154 (gB_c lq_cX12_readsNet q3_cX12_readsNet 28 (o := 154) rfl) (gB_c lq_cX12_readsNet q3_cX12_readsNet 29 (o := 0) rfl) (gB_c lq_cX12_readsNet q3_cX12_readsNet 30 (o := 15) rfl) rfl
theorem dX12_readsNet_127 : decode cX12_readsNet 127 = .ok (.aload_n 0, 1) := dc_42 (gB_c lq_cX12_readsNet q3_cX12_readsNet 31 (o := 42) rfl)
theorem dX12_readsNet_128 : decode cX12_readsNet 128 = .ok (.getfield 115, 3) := dc_180 (gB_c lq_cX12_readsNet q4_cX12_readsNet 0 (o := 180) rfl) (gB_c lq_cX12_readsNet q4_cX12_readsNet 1 (o := 0) rfl) (gB_c lq_cX12_readsNet q4_cX12_readsNet 2 (o := 115) rfl) rfl
theorem dX12_readsNet_131 : decode cX12_readsNet 131 = .ok (.ifCond .eq 8, 3) := dc_153 (gB_c lq_cX12_readsNet q4_cX12_readsNet 3 (o := 153) rfl) (gB_c lq_cX12_readsNet q4_cX12_readsNet 4 (o := 0) rfl) (gB_c lq_cX12_readsNet q4_cX12_readsNet 5 (o := 8) rfl) rfl
theorem dX12_readsNet_134 : decode cX12_readsNet 134 = .ok (.aload_n 0, 1) := dc_42 (gB_c lq_cX12_readsNet q4_cX12_readsNet 6 (o := 42) rfl)
theorem dX12_readsNet_135 : decode cX12_readsNet 135 = .ok (.iconst 1, 1) := dc_4 (gB_c lq_cX12_readsNet q4_cX12_readsNet 7 (o := 4) rfl)
theorem dX12_readsNet_136 : decode cX12_readsNet 136 = .ok (.invokevirtual 143, 3) := dc_182 (gB_c lq_cX12_readsNet q4_cX12_readsNet 8 (o := 182) rfl) (gB_c lq_cX12_readsNet q4_cX12_readsNet 9 (o := 0) rfl) (gB_c lq_cX12_readsNet q4_cX12_readsNet 10 (o := 143) rfl) rfl
theorem dX12_readsNet_139 : decode cX12_readsNet 139 = .ok (.return_, 1) := dc_177 (gB_c lq_cX12_readsNet q4_cX12_readsNet 11 (o := 177) rfl)
abbrev r6_cX12_readsRow : List Nat := [158, 177]
def a5_cX12_readsRow : List Nat := [180, 0, 109, 21, 4, 96, 46, 16, 48, 100, 182, 0, 169, 132, 4, 1, 167, 255, 214, 42, 182, 0, 146, 42, 42, 16, 59, 182, 0, 155, 182, 0]
abbrev r5_cX12_readsRow : List Nat := a5_cX12_readsRow ++ r6_cX12_readsRow
def a4_cX12_readsRow : List Nat := [182, 0, 143, 3, 54, 4, 21, 4, 42, 27, 182, 0, 63, 162, 0, 38, 42, 180, 0, 123, 154, 0, 31, 42, 27, 21, 4, 42, 180, 0, 19, 42]
abbrev r4_cX12_readsRow : List Nat := a4_cX12_readsRow ++ r5_cX12_readsRow
def a3_cX12_readsRow : List Nat := [5, 120, 128, 61, 132, 4, 1, 167, 255, 188, 42, 180, 0, 115, 5, 159, 0, 11, 42, 4, 182, 0, 143, 167, 0, 12, 29, 154, 0, 8, 42, 8]
abbrev r3_cX12_readsRow : List Nat := a3_cX12_readsRow ++ r4_cX12_readsRow
def a2_cX12_readsRow : List Nat := [29, 153, 0, 26, 21, 5, 42, 27, 182, 0, 63, 162, 0, 16, 28, 21, 5, 184, 0, 166, 154, 0, 7, 4, 167, 0, 4, 3, 62, 28, 4, 21]
abbrev r2_cX12_readsRow : List Nat := a2_cX12_readsRow ++ r3_cX12_readsRow
def a1_cX12_readsRow : List Nat := [109, 54, 4, 21, 4, 42, 180, 0, 103, 162, 0, 65, 42, 180, 0, 115, 5, 160, 0, 57, 42, 180, 0, 19, 21, 4, 46, 16, 48, 100, 54, 5]
abbrev r1_cX12_readsRow : List Nat := a1_cX12_readsRow ++ r2_cX12_readsRow
def a0_cX12_readsRow : List Nat := [42, 182, 0, 130, 3, 61, 42, 180, 0, 103, 42, 180, 0, 109, 100, 42, 27, 182, 0, 63, 160, 0, 7, 4, 167, 0, 4, 3, 62, 42, 180, 0]
abbrev r0_cX12_readsRow : List Nat := a0_cX12_readsRow ++ r1_cX12_readsRow
theorem lq_cX12_readsRow : (cX12_readsRow).data.toList.map UInt8.toNat = r0_cX12_readsRow := by decide +kernel
theorem q1_cX12_readsRow : ∀ i, (r0_cX12_readsRow)[32 + i]? = (r1_cX12_readsRow)[i]? := chn (A := a0_cX12_readsRow) (B := r1_cX12_readsRow) (n := 0) (k := 32) rfl (ch0 (R := r0_cX12_readsRow))
theorem q2_cX12_readsRow : ∀ i, (r0_cX12_readsRow)[64 + i]? = (r2_cX12_readsRow)[i]? := chn (A := a1_cX12_readsRow) (B := r2_cX12_readsRow) (n := 32) (k := 32) rfl q1_cX12_readsRow
theorem q3_cX12_readsRow : ∀ i, (r0_cX12_readsRow)[96 + i]? = (r3_cX12_readsRow)[i]? := chn (A := a2_cX12_readsRow) (B := r3_cX12_readsRow) (n := 64) (k := 32) rfl q2_cX12_readsRow
theorem q4_cX12_readsRow : ∀ i, (r0_cX12_readsRow)[128 + i]? = (r4_cX12_readsRow)[i]? := chn (A := a3_cX12_readsRow) (B := r4_cX12_readsRow) (n := 96) (k := 32) rfl q3_cX12_readsRow
theorem q5_cX12_readsRow : ∀ i, (r0_cX12_readsRow)[160 + i]? = (r5_cX12_readsRow)[i]? := chn (A := a4_cX12_readsRow) (B := r5_cX12_readsRow) (n := 128) (k := 32) rfl q4_cX12_readsRow
theorem q6_cX12_readsRow : ∀ i, (r0_cX12_readsRow)[192 + i]? = (r6_cX12_readsRow)[i]? := chn (A := a5_cX12_readsRow) (B := r6_cX12_readsRow) (n := 160) (k := 32) rfl q5_cX12_readsRow
theorem dX12_readsRow_0 : decode cX12_readsRow 0 = .ok (.aload_n 0, 1) := dc_42 (gB_l lq_cX12_readsRow (p := 0) (o := 42) rfl)
theorem dX12_readsRow_1 : decode cX12_readsRow 1 = .ok (.invokevirtual 130, 3) := dc_182 (gB_l lq_cX12_readsRow (p := 1) (o := 182) rfl) (gB_l lq_cX12_readsRow (p := 2) (o := 0) rfl) (gB_l lq_cX12_readsRow (p := 3) (o := 130) rfl) rfl
theorem dX12_readsRow_4 : decode cX12_readsRow 4 = .ok (.iconst 0, 1) := dc_3 (gB_l lq_cX12_readsRow (p := 4) (o := 3) rfl)
theorem dX12_readsRow_5 : decode cX12_readsRow 5 = .ok (.istore_n 2, 1) := dc_61 (gB_l lq_cX12_readsRow (p := 5) (o := 61) rfl)
theorem dX12_readsRow_6 : decode cX12_readsRow 6 = .ok (.aload_n 0, 1) := dc_42 (gB_l lq_cX12_readsRow (p := 6) (o := 42) rfl)
theorem dX12_readsRow_7 : decode cX12_readsRow 7 = .ok (.getfield 103, 3) := dc_180 (gB_l lq_cX12_readsRow (p := 7) (o := 180) rfl) (gB_l lq_cX12_readsRow (p := 8) (o := 0) rfl) (gB_l lq_cX12_readsRow (p := 9) (o := 103) rfl) rfl
theorem dX12_readsRow_10 : decode cX12_readsRow 10 = .ok (.aload_n 0, 1) := dc_42 (gB_l lq_cX12_readsRow (p := 10) (o := 42) rfl)
theorem dX12_readsRow_11 : decode cX12_readsRow 11 = .ok (.getfield 109, 3) := dc_180 (gB_l lq_cX12_readsRow (p := 11) (o := 180) rfl) (gB_l lq_cX12_readsRow (p := 12) (o := 0) rfl) (gB_l lq_cX12_readsRow (p := 13) (o := 109) rfl) rfl
theorem dX12_readsRow_14 : decode cX12_readsRow 14 = .ok (.isub, 1) := dc_100 (gB_l lq_cX12_readsRow (p := 14) (o := 100) rfl)
theorem dX12_readsRow_15 : decode cX12_readsRow 15 = .ok (.aload_n 0, 1) := dc_42 (gB_l lq_cX12_readsRow (p := 15) (o := 42) rfl)
theorem dX12_readsRow_16 : decode cX12_readsRow 16 = .ok (.iload_n 1, 1) := dc_27 (gB_l lq_cX12_readsRow (p := 16) (o := 27) rfl)
theorem dX12_readsRow_17 : decode cX12_readsRow 17 = .ok (.invokevirtual 63, 3) := dc_182 (gB_l lq_cX12_readsRow (p := 17) (o := 182) rfl) (gB_l lq_cX12_readsRow (p := 18) (o := 0) rfl) (gB_l lq_cX12_readsRow (p := 19) (o := 63) rfl) rfl
theorem dX12_readsRow_20 : decode cX12_readsRow 20 = .ok (.if_icmp .ne 7, 3) := dc_160 (gB_l lq_cX12_readsRow (p := 20) (o := 160) rfl) (gB_l lq_cX12_readsRow (p := 21) (o := 0) rfl) (gB_l lq_cX12_readsRow (p := 22) (o := 7) rfl) rfl
theorem dX12_readsRow_23 : decode cX12_readsRow 23 = .ok (.iconst 1, 1) := dc_4 (gB_l lq_cX12_readsRow (p := 23) (o := 4) rfl)
theorem dX12_readsRow_24 : decode cX12_readsRow 24 = .ok (.goto 4, 3) := dc_167 (gB_l lq_cX12_readsRow (p := 24) (o := 167) rfl) (gB_l lq_cX12_readsRow (p := 25) (o := 0) rfl) (gB_l lq_cX12_readsRow (p := 26) (o := 4) rfl) rfl
theorem dX12_readsRow_27 : decode cX12_readsRow 27 = .ok (.iconst 0, 1) := dc_3 (gB_l lq_cX12_readsRow (p := 27) (o := 3) rfl)
theorem dX12_readsRow_28 : decode cX12_readsRow 28 = .ok (.istore_n 3, 1) := dc_62 (gB_l lq_cX12_readsRow (p := 28) (o := 62) rfl)
theorem dX12_readsRow_29 : decode cX12_readsRow 29 = .ok (.aload_n 0, 1) := dc_42 (gB_l lq_cX12_readsRow (p := 29) (o := 42) rfl)
theorem dX12_readsRow_30 : decode cX12_readsRow 30 = .ok (.getfield 109, 3) := dc_180 (gB_l lq_cX12_readsRow (p := 30) (o := 180) rfl) (gB_l lq_cX12_readsRow (p := 31) (o := 0) rfl) (gB_c lq_cX12_readsRow q1_cX12_readsRow 0 (o := 109) rfl) rfl
theorem dX12_readsRow_33 : decode cX12_readsRow 33 = .ok (.istore 4, 2) := dc_54 (gB_c lq_cX12_readsRow q1_cX12_readsRow 1 (o := 54) rfl) (gB_c lq_cX12_readsRow q1_cX12_readsRow 2 (o := 4) rfl)
theorem dX12_readsRow_35 : decode cX12_readsRow 35 = .ok (.iload 4, 2) := dc_21 (gB_c lq_cX12_readsRow q1_cX12_readsRow 3 (o := 21) rfl) (gB_c lq_cX12_readsRow q1_cX12_readsRow 4 (o := 4) rfl)
theorem dX12_readsRow_37 : decode cX12_readsRow 37 = .ok (.aload_n 0, 1) := dc_42 (gB_c lq_cX12_readsRow q1_cX12_readsRow 5 (o := 42) rfl)
theorem dX12_readsRow_38 : decode cX12_readsRow 38 = .ok (.getfield 103, 3) := dc_180 (gB_c lq_cX12_readsRow q1_cX12_readsRow 6 (o := 180) rfl) (gB_c lq_cX12_readsRow q1_cX12_readsRow 7 (o := 0) rfl) (gB_c lq_cX12_readsRow q1_cX12_readsRow 8 (o := 103) rfl) rfl
theorem dX12_readsRow_41 : decode cX12_readsRow 41 = .ok (.if_icmp .ge 65, 3) := dc_162 (gB_c lq_cX12_readsRow q1_cX12_readsRow 9 (o := 162) rfl) (gB_c lq_cX12_readsRow q1_cX12_readsRow 10 (o := 0) rfl) (gB_c lq_cX12_readsRow q1_cX12_readsRow 11 (o := 65) rfl) rfl
theorem dX12_readsRow_44 : decode cX12_readsRow 44 = .ok (.aload_n 0, 1) := dc_42 (gB_c lq_cX12_readsRow q1_cX12_readsRow 12 (o := 42) rfl)
theorem dX12_readsRow_45 : decode cX12_readsRow 45 = .ok (.getfield 115, 3) := dc_180 (gB_c lq_cX12_readsRow q1_cX12_readsRow 13 (o := 180) rfl) (gB_c lq_cX12_readsRow q1_cX12_readsRow 14 (o := 0) rfl) (gB_c lq_cX12_readsRow q1_cX12_readsRow 15 (o := 115) rfl) rfl
theorem dX12_readsRow_48 : decode cX12_readsRow 48 = .ok (.iconst 2, 1) := dc_5 (gB_c lq_cX12_readsRow q1_cX12_readsRow 16 (o := 5) rfl)
theorem dX12_readsRow_49 : decode cX12_readsRow 49 = .ok (.if_icmp .ne 57, 3) := dc_160 (gB_c lq_cX12_readsRow q1_cX12_readsRow 17 (o := 160) rfl) (gB_c lq_cX12_readsRow q1_cX12_readsRow 18 (o := 0) rfl) (gB_c lq_cX12_readsRow q1_cX12_readsRow 19 (o := 57) rfl) rfl
theorem dX12_readsRow_52 : decode cX12_readsRow 52 = .ok (.aload_n 0, 1) := dc_42 (gB_c lq_cX12_readsRow q1_cX12_readsRow 20 (o := 42) rfl)
theorem dX12_readsRow_53 : decode cX12_readsRow 53 = .ok (.getfield 19, 3) := dc_180 (gB_c lq_cX12_readsRow q1_cX12_readsRow 21 (o := 180) rfl) (gB_c lq_cX12_readsRow q1_cX12_readsRow 22 (o := 0) rfl) (gB_c lq_cX12_readsRow q1_cX12_readsRow 23 (o := 19) rfl) rfl
theorem dX12_readsRow_56 : decode cX12_readsRow 56 = .ok (.iload 4, 2) := dc_21 (gB_c lq_cX12_readsRow q1_cX12_readsRow 24 (o := 21) rfl) (gB_c lq_cX12_readsRow q1_cX12_readsRow 25 (o := 4) rfl)
theorem dX12_readsRow_58 : decode cX12_readsRow 58 = .ok (.iaload, 1) := dc_46 (gB_c lq_cX12_readsRow q1_cX12_readsRow 26 (o := 46) rfl)
theorem dX12_readsRow_59 : decode cX12_readsRow 59 = .ok (.bipush 48, 2) := dc_16 (gB_c lq_cX12_readsRow q1_cX12_readsRow 27 (o := 16) rfl) (gB_c lq_cX12_readsRow q1_cX12_readsRow 28 (o := 48) rfl) rfl
theorem dX12_readsRow_61 : decode cX12_readsRow 61 = .ok (.isub, 1) := dc_100 (gB_c lq_cX12_readsRow q1_cX12_readsRow 29 (o := 100) rfl)
theorem dX12_readsRow_62 : decode cX12_readsRow 62 = .ok (.istore 5, 2) := dc_54 (gB_c lq_cX12_readsRow q1_cX12_readsRow 30 (o := 54) rfl) (gB_c lq_cX12_readsRow q1_cX12_readsRow 31 (o := 5) rfl)
theorem dX12_readsRow_64 : decode cX12_readsRow 64 = .ok (.iload_n 3, 1) := dc_29 (gB_c lq_cX12_readsRow q2_cX12_readsRow 0 (o := 29) rfl)
theorem dX12_readsRow_65 : decode cX12_readsRow 65 = .ok (.ifCond .eq 26, 3) := dc_153 (gB_c lq_cX12_readsRow q2_cX12_readsRow 1 (o := 153) rfl) (gB_c lq_cX12_readsRow q2_cX12_readsRow 2 (o := 0) rfl) (gB_c lq_cX12_readsRow q2_cX12_readsRow 3 (o := 26) rfl) rfl
theorem dX12_readsRow_68 : decode cX12_readsRow 68 = .ok (.iload 5, 2) := dc_21 (gB_c lq_cX12_readsRow q2_cX12_readsRow 4 (o := 21) rfl) (gB_c lq_cX12_readsRow q2_cX12_readsRow 5 (o := 5) rfl)
theorem dX12_readsRow_70 : decode cX12_readsRow 70 = .ok (.aload_n 0, 1) := dc_42 (gB_c lq_cX12_readsRow q2_cX12_readsRow 6 (o := 42) rfl)
theorem dX12_readsRow_71 : decode cX12_readsRow 71 = .ok (.iload_n 1, 1) := dc_27 (gB_c lq_cX12_readsRow q2_cX12_readsRow 7 (o := 27) rfl)
theorem dX12_readsRow_72 : decode cX12_readsRow 72 = .ok (.invokevirtual 63, 3) := dc_182 (gB_c lq_cX12_readsRow q2_cX12_readsRow 8 (o := 182) rfl) (gB_c lq_cX12_readsRow q2_cX12_readsRow 9 (o := 0) rfl) (gB_c lq_cX12_readsRow q2_cX12_readsRow 10 (o := 63) rfl) rfl
theorem dX12_readsRow_75 : decode cX12_readsRow 75 = .ok (.if_icmp .ge 16, 3) := dc_162 (gB_c lq_cX12_readsRow q2_cX12_readsRow 11 (o := 162) rfl) (gB_c lq_cX12_readsRow q2_cX12_readsRow 12 (o := 0) rfl) (gB_c lq_cX12_readsRow q2_cX12_readsRow 13 (o := 16) rfl) rfl
theorem dX12_readsRow_78 : decode cX12_readsRow 78 = .ok (.iload_n 2, 1) := dc_28 (gB_c lq_cX12_readsRow q2_cX12_readsRow 14 (o := 28) rfl)
theorem dX12_readsRow_79 : decode cX12_readsRow 79 = .ok (.iload 5, 2) := dc_21 (gB_c lq_cX12_readsRow q2_cX12_readsRow 15 (o := 21) rfl) (gB_c lq_cX12_readsRow q2_cX12_readsRow 16 (o := 5) rfl)
theorem dX12_readsRow_81 : decode cX12_readsRow 81 = .ok (.invokestatic 166, 3) := dc_184 (gB_c lq_cX12_readsRow q2_cX12_readsRow 17 (o := 184) rfl) (gB_c lq_cX12_readsRow q2_cX12_readsRow 18 (o := 0) rfl) (gB_c lq_cX12_readsRow q2_cX12_readsRow 19 (o := 166) rfl) rfl
theorem dX12_readsRow_84 : decode cX12_readsRow 84 = .ok (.ifCond .ne 7, 3) := dc_154 (gB_c lq_cX12_readsRow q2_cX12_readsRow 20 (o := 154) rfl) (gB_c lq_cX12_readsRow q2_cX12_readsRow 21 (o := 0) rfl) (gB_c lq_cX12_readsRow q2_cX12_readsRow 22 (o := 7) rfl) rfl
theorem dX12_readsRow_87 : decode cX12_readsRow 87 = .ok (.iconst 1, 1) := dc_4 (gB_c lq_cX12_readsRow q2_cX12_readsRow 23 (o := 4) rfl)
theorem dX12_readsRow_88 : decode cX12_readsRow 88 = .ok (.goto 4, 3) := dc_167 (gB_c lq_cX12_readsRow q2_cX12_readsRow 24 (o := 167) rfl) (gB_c lq_cX12_readsRow q2_cX12_readsRow 25 (o := 0) rfl) (gB_c lq_cX12_readsRow q2_cX12_readsRow 26 (o := 4) rfl) rfl
theorem dX12_readsRow_91 : decode cX12_readsRow 91 = .ok (.iconst 0, 1) := dc_3 (gB_c lq_cX12_readsRow q2_cX12_readsRow 27 (o := 3) rfl)
theorem dX12_readsRow_92 : decode cX12_readsRow 92 = .ok (.istore_n 3, 1) := dc_62 (gB_c lq_cX12_readsRow q2_cX12_readsRow 28 (o := 62) rfl)
theorem dX12_readsRow_93 : decode cX12_readsRow 93 = .ok (.iload_n 2, 1) := dc_28 (gB_c lq_cX12_readsRow q2_cX12_readsRow 29 (o := 28) rfl)
theorem dX12_readsRow_94 : decode cX12_readsRow 94 = .ok (.iconst 1, 1) := dc_4 (gB_c lq_cX12_readsRow q2_cX12_readsRow 30 (o := 4) rfl)
theorem dX12_readsRow_95 : decode cX12_readsRow 95 = .ok (.iload 5, 2) := dc_21 (gB_c lq_cX12_readsRow q2_cX12_readsRow 31 (o := 21) rfl) (gB_c lq_cX12_readsRow q3_cX12_readsRow 0 (o := 5) rfl)
theorem dX12_readsRow_97 : decode cX12_readsRow 97 = .ok (.ishl, 1) := dc_120 (gB_c lq_cX12_readsRow q3_cX12_readsRow 1 (o := 120) rfl)
theorem dX12_readsRow_98 : decode cX12_readsRow 98 = .ok (.ior, 1) := dc_128 (gB_c lq_cX12_readsRow q3_cX12_readsRow 2 (o := 128) rfl)
theorem dX12_readsRow_99 : decode cX12_readsRow 99 = .ok (.istore_n 2, 1) := dc_61 (gB_c lq_cX12_readsRow q3_cX12_readsRow 3 (o := 61) rfl)
theorem dX12_readsRow_100 : decode cX12_readsRow 100 = .ok (.iinc 4 1, 3) := dc_132 (gB_c lq_cX12_readsRow q3_cX12_readsRow 4 (o := 132) rfl) (gB_c lq_cX12_readsRow q3_cX12_readsRow 5 (o := 4) rfl) (gB_c lq_cX12_readsRow q3_cX12_readsRow 6 (o := 1) rfl) rfl
theorem dX12_readsRow_103 : decode cX12_readsRow 103 = .ok (.goto (-68), 3) := dc_167 (gB_c lq_cX12_readsRow q3_cX12_readsRow 7 (o := 167) rfl) (gB_c lq_cX12_readsRow q3_cX12_readsRow 8 (o := 255) rfl) (gB_c lq_cX12_readsRow q3_cX12_readsRow 9 (o := 188) rfl) rfl
theorem dX12_readsRow_106 : decode cX12_readsRow 106 = .ok (.aload_n 0, 1) := dc_42 (gB_c lq_cX12_readsRow q3_cX12_readsRow 10 (o := 42) rfl)
theorem dX12_readsRow_107 : decode cX12_readsRow 107 = .ok (.getfield 115, 3) := dc_180 (gB_c lq_cX12_readsRow q3_cX12_readsRow 11 (o := 180) rfl) (gB_c lq_cX12_readsRow q3_cX12_readsRow 12 (o := 0) rfl) (gB_c lq_cX12_readsRow q3_cX12_readsRow 13 (o := 115) rfl) rfl
theorem dX12_readsRow_110 : decode cX12_readsRow 110 = .ok (.iconst 2, 1) := dc_5 (gB_c lq_cX12_readsRow q3_cX12_readsRow 14 (o := 5) rfl)
theorem dX12_readsRow_111 : decode cX12_readsRow 111 = .ok (.if_icmp .eq 11, 3) := dc_159 (gB_c lq_cX12_readsRow q3_cX12_readsRow 15 (o := 159) rfl) (gB_c lq_cX12_readsRow q3_cX12_readsRow 16 (o := 0) rfl) (gB_c lq_cX12_readsRow q3_cX12_readsRow 17 (o := 11) rfl) rfl
theorem dX12_readsRow_114 : decode cX12_readsRow 114 = .ok (.aload_n 0, 1) := dc_42 (gB_c lq_cX12_readsRow q3_cX12_readsRow 18 (o := 42) rfl)
theorem dX12_readsRow_115 : decode cX12_readsRow 115 = .ok (.iconst 1, 1) := dc_4 (gB_c lq_cX12_readsRow q3_cX12_readsRow 19 (o := 4) rfl)
theorem dX12_readsRow_116 : decode cX12_readsRow 116 = .ok (.invokevirtual 143, 3) := dc_182 (gB_c lq_cX12_readsRow q3_cX12_readsRow 20 (o := 182) rfl) (gB_c lq_cX12_readsRow q3_cX12_readsRow 21 (o := 0) rfl) (gB_c lq_cX12_readsRow q3_cX12_readsRow 22 (o := 143) rfl) rfl
theorem dX12_readsRow_119 : decode cX12_readsRow 119 = .ok (.goto 12, 3) := dc_167 (gB_c lq_cX12_readsRow q3_cX12_readsRow 23 (o := 167) rfl) (gB_c lq_cX12_readsRow q3_cX12_readsRow 24 (o := 0) rfl) (gB_c lq_cX12_readsRow q3_cX12_readsRow 25 (o := 12) rfl) rfl
theorem dX12_readsRow_122 : decode cX12_readsRow 122 = .ok (.iload_n 3, 1) := dc_29 (gB_c lq_cX12_readsRow q3_cX12_readsRow 26 (o := 29) rfl)
theorem dX12_readsRow_123 : decode cX12_readsRow 123 = .ok (.ifCond .ne 8, 3) := dc_154 (gB_c lq_cX12_readsRow q3_cX12_readsRow 27 (o := 154) rfl) (gB_c lq_cX12_readsRow q3_cX12_readsRow 28 (o := 0) rfl) (gB_c lq_cX12_readsRow q3_cX12_readsRow 29 (o := 8) rfl) rfl
theorem dX12_readsRow_126 : decode cX12_readsRow 126 = .ok (.aload_n 0, 1) := dc_42 (gB_c lq_cX12_readsRow q3_cX12_readsRow 30 (o := 42) rfl)
theorem dX12_readsRow_127 : decode cX12_readsRow 127 = .ok (.iconst 5, 1) := dc_8 (gB_c lq_cX12_readsRow q3_cX12_readsRow 31 (o := 8) rfl)
theorem dX12_readsRow_128 : decode cX12_readsRow 128 = .ok (.invokevirtual 143, 3) := dc_182 (gB_c lq_cX12_readsRow q4_cX12_readsRow 0 (o := 182) rfl) (gB_c lq_cX12_readsRow q4_cX12_readsRow 1 (o := 0) rfl) (gB_c lq_cX12_readsRow q4_cX12_readsRow 2 (o := 143) rfl) rfl
theorem dX12_readsRow_131 : decode cX12_readsRow 131 = .ok (.iconst 0, 1) := dc_3 (gB_c lq_cX12_readsRow q4_cX12_readsRow 3 (o := 3) rfl)
theorem dX12_readsRow_132 : decode cX12_readsRow 132 = .ok (.istore 4, 2) := dc_54 (gB_c lq_cX12_readsRow q4_cX12_readsRow 4 (o := 54) rfl) (gB_c lq_cX12_readsRow q4_cX12_readsRow 5 (o := 4) rfl)
theorem dX12_readsRow_134 : decode cX12_readsRow 134 = .ok (.iload 4, 2) := dc_21 (gB_c lq_cX12_readsRow q4_cX12_readsRow 6 (o := 21) rfl) (gB_c lq_cX12_readsRow q4_cX12_readsRow 7 (o := 4) rfl)
theorem dX12_readsRow_136 : decode cX12_readsRow 136 = .ok (.aload_n 0, 1) := dc_42 (gB_c lq_cX12_readsRow q4_cX12_readsRow 8 (o := 42) rfl)
theorem dX12_readsRow_137 : decode cX12_readsRow 137 = .ok (.iload_n 1, 1) := dc_27 (gB_c lq_cX12_readsRow q4_cX12_readsRow 9 (o := 27) rfl)
theorem dX12_readsRow_138 : decode cX12_readsRow 138 = .ok (.invokevirtual 63, 3) := dc_182 (gB_c lq_cX12_readsRow q4_cX12_readsRow 10 (o := 182) rfl) (gB_c lq_cX12_readsRow q4_cX12_readsRow 11 (o := 0) rfl) (gB_c lq_cX12_readsRow q4_cX12_readsRow 12 (o := 63) rfl) rfl
theorem dX12_readsRow_141 : decode cX12_readsRow 141 = .ok (.if_icmp .ge 38, 3) := dc_162 (gB_c lq_cX12_readsRow q4_cX12_readsRow 13 (o := 162) rfl) (gB_c lq_cX12_readsRow q4_cX12_readsRow 14 (o := 0) rfl) (gB_c lq_cX12_readsRow q4_cX12_readsRow 15 (o := 38) rfl) rfl
theorem dX12_readsRow_144 : decode cX12_readsRow 144 = .ok (.aload_n 0, 1) := dc_42 (gB_c lq_cX12_readsRow q4_cX12_readsRow 16 (o := 42) rfl)
theorem dX12_readsRow_145 : decode cX12_readsRow 145 = .ok (.getfield 123, 3) := dc_180 (gB_c lq_cX12_readsRow q4_cX12_readsRow 17 (o := 180) rfl) (gB_c lq_cX12_readsRow q4_cX12_readsRow 18 (o := 0) rfl) (gB_c lq_cX12_readsRow q4_cX12_readsRow 19 (o := 123) rfl) rfl
theorem dX12_readsRow_148 : decode cX12_readsRow 148 = .ok (.ifCond .ne 31, 3) := dc_154 (gB_c lq_cX12_readsRow q4_cX12_readsRow 20 (o := 154) rfl) (gB_c lq_cX12_readsRow q4_cX12_readsRow 21 (o := 0) rfl) (gB_c lq_cX12_readsRow q4_cX12_readsRow 22 (o := 31) rfl) rfl
theorem dX12_readsRow_151 : decode cX12_readsRow 151 = .ok (.aload_n 0, 1) := dc_42 (gB_c lq_cX12_readsRow q4_cX12_readsRow 23 (o := 42) rfl)
theorem dX12_readsRow_152 : decode cX12_readsRow 152 = .ok (.iload_n 1, 1) := dc_27 (gB_c lq_cX12_readsRow q4_cX12_readsRow 24 (o := 27) rfl)
theorem dX12_readsRow_153 : decode cX12_readsRow 153 = .ok (.iload 4, 2) := dc_21 (gB_c lq_cX12_readsRow q4_cX12_readsRow 25 (o := 21) rfl) (gB_c lq_cX12_readsRow q4_cX12_readsRow 26 (o := 4) rfl)
theorem dX12_readsRow_155 : decode cX12_readsRow 155 = .ok (.aload_n 0, 1) := dc_42 (gB_c lq_cX12_readsRow q4_cX12_readsRow 27 (o := 42) rfl)
theorem dX12_readsRow_156 : decode cX12_readsRow 156 = .ok (.getfield 19, 3) := dc_180 (gB_c lq_cX12_readsRow q4_cX12_readsRow 28 (o := 180) rfl) (gB_c lq_cX12_readsRow q4_cX12_readsRow 29 (o := 0) rfl) (gB_c lq_cX12_readsRow q4_cX12_readsRow 30 (o := 19) rfl) rfl
theorem dX12_readsRow_159 : decode cX12_readsRow 159 = .ok (.aload_n 0, 1) := dc_42 (gB_c lq_cX12_readsRow q4_cX12_readsRow 31 (o := 42) rfl)
theorem dX12_readsRow_160 : decode cX12_readsRow 160 = .ok (.getfield 109, 3) := dc_180 (gB_c lq_cX12_readsRow q5_cX12_readsRow 0 (o := 180) rfl) (gB_c lq_cX12_readsRow q5_cX12_readsRow 1 (o := 0) rfl) (gB_c lq_cX12_readsRow q5_cX12_readsRow 2 (o := 109) rfl) rfl
theorem dX12_readsRow_163 : decode cX12_readsRow 163 = .ok (.iload 4, 2) := dc_21 (gB_c lq_cX12_readsRow q5_cX12_readsRow 3 (o := 21) rfl) (gB_c lq_cX12_readsRow q5_cX12_readsRow 4 (o := 4) rfl)
theorem dX12_readsRow_165 : decode cX12_readsRow 165 = .ok (.iadd, 1) := dc_96 (gB_c lq_cX12_readsRow q5_cX12_readsRow 5 (o := 96) rfl)
theorem dX12_readsRow_166 : decode cX12_readsRow 166 = .ok (.iaload, 1) := dc_46 (gB_c lq_cX12_readsRow q5_cX12_readsRow 6 (o := 46) rfl)
theorem dX12_readsRow_167 : decode cX12_readsRow 167 = .ok (.bipush 48, 2) := dc_16 (gB_c lq_cX12_readsRow q5_cX12_readsRow 7 (o := 16) rfl) (gB_c lq_cX12_readsRow q5_cX12_readsRow 8 (o := 48) rfl) rfl
theorem dX12_readsRow_169 : decode cX12_readsRow 169 = .ok (.isub, 1) := dc_100 (gB_c lq_cX12_readsRow q5_cX12_readsRow 9 (o := 100) rfl)
theorem dX12_readsRow_170 : decode cX12_readsRow 170 = .ok (.invokevirtual 169, 3) := dc_182 (gB_c lq_cX12_readsRow q5_cX12_readsRow 10 (o := 182) rfl) (gB_c lq_cX12_readsRow q5_cX12_readsRow 11 (o := 0) rfl) (gB_c lq_cX12_readsRow q5_cX12_readsRow 12 (o := 169) rfl) rfl
theorem dX12_readsRow_173 : decode cX12_readsRow 173 = .ok (.iinc 4 1, 3) := dc_132 (gB_c lq_cX12_readsRow q5_cX12_readsRow 13 (o := 132) rfl) (gB_c lq_cX12_readsRow q5_cX12_readsRow 14 (o := 4) rfl) (gB_c lq_cX12_readsRow q5_cX12_readsRow 15 (o := 1) rfl) rfl
theorem dX12_readsRow_176 : decode cX12_readsRow 176 = .ok (.goto (-42), 3) := dc_167 (gB_c lq_cX12_readsRow q5_cX12_readsRow 16 (o := 167) rfl) (gB_c lq_cX12_readsRow q5_cX12_readsRow 17 (o := 255) rfl) (gB_c lq_cX12_readsRow q5_cX12_readsRow 18 (o := 214) rfl) rfl
theorem dX12_readsRow_179 : decode cX12_readsRow 179 = .ok (.aload_n 0, 1) := dc_42 (gB_c lq_cX12_readsRow q5_cX12_readsRow 19 (o := 42) rfl)
theorem dX12_readsRow_180 : decode cX12_readsRow 180 = .ok (.invokevirtual 146, 3) := dc_182 (gB_c lq_cX12_readsRow q5_cX12_readsRow 20 (o := 182) rfl) (gB_c lq_cX12_readsRow q5_cX12_readsRow 21 (o := 0) rfl) (gB_c lq_cX12_readsRow q5_cX12_readsRow 22 (o := 146) rfl) rfl
theorem dX12_readsRow_183 : decode cX12_readsRow 183 = .ok (.aload_n 0, 1) := dc_42 (gB_c lq_cX12_readsRow q5_cX12_readsRow 23 (o := 42) rfl)
theorem dX12_readsRow_184 : decode cX12_readsRow 184 = .ok (.aload_n 0, 1) := dc_42 (gB_c lq_cX12_readsRow q5_cX12_readsRow 24 (o := 42) rfl)
theorem dX12_readsRow_185 : decode cX12_readsRow 185 = .ok (.bipush 59, 2) := dc_16 (gB_c lq_cX12_readsRow q5_cX12_readsRow 25 (o := 16) rfl) (gB_c lq_cX12_readsRow q5_cX12_readsRow 26 (o := 59) rfl) rfl
theorem dX12_readsRow_187 : decode cX12_readsRow 187 = .ok (.invokevirtual 155, 3) := dc_182 (gB_c lq_cX12_readsRow q5_cX12_readsRow 27 (o := 182) rfl) (gB_c lq_cX12_readsRow q5_cX12_readsRow 28 (o := 0) rfl) (gB_c lq_cX12_readsRow q5_cX12_readsRow 29 (o := 155) rfl) rfl
theorem dX12_readsRow_190 : decode cX12_readsRow 190 = .ok (.invokevirtual 158, 3) := dc_182 (gB_c lq_cX12_readsRow q5_cX12_readsRow 30 (o := 182) rfl) (gB_c lq_cX12_readsRow q5_cX12_readsRow 31 (o := 0) rfl) (gB_c lq_cX12_readsRow q6_cX12_readsRow 0 (o := 158) rfl) rfl
theorem dX12_readsRow_193 : decode cX12_readsRow 193 = .ok (.return_, 1) := dc_177 (gB_c lq_cX12_readsRow q6_cX12_readsRow 1 (o := 177) rfl)
abbrev r0_cX12_remembers : List Nat := [3, 60, 27, 17, 1, 17, 162, 0, 21, 42, 180, 0, 13, 27, 42, 180, 0, 7, 27, 46, 79, 132, 1, 1, 167, 255, 234, 177]
theorem lq_cX12_remembers : (cX12_remembers).data.toList.map UInt8.toNat = r0_cX12_remembers := by decide +kernel
theorem dX12_remembers_0 : decode cX12_remembers 0 = .ok (.iconst 0, 1) := dc_3 (gB_l lq_cX12_remembers (p := 0) (o := 3) rfl)
theorem dX12_remembers_1 : decode cX12_remembers 1 = .ok (.istore_n 1, 1) := dc_60 (gB_l lq_cX12_remembers (p := 1) (o := 60) rfl)
theorem dX12_remembers_2 : decode cX12_remembers 2 = .ok (.iload_n 1, 1) := dc_27 (gB_l lq_cX12_remembers (p := 2) (o := 27) rfl)
theorem dX12_remembers_3 : decode cX12_remembers 3 = .ok (.sipush 273, 3) := dc_17 (gB_l lq_cX12_remembers (p := 3) (o := 17) rfl) (gB_l lq_cX12_remembers (p := 4) (o := 1) rfl) (gB_l lq_cX12_remembers (p := 5) (o := 17) rfl) rfl
theorem dX12_remembers_6 : decode cX12_remembers 6 = .ok (.if_icmp .ge 21, 3) := dc_162 (gB_l lq_cX12_remembers (p := 6) (o := 162) rfl) (gB_l lq_cX12_remembers (p := 7) (o := 0) rfl) (gB_l lq_cX12_remembers (p := 8) (o := 21) rfl) rfl
theorem dX12_remembers_9 : decode cX12_remembers 9 = .ok (.aload_n 0, 1) := dc_42 (gB_l lq_cX12_remembers (p := 9) (o := 42) rfl)
theorem dX12_remembers_10 : decode cX12_remembers 10 = .ok (.getfield 13, 3) := dc_180 (gB_l lq_cX12_remembers (p := 10) (o := 180) rfl) (gB_l lq_cX12_remembers (p := 11) (o := 0) rfl) (gB_l lq_cX12_remembers (p := 12) (o := 13) rfl) rfl
theorem dX12_remembers_13 : decode cX12_remembers 13 = .ok (.iload_n 1, 1) := dc_27 (gB_l lq_cX12_remembers (p := 13) (o := 27) rfl)
theorem dX12_remembers_14 : decode cX12_remembers 14 = .ok (.aload_n 0, 1) := dc_42 (gB_l lq_cX12_remembers (p := 14) (o := 42) rfl)
theorem dX12_remembers_15 : decode cX12_remembers 15 = .ok (.getfield 7, 3) := dc_180 (gB_l lq_cX12_remembers (p := 15) (o := 180) rfl) (gB_l lq_cX12_remembers (p := 16) (o := 0) rfl) (gB_l lq_cX12_remembers (p := 17) (o := 7) rfl) rfl
theorem dX12_remembers_18 : decode cX12_remembers 18 = .ok (.iload_n 1, 1) := dc_27 (gB_l lq_cX12_remembers (p := 18) (o := 27) rfl)
theorem dX12_remembers_19 : decode cX12_remembers 19 = .ok (.iaload, 1) := dc_46 (gB_l lq_cX12_remembers (p := 19) (o := 46) rfl)
theorem dX12_remembers_20 : decode cX12_remembers 20 = .ok (.iastore, 1) := dc_79 (gB_l lq_cX12_remembers (p := 20) (o := 79) rfl)
theorem dX12_remembers_21 : decode cX12_remembers 21 = .ok (.iinc 1 1, 3) := dc_132 (gB_l lq_cX12_remembers (p := 21) (o := 132) rfl) (gB_l lq_cX12_remembers (p := 22) (o := 1) rfl) (gB_l lq_cX12_remembers (p := 23) (o := 1) rfl) rfl
theorem dX12_remembers_24 : decode cX12_remembers 24 = .ok (.goto (-22), 3) := dc_167 (gB_l lq_cX12_remembers (p := 24) (o := 167) rfl) (gB_l lq_cX12_remembers (p := 25) (o := 255) rfl) (gB_l lq_cX12_remembers (p := 26) (o := 234) rfl) rfl
theorem dX12_remembers_27 : decode cX12_remembers 27 = .ok (.return_, 1) := dc_177 (gB_l lq_cX12_remembers (p := 27) (o := 177) rfl)
abbrev r1_cX12_reverse : List Nat := [28, 42, 27, 182, 0, 63, 4, 100, 28, 100, 182, 1, 61, 132, 2, 1, 167, 255, 226, 42, 27, 182, 1, 64, 61, 42, 27, 3, 182, 0, 217, 172]
def a0_cX12_reverse : List Nat := [42, 27, 182, 0, 67, 154, 0, 6, 16, 254, 172, 42, 27, 182, 0, 248, 3, 61, 28, 42, 27, 182, 0, 63, 4, 100, 28, 100, 162, 0, 23, 42]
abbrev r0_cX12_reverse : List Nat := a0_cX12_reverse ++ r1_cX12_reverse
theorem lq_cX12_reverse : (cX12_reverse).data.toList.map UInt8.toNat = r0_cX12_reverse := by decide +kernel
theorem q1_cX12_reverse : ∀ i, (r0_cX12_reverse)[32 + i]? = (r1_cX12_reverse)[i]? := chn (A := a0_cX12_reverse) (B := r1_cX12_reverse) (n := 0) (k := 32) rfl (ch0 (R := r0_cX12_reverse))
theorem dX12_reverse_0 : decode cX12_reverse 0 = .ok (.aload_n 0, 1) := dc_42 (gB_l lq_cX12_reverse (p := 0) (o := 42) rfl)
theorem dX12_reverse_1 : decode cX12_reverse 1 = .ok (.iload_n 1, 1) := dc_27 (gB_l lq_cX12_reverse (p := 1) (o := 27) rfl)
theorem dX12_reverse_2 : decode cX12_reverse 2 = .ok (.invokevirtual 67, 3) := dc_182 (gB_l lq_cX12_reverse (p := 2) (o := 182) rfl) (gB_l lq_cX12_reverse (p := 3) (o := 0) rfl) (gB_l lq_cX12_reverse (p := 4) (o := 67) rfl) rfl
theorem dX12_reverse_5 : decode cX12_reverse 5 = .ok (.ifCond .ne 6, 3) := dc_154 (gB_l lq_cX12_reverse (p := 5) (o := 154) rfl) (gB_l lq_cX12_reverse (p := 6) (o := 0) rfl) (gB_l lq_cX12_reverse (p := 7) (o := 6) rfl) rfl
theorem dX12_reverse_8 : decode cX12_reverse 8 = .ok (.bipush (-2), 2) := dc_16 (gB_l lq_cX12_reverse (p := 8) (o := 16) rfl) (gB_l lq_cX12_reverse (p := 9) (o := 254) rfl) rfl
theorem dX12_reverse_10 : decode cX12_reverse 10 = .ok (.ireturn, 1) := dc_172 (gB_l lq_cX12_reverse (p := 10) (o := 172) rfl)
theorem dX12_reverse_11 : decode cX12_reverse 11 = .ok (.aload_n 0, 1) := dc_42 (gB_l lq_cX12_reverse (p := 11) (o := 42) rfl)
theorem dX12_reverse_12 : decode cX12_reverse 12 = .ok (.iload_n 1, 1) := dc_27 (gB_l lq_cX12_reverse (p := 12) (o := 27) rfl)
theorem dX12_reverse_13 : decode cX12_reverse 13 = .ok (.invokevirtual 248, 3) := dc_182 (gB_l lq_cX12_reverse (p := 13) (o := 182) rfl) (gB_l lq_cX12_reverse (p := 14) (o := 0) rfl) (gB_l lq_cX12_reverse (p := 15) (o := 248) rfl) rfl
theorem dX12_reverse_16 : decode cX12_reverse 16 = .ok (.iconst 0, 1) := dc_3 (gB_l lq_cX12_reverse (p := 16) (o := 3) rfl)
theorem dX12_reverse_17 : decode cX12_reverse 17 = .ok (.istore_n 2, 1) := dc_61 (gB_l lq_cX12_reverse (p := 17) (o := 61) rfl)
theorem dX12_reverse_18 : decode cX12_reverse 18 = .ok (.iload_n 2, 1) := dc_28 (gB_l lq_cX12_reverse (p := 18) (o := 28) rfl)
theorem dX12_reverse_19 : decode cX12_reverse 19 = .ok (.aload_n 0, 1) := dc_42 (gB_l lq_cX12_reverse (p := 19) (o := 42) rfl)
theorem dX12_reverse_20 : decode cX12_reverse 20 = .ok (.iload_n 1, 1) := dc_27 (gB_l lq_cX12_reverse (p := 20) (o := 27) rfl)
theorem dX12_reverse_21 : decode cX12_reverse 21 = .ok (.invokevirtual 63, 3) := dc_182 (gB_l lq_cX12_reverse (p := 21) (o := 182) rfl) (gB_l lq_cX12_reverse (p := 22) (o := 0) rfl) (gB_l lq_cX12_reverse (p := 23) (o := 63) rfl) rfl
theorem dX12_reverse_24 : decode cX12_reverse 24 = .ok (.iconst 1, 1) := dc_4 (gB_l lq_cX12_reverse (p := 24) (o := 4) rfl)
theorem dX12_reverse_25 : decode cX12_reverse 25 = .ok (.isub, 1) := dc_100 (gB_l lq_cX12_reverse (p := 25) (o := 100) rfl)
theorem dX12_reverse_26 : decode cX12_reverse 26 = .ok (.iload_n 2, 1) := dc_28 (gB_l lq_cX12_reverse (p := 26) (o := 28) rfl)
theorem dX12_reverse_27 : decode cX12_reverse 27 = .ok (.isub, 1) := dc_100 (gB_l lq_cX12_reverse (p := 27) (o := 100) rfl)
theorem dX12_reverse_28 : decode cX12_reverse 28 = .ok (.if_icmp .ge 23, 3) := dc_162 (gB_l lq_cX12_reverse (p := 28) (o := 162) rfl) (gB_l lq_cX12_reverse (p := 29) (o := 0) rfl) (gB_l lq_cX12_reverse (p := 30) (o := 23) rfl) rfl
theorem dX12_reverse_31 : decode cX12_reverse 31 = .ok (.aload_n 0, 1) := dc_42 (gB_l lq_cX12_reverse (p := 31) (o := 42) rfl)
theorem dX12_reverse_32 : decode cX12_reverse 32 = .ok (.iload_n 2, 1) := dc_28 (gB_c lq_cX12_reverse q1_cX12_reverse 0 (o := 28) rfl)
theorem dX12_reverse_33 : decode cX12_reverse 33 = .ok (.aload_n 0, 1) := dc_42 (gB_c lq_cX12_reverse q1_cX12_reverse 1 (o := 42) rfl)
theorem dX12_reverse_34 : decode cX12_reverse 34 = .ok (.iload_n 1, 1) := dc_27 (gB_c lq_cX12_reverse q1_cX12_reverse 2 (o := 27) rfl)
theorem dX12_reverse_35 : decode cX12_reverse 35 = .ok (.invokevirtual 63, 3) := dc_182 (gB_c lq_cX12_reverse q1_cX12_reverse 3 (o := 182) rfl) (gB_c lq_cX12_reverse q1_cX12_reverse 4 (o := 0) rfl) (gB_c lq_cX12_reverse q1_cX12_reverse 5 (o := 63) rfl) rfl
theorem dX12_reverse_38 : decode cX12_reverse 38 = .ok (.iconst 1, 1) := dc_4 (gB_c lq_cX12_reverse q1_cX12_reverse 6 (o := 4) rfl)
theorem dX12_reverse_39 : decode cX12_reverse 39 = .ok (.isub, 1) := dc_100 (gB_c lq_cX12_reverse q1_cX12_reverse 7 (o := 100) rfl)
theorem dX12_reverse_40 : decode cX12_reverse 40 = .ok (.iload_n 2, 1) := dc_28 (gB_c lq_cX12_reverse q1_cX12_reverse 8 (o := 28) rfl)
theorem dX12_reverse_41 : decode cX12_reverse 41 = .ok (.isub, 1) := dc_100 (gB_c lq_cX12_reverse q1_cX12_reverse 9 (o := 100) rfl)
theorem dX12_reverse_42 : decode cX12_reverse 42 = .ok (.invokevirtual 317, 3) := dc_182 (gB_c lq_cX12_reverse q1_cX12_reverse 10 (o := 182) rfl) (gB_c lq_cX12_reverse q1_cX12_reverse 11 (o := 1) rfl) (gB_c lq_cX12_reverse q1_cX12_reverse 12 (o := 61) rfl) rfl
theorem dX12_reverse_45 : decode cX12_reverse 45 = .ok (.iinc 2 1, 3) := dc_132 (gB_c lq_cX12_reverse q1_cX12_reverse 13 (o := 132) rfl) (gB_c lq_cX12_reverse q1_cX12_reverse 14 (o := 2) rfl) (gB_c lq_cX12_reverse q1_cX12_reverse 15 (o := 1) rfl) rfl
theorem dX12_reverse_48 : decode cX12_reverse 48 = .ok (.goto (-30), 3) := dc_167 (gB_c lq_cX12_reverse q1_cX12_reverse 16 (o := 167) rfl) (gB_c lq_cX12_reverse q1_cX12_reverse 17 (o := 255) rfl) (gB_c lq_cX12_reverse q1_cX12_reverse 18 (o := 226) rfl) rfl
theorem dX12_reverse_51 : decode cX12_reverse 51 = .ok (.aload_n 0, 1) := dc_42 (gB_c lq_cX12_reverse q1_cX12_reverse 19 (o := 42) rfl)
theorem dX12_reverse_52 : decode cX12_reverse 52 = .ok (.iload_n 1, 1) := dc_27 (gB_c lq_cX12_reverse q1_cX12_reverse 20 (o := 27) rfl)
theorem dX12_reverse_53 : decode cX12_reverse 53 = .ok (.invokevirtual 320, 3) := dc_182 (gB_c lq_cX12_reverse q1_cX12_reverse 21 (o := 182) rfl) (gB_c lq_cX12_reverse q1_cX12_reverse 22 (o := 1) rfl) (gB_c lq_cX12_reverse q1_cX12_reverse 23 (o := 64) rfl) rfl
theorem dX12_reverse_56 : decode cX12_reverse 56 = .ok (.istore_n 2, 1) := dc_61 (gB_c lq_cX12_reverse q1_cX12_reverse 24 (o := 61) rfl)
theorem dX12_reverse_57 : decode cX12_reverse 57 = .ok (.aload_n 0, 1) := dc_42 (gB_c lq_cX12_reverse q1_cX12_reverse 25 (o := 42) rfl)
theorem dX12_reverse_58 : decode cX12_reverse 58 = .ok (.iload_n 1, 1) := dc_27 (gB_c lq_cX12_reverse q1_cX12_reverse 26 (o := 27) rfl)
theorem dX12_reverse_59 : decode cX12_reverse 59 = .ok (.iconst 0, 1) := dc_3 (gB_c lq_cX12_reverse q1_cX12_reverse 27 (o := 3) rfl)
theorem dX12_reverse_60 : decode cX12_reverse 60 = .ok (.invokevirtual 217, 3) := dc_182 (gB_c lq_cX12_reverse q1_cX12_reverse 28 (o := 182) rfl) (gB_c lq_cX12_reverse q1_cX12_reverse 29 (o := 0) rfl) (gB_c lq_cX12_reverse q1_cX12_reverse 30 (o := 217) rfl) rfl
theorem dX12_reverse_63 : decode cX12_reverse 63 = .ok (.ireturn, 1) := dc_172 (gB_c lq_cX12_reverse q1_cX12_reverse 31 (o := 172) rfl)
abbrev r0_cX12_row : List Nat := [42, 27, 28, 182, 0, 70, 153, 0, 12, 42, 27, 28, 182, 0, 217, 167, 0, 5, 16, 254, 172]
theorem lq_cX12_row : (cX12_row).data.toList.map UInt8.toNat = r0_cX12_row := by decide +kernel
theorem dX12_row_0 : decode cX12_row 0 = .ok (.aload_n 0, 1) := dc_42 (gB_l lq_cX12_row (p := 0) (o := 42) rfl)
theorem dX12_row_1 : decode cX12_row 1 = .ok (.iload_n 1, 1) := dc_27 (gB_l lq_cX12_row (p := 1) (o := 27) rfl)
theorem dX12_row_2 : decode cX12_row 2 = .ok (.iload_n 2, 1) := dc_28 (gB_l lq_cX12_row (p := 2) (o := 28) rfl)
theorem dX12_row_3 : decode cX12_row 3 = .ok (.invokevirtual 70, 3) := dc_182 (gB_l lq_cX12_row (p := 3) (o := 182) rfl) (gB_l lq_cX12_row (p := 4) (o := 0) rfl) (gB_l lq_cX12_row (p := 5) (o := 70) rfl) rfl
theorem dX12_row_6 : decode cX12_row 6 = .ok (.ifCond .eq 12, 3) := dc_153 (gB_l lq_cX12_row (p := 6) (o := 153) rfl) (gB_l lq_cX12_row (p := 7) (o := 0) rfl) (gB_l lq_cX12_row (p := 8) (o := 12) rfl) rfl
theorem dX12_row_9 : decode cX12_row 9 = .ok (.aload_n 0, 1) := dc_42 (gB_l lq_cX12_row (p := 9) (o := 42) rfl)
theorem dX12_row_10 : decode cX12_row 10 = .ok (.iload_n 1, 1) := dc_27 (gB_l lq_cX12_row (p := 10) (o := 27) rfl)
theorem dX12_row_11 : decode cX12_row 11 = .ok (.iload_n 2, 1) := dc_28 (gB_l lq_cX12_row (p := 11) (o := 28) rfl)
theorem dX12_row_12 : decode cX12_row 12 = .ok (.invokevirtual 217, 3) := dc_182 (gB_l lq_cX12_row (p := 12) (o := 182) rfl) (gB_l lq_cX12_row (p := 13) (o := 0) rfl) (gB_l lq_cX12_row (p := 14) (o := 217) rfl) rfl
theorem dX12_row_15 : decode cX12_row 15 = .ok (.goto 5, 3) := dc_167 (gB_l lq_cX12_row (p := 15) (o := 167) rfl) (gB_l lq_cX12_row (p := 16) (o := 0) rfl) (gB_l lq_cX12_row (p := 17) (o := 5) rfl) rfl
theorem dX12_row_18 : decode cX12_row 18 = .ok (.bipush (-2), 2) := dc_16 (gB_l lq_cX12_row (p := 18) (o := 16) rfl) (gB_l lq_cX12_row (p := 19) (o := 254) rfl) rfl
theorem dX12_row_20 : decode cX12_row 20 = .ok (.ireturn, 1) := dc_172 (gB_l lq_cX12_row (p := 20) (o := 172) rfl)
abbrev r0_cX12_rowsOfBand : List Nat := [42, 3, 181, 1, 27, 42, 3, 181, 1, 30, 42, 27, 3, 3, 28, 29, 182, 1, 33, 54, 4, 42, 180, 1, 27, 172]
theorem lq_cX12_rowsOfBand : (cX12_rowsOfBand).data.toList.map UInt8.toNat = r0_cX12_rowsOfBand := by decide +kernel
theorem dX12_rowsOfBand_0 : decode cX12_rowsOfBand 0 = .ok (.aload_n 0, 1) := dc_42 (gB_l lq_cX12_rowsOfBand (p := 0) (o := 42) rfl)
theorem dX12_rowsOfBand_1 : decode cX12_rowsOfBand 1 = .ok (.iconst 0, 1) := dc_3 (gB_l lq_cX12_rowsOfBand (p := 1) (o := 3) rfl)
theorem dX12_rowsOfBand_2 : decode cX12_rowsOfBand 2 = .ok (.putfield 283, 3) := dc_181 (gB_l lq_cX12_rowsOfBand (p := 2) (o := 181) rfl) (gB_l lq_cX12_rowsOfBand (p := 3) (o := 1) rfl) (gB_l lq_cX12_rowsOfBand (p := 4) (o := 27) rfl) rfl
theorem dX12_rowsOfBand_5 : decode cX12_rowsOfBand 5 = .ok (.aload_n 0, 1) := dc_42 (gB_l lq_cX12_rowsOfBand (p := 5) (o := 42) rfl)
theorem dX12_rowsOfBand_6 : decode cX12_rowsOfBand 6 = .ok (.iconst 0, 1) := dc_3 (gB_l lq_cX12_rowsOfBand (p := 6) (o := 3) rfl)
theorem dX12_rowsOfBand_7 : decode cX12_rowsOfBand 7 = .ok (.putfield 286, 3) := dc_181 (gB_l lq_cX12_rowsOfBand (p := 7) (o := 181) rfl) (gB_l lq_cX12_rowsOfBand (p := 8) (o := 1) rfl) (gB_l lq_cX12_rowsOfBand (p := 9) (o := 30) rfl) rfl
theorem dX12_rowsOfBand_10 : decode cX12_rowsOfBand 10 = .ok (.aload_n 0, 1) := dc_42 (gB_l lq_cX12_rowsOfBand (p := 10) (o := 42) rfl)
theorem dX12_rowsOfBand_11 : decode cX12_rowsOfBand 11 = .ok (.iload_n 1, 1) := dc_27 (gB_l lq_cX12_rowsOfBand (p := 11) (o := 27) rfl)
theorem dX12_rowsOfBand_12 : decode cX12_rowsOfBand 12 = .ok (.iconst 0, 1) := dc_3 (gB_l lq_cX12_rowsOfBand (p := 12) (o := 3) rfl)
theorem dX12_rowsOfBand_13 : decode cX12_rowsOfBand 13 = .ok (.iconst 0, 1) := dc_3 (gB_l lq_cX12_rowsOfBand (p := 13) (o := 3) rfl)
theorem dX12_rowsOfBand_14 : decode cX12_rowsOfBand 14 = .ok (.iload_n 2, 1) := dc_28 (gB_l lq_cX12_rowsOfBand (p := 14) (o := 28) rfl)
theorem dX12_rowsOfBand_15 : decode cX12_rowsOfBand 15 = .ok (.iload_n 3, 1) := dc_29 (gB_l lq_cX12_rowsOfBand (p := 15) (o := 29) rfl)
theorem dX12_rowsOfBand_16 : decode cX12_rowsOfBand 16 = .ok (.invokevirtual 289, 3) := dc_182 (gB_l lq_cX12_rowsOfBand (p := 16) (o := 182) rfl) (gB_l lq_cX12_rowsOfBand (p := 17) (o := 1) rfl) (gB_l lq_cX12_rowsOfBand (p := 18) (o := 33) rfl) rfl
theorem dX12_rowsOfBand_19 : decode cX12_rowsOfBand 19 = .ok (.istore 4, 2) := dc_54 (gB_l lq_cX12_rowsOfBand (p := 19) (o := 54) rfl) (gB_l lq_cX12_rowsOfBand (p := 20) (o := 4) rfl)
theorem dX12_rowsOfBand_21 : decode cX12_rowsOfBand 21 = .ok (.aload_n 0, 1) := dc_42 (gB_l lq_cX12_rowsOfBand (p := 21) (o := 42) rfl)
theorem dX12_rowsOfBand_22 : decode cX12_rowsOfBand 22 = .ok (.getfield 283, 3) := dc_180 (gB_l lq_cX12_rowsOfBand (p := 22) (o := 180) rfl) (gB_l lq_cX12_rowsOfBand (p := 23) (o := 1) rfl) (gB_l lq_cX12_rowsOfBand (p := 24) (o := 27) rfl) rfl
theorem dX12_rowsOfBand_25 : decode cX12_rowsOfBand 25 = .ok (.ireturn, 1) := dc_172 (gB_l lq_cX12_rowsOfBand (p := 25) (o := 172) rfl)
abbrev r3_cX12_rowsOfLeast : List Nat := [0, 4, 3, 96, 79, 132, 3, 1, 167, 255, 182, 132, 2, 255, 167, 255, 151, 42, 180, 0, 32, 3, 46, 172]
def a2_cX12_rowsOfLeast : List Nat := [46, 42, 180, 0, 29, 28, 4, 29, 120, 128, 46, 96, 42, 180, 0, 29, 28, 46, 160, 0, 16, 42, 180, 0, 32, 28, 4, 29, 120, 128, 46, 167]
abbrev r2_cX12_rowsOfLeast : List Nat := a2_cX12_rowsOfLeast ++ r3_cX12_rowsOfLeast
def a1_cX12_rowsOfLeast : List Nat := [27, 182, 0, 63, 162, 0, 71, 42, 180, 0, 32, 28, 92, 46, 28, 29, 184, 0, 166, 154, 0, 47, 42, 180, 0, 35, 16, 9, 28, 104, 29, 96]
abbrev r1_cX12_rowsOfLeast : List Nat := a1_cX12_rowsOfLeast ++ r2_cX12_rowsOfLeast
def a0_cX12_rowsOfLeast : List Nat := [42, 180, 1, 10, 61, 28, 155, 0, 107, 42, 180, 0, 32, 28, 28, 42, 180, 1, 10, 160, 0, 7, 4, 167, 0, 4, 3, 79, 3, 62, 29, 42]
abbrev r0_cX12_rowsOfLeast : List Nat := a0_cX12_rowsOfLeast ++ r1_cX12_rowsOfLeast
theorem lq_cX12_rowsOfLeast : (cX12_rowsOfLeast).data.toList.map UInt8.toNat = r0_cX12_rowsOfLeast := by decide +kernel
theorem q1_cX12_rowsOfLeast : ∀ i, (r0_cX12_rowsOfLeast)[32 + i]? = (r1_cX12_rowsOfLeast)[i]? := chn (A := a0_cX12_rowsOfLeast) (B := r1_cX12_rowsOfLeast) (n := 0) (k := 32) rfl (ch0 (R := r0_cX12_rowsOfLeast))
theorem q2_cX12_rowsOfLeast : ∀ i, (r0_cX12_rowsOfLeast)[64 + i]? = (r2_cX12_rowsOfLeast)[i]? := chn (A := a1_cX12_rowsOfLeast) (B := r2_cX12_rowsOfLeast) (n := 32) (k := 32) rfl q1_cX12_rowsOfLeast
theorem q3_cX12_rowsOfLeast : ∀ i, (r0_cX12_rowsOfLeast)[96 + i]? = (r3_cX12_rowsOfLeast)[i]? := chn (A := a2_cX12_rowsOfLeast) (B := r3_cX12_rowsOfLeast) (n := 64) (k := 32) rfl q2_cX12_rowsOfLeast
theorem dX12_rowsOfLeast_0 : decode cX12_rowsOfLeast 0 = .ok (.aload_n 0, 1) := dc_42 (gB_l lq_cX12_rowsOfLeast (p := 0) (o := 42) rfl)
theorem dX12_rowsOfLeast_1 : decode cX12_rowsOfLeast 1 = .ok (.getfield 266, 3) := dc_180 (gB_l lq_cX12_rowsOfLeast (p := 1) (o := 180) rfl) (gB_l lq_cX12_rowsOfLeast (p := 2) (o := 1) rfl) (gB_l lq_cX12_rowsOfLeast (p := 3) (o := 10) rfl) rfl
theorem dX12_rowsOfLeast_4 : decode cX12_rowsOfLeast 4 = .ok (.istore_n 2, 1) := dc_61 (gB_l lq_cX12_rowsOfLeast (p := 4) (o := 61) rfl)
theorem dX12_rowsOfLeast_5 : decode cX12_rowsOfLeast 5 = .ok (.iload_n 2, 1) := dc_28 (gB_l lq_cX12_rowsOfLeast (p := 5) (o := 28) rfl)
theorem dX12_rowsOfLeast_6 : decode cX12_rowsOfLeast 6 = .ok (.ifCond .lt 107, 3) := dc_155 (gB_l lq_cX12_rowsOfLeast (p := 6) (o := 155) rfl) (gB_l lq_cX12_rowsOfLeast (p := 7) (o := 0) rfl) (gB_l lq_cX12_rowsOfLeast (p := 8) (o := 107) rfl) rfl
theorem dX12_rowsOfLeast_9 : decode cX12_rowsOfLeast 9 = .ok (.aload_n 0, 1) := dc_42 (gB_l lq_cX12_rowsOfLeast (p := 9) (o := 42) rfl)
theorem dX12_rowsOfLeast_10 : decode cX12_rowsOfLeast 10 = .ok (.getfield 32, 3) := dc_180 (gB_l lq_cX12_rowsOfLeast (p := 10) (o := 180) rfl) (gB_l lq_cX12_rowsOfLeast (p := 11) (o := 0) rfl) (gB_l lq_cX12_rowsOfLeast (p := 12) (o := 32) rfl) rfl
theorem dX12_rowsOfLeast_13 : decode cX12_rowsOfLeast 13 = .ok (.iload_n 2, 1) := dc_28 (gB_l lq_cX12_rowsOfLeast (p := 13) (o := 28) rfl)
theorem dX12_rowsOfLeast_14 : decode cX12_rowsOfLeast 14 = .ok (.iload_n 2, 1) := dc_28 (gB_l lq_cX12_rowsOfLeast (p := 14) (o := 28) rfl)
theorem dX12_rowsOfLeast_15 : decode cX12_rowsOfLeast 15 = .ok (.aload_n 0, 1) := dc_42 (gB_l lq_cX12_rowsOfLeast (p := 15) (o := 42) rfl)
theorem dX12_rowsOfLeast_16 : decode cX12_rowsOfLeast 16 = .ok (.getfield 266, 3) := dc_180 (gB_l lq_cX12_rowsOfLeast (p := 16) (o := 180) rfl) (gB_l lq_cX12_rowsOfLeast (p := 17) (o := 1) rfl) (gB_l lq_cX12_rowsOfLeast (p := 18) (o := 10) rfl) rfl
theorem dX12_rowsOfLeast_19 : decode cX12_rowsOfLeast 19 = .ok (.if_icmp .ne 7, 3) := dc_160 (gB_l lq_cX12_rowsOfLeast (p := 19) (o := 160) rfl) (gB_l lq_cX12_rowsOfLeast (p := 20) (o := 0) rfl) (gB_l lq_cX12_rowsOfLeast (p := 21) (o := 7) rfl) rfl
theorem dX12_rowsOfLeast_22 : decode cX12_rowsOfLeast 22 = .ok (.iconst 1, 1) := dc_4 (gB_l lq_cX12_rowsOfLeast (p := 22) (o := 4) rfl)
theorem dX12_rowsOfLeast_23 : decode cX12_rowsOfLeast 23 = .ok (.goto 4, 3) := dc_167 (gB_l lq_cX12_rowsOfLeast (p := 23) (o := 167) rfl) (gB_l lq_cX12_rowsOfLeast (p := 24) (o := 0) rfl) (gB_l lq_cX12_rowsOfLeast (p := 25) (o := 4) rfl) rfl
theorem dX12_rowsOfLeast_26 : decode cX12_rowsOfLeast 26 = .ok (.iconst 0, 1) := dc_3 (gB_l lq_cX12_rowsOfLeast (p := 26) (o := 3) rfl)
theorem dX12_rowsOfLeast_27 : decode cX12_rowsOfLeast 27 = .ok (.iastore, 1) := dc_79 (gB_l lq_cX12_rowsOfLeast (p := 27) (o := 79) rfl)
theorem dX12_rowsOfLeast_28 : decode cX12_rowsOfLeast 28 = .ok (.iconst 0, 1) := dc_3 (gB_l lq_cX12_rowsOfLeast (p := 28) (o := 3) rfl)
theorem dX12_rowsOfLeast_29 : decode cX12_rowsOfLeast 29 = .ok (.istore_n 3, 1) := dc_62 (gB_l lq_cX12_rowsOfLeast (p := 29) (o := 62) rfl)
theorem dX12_rowsOfLeast_30 : decode cX12_rowsOfLeast 30 = .ok (.iload_n 3, 1) := dc_29 (gB_l lq_cX12_rowsOfLeast (p := 30) (o := 29) rfl)
theorem dX12_rowsOfLeast_31 : decode cX12_rowsOfLeast 31 = .ok (.aload_n 0, 1) := dc_42 (gB_l lq_cX12_rowsOfLeast (p := 31) (o := 42) rfl)
theorem dX12_rowsOfLeast_32 : decode cX12_rowsOfLeast 32 = .ok (.iload_n 1, 1) := dc_27 (gB_c lq_cX12_rowsOfLeast q1_cX12_rowsOfLeast 0 (o := 27) rfl)
theorem dX12_rowsOfLeast_33 : decode cX12_rowsOfLeast 33 = .ok (.invokevirtual 63, 3) := dc_182 (gB_c lq_cX12_rowsOfLeast q1_cX12_rowsOfLeast 1 (o := 182) rfl) (gB_c lq_cX12_rowsOfLeast q1_cX12_rowsOfLeast 2 (o := 0) rfl) (gB_c lq_cX12_rowsOfLeast q1_cX12_rowsOfLeast 3 (o := 63) rfl) rfl
theorem dX12_rowsOfLeast_36 : decode cX12_rowsOfLeast 36 = .ok (.if_icmp .ge 71, 3) := dc_162 (gB_c lq_cX12_rowsOfLeast q1_cX12_rowsOfLeast 4 (o := 162) rfl) (gB_c lq_cX12_rowsOfLeast q1_cX12_rowsOfLeast 5 (o := 0) rfl) (gB_c lq_cX12_rowsOfLeast q1_cX12_rowsOfLeast 6 (o := 71) rfl) rfl
theorem dX12_rowsOfLeast_39 : decode cX12_rowsOfLeast 39 = .ok (.aload_n 0, 1) := dc_42 (gB_c lq_cX12_rowsOfLeast q1_cX12_rowsOfLeast 7 (o := 42) rfl)
theorem dX12_rowsOfLeast_40 : decode cX12_rowsOfLeast 40 = .ok (.getfield 32, 3) := dc_180 (gB_c lq_cX12_rowsOfLeast q1_cX12_rowsOfLeast 8 (o := 180) rfl) (gB_c lq_cX12_rowsOfLeast q1_cX12_rowsOfLeast 9 (o := 0) rfl) (gB_c lq_cX12_rowsOfLeast q1_cX12_rowsOfLeast 10 (o := 32) rfl) rfl
theorem dX12_rowsOfLeast_43 : decode cX12_rowsOfLeast 43 = .ok (.iload_n 2, 1) := dc_28 (gB_c lq_cX12_rowsOfLeast q1_cX12_rowsOfLeast 11 (o := 28) rfl)
theorem dX12_rowsOfLeast_44 : decode cX12_rowsOfLeast 44 = .ok (.dup2, 1) := dc_92 (gB_c lq_cX12_rowsOfLeast q1_cX12_rowsOfLeast 12 (o := 92) rfl)
theorem dX12_rowsOfLeast_45 : decode cX12_rowsOfLeast 45 = .ok (.iaload, 1) := dc_46 (gB_c lq_cX12_rowsOfLeast q1_cX12_rowsOfLeast 13 (o := 46) rfl)
theorem dX12_rowsOfLeast_46 : decode cX12_rowsOfLeast 46 = .ok (.iload_n 2, 1) := dc_28 (gB_c lq_cX12_rowsOfLeast q1_cX12_rowsOfLeast 14 (o := 28) rfl)
theorem dX12_rowsOfLeast_47 : decode cX12_rowsOfLeast 47 = .ok (.iload_n 3, 1) := dc_29 (gB_c lq_cX12_rowsOfLeast q1_cX12_rowsOfLeast 15 (o := 29) rfl)
theorem dX12_rowsOfLeast_48 : decode cX12_rowsOfLeast 48 = .ok (.invokestatic 166, 3) := dc_184 (gB_c lq_cX12_rowsOfLeast q1_cX12_rowsOfLeast 16 (o := 184) rfl) (gB_c lq_cX12_rowsOfLeast q1_cX12_rowsOfLeast 17 (o := 0) rfl) (gB_c lq_cX12_rowsOfLeast q1_cX12_rowsOfLeast 18 (o := 166) rfl) rfl
theorem dX12_rowsOfLeast_51 : decode cX12_rowsOfLeast 51 = .ok (.ifCond .ne 47, 3) := dc_154 (gB_c lq_cX12_rowsOfLeast q1_cX12_rowsOfLeast 19 (o := 154) rfl) (gB_c lq_cX12_rowsOfLeast q1_cX12_rowsOfLeast 20 (o := 0) rfl) (gB_c lq_cX12_rowsOfLeast q1_cX12_rowsOfLeast 21 (o := 47) rfl) rfl
theorem dX12_rowsOfLeast_54 : decode cX12_rowsOfLeast 54 = .ok (.aload_n 0, 1) := dc_42 (gB_c lq_cX12_rowsOfLeast q1_cX12_rowsOfLeast 22 (o := 42) rfl)
theorem dX12_rowsOfLeast_55 : decode cX12_rowsOfLeast 55 = .ok (.getfield 35, 3) := dc_180 (gB_c lq_cX12_rowsOfLeast q1_cX12_rowsOfLeast 23 (o := 180) rfl) (gB_c lq_cX12_rowsOfLeast q1_cX12_rowsOfLeast 24 (o := 0) rfl) (gB_c lq_cX12_rowsOfLeast q1_cX12_rowsOfLeast 25 (o := 35) rfl) rfl
theorem dX12_rowsOfLeast_58 : decode cX12_rowsOfLeast 58 = .ok (.bipush 9, 2) := dc_16 (gB_c lq_cX12_rowsOfLeast q1_cX12_rowsOfLeast 26 (o := 16) rfl) (gB_c lq_cX12_rowsOfLeast q1_cX12_rowsOfLeast 27 (o := 9) rfl) rfl
theorem dX12_rowsOfLeast_60 : decode cX12_rowsOfLeast 60 = .ok (.iload_n 2, 1) := dc_28 (gB_c lq_cX12_rowsOfLeast q1_cX12_rowsOfLeast 28 (o := 28) rfl)
theorem dX12_rowsOfLeast_61 : decode cX12_rowsOfLeast 61 = .ok (.imul, 1) := dc_104 (gB_c lq_cX12_rowsOfLeast q1_cX12_rowsOfLeast 29 (o := 104) rfl)
theorem dX12_rowsOfLeast_62 : decode cX12_rowsOfLeast 62 = .ok (.iload_n 3, 1) := dc_29 (gB_c lq_cX12_rowsOfLeast q1_cX12_rowsOfLeast 30 (o := 29) rfl)
theorem dX12_rowsOfLeast_63 : decode cX12_rowsOfLeast 63 = .ok (.iadd, 1) := dc_96 (gB_c lq_cX12_rowsOfLeast q1_cX12_rowsOfLeast 31 (o := 96) rfl)
theorem dX12_rowsOfLeast_64 : decode cX12_rowsOfLeast 64 = .ok (.iaload, 1) := dc_46 (gB_c lq_cX12_rowsOfLeast q2_cX12_rowsOfLeast 0 (o := 46) rfl)
theorem dX12_rowsOfLeast_65 : decode cX12_rowsOfLeast 65 = .ok (.aload_n 0, 1) := dc_42 (gB_c lq_cX12_rowsOfLeast q2_cX12_rowsOfLeast 1 (o := 42) rfl)
theorem dX12_rowsOfLeast_66 : decode cX12_rowsOfLeast 66 = .ok (.getfield 29, 3) := dc_180 (gB_c lq_cX12_rowsOfLeast q2_cX12_rowsOfLeast 2 (o := 180) rfl) (gB_c lq_cX12_rowsOfLeast q2_cX12_rowsOfLeast 3 (o := 0) rfl) (gB_c lq_cX12_rowsOfLeast q2_cX12_rowsOfLeast 4 (o := 29) rfl) rfl
theorem dX12_rowsOfLeast_69 : decode cX12_rowsOfLeast 69 = .ok (.iload_n 2, 1) := dc_28 (gB_c lq_cX12_rowsOfLeast q2_cX12_rowsOfLeast 5 (o := 28) rfl)
theorem dX12_rowsOfLeast_70 : decode cX12_rowsOfLeast 70 = .ok (.iconst 1, 1) := dc_4 (gB_c lq_cX12_rowsOfLeast q2_cX12_rowsOfLeast 6 (o := 4) rfl)
theorem dX12_rowsOfLeast_71 : decode cX12_rowsOfLeast 71 = .ok (.iload_n 3, 1) := dc_29 (gB_c lq_cX12_rowsOfLeast q2_cX12_rowsOfLeast 7 (o := 29) rfl)
theorem dX12_rowsOfLeast_72 : decode cX12_rowsOfLeast 72 = .ok (.ishl, 1) := dc_120 (gB_c lq_cX12_rowsOfLeast q2_cX12_rowsOfLeast 8 (o := 120) rfl)
theorem dX12_rowsOfLeast_73 : decode cX12_rowsOfLeast 73 = .ok (.ior, 1) := dc_128 (gB_c lq_cX12_rowsOfLeast q2_cX12_rowsOfLeast 9 (o := 128) rfl)
theorem dX12_rowsOfLeast_74 : decode cX12_rowsOfLeast 74 = .ok (.iaload, 1) := dc_46 (gB_c lq_cX12_rowsOfLeast q2_cX12_rowsOfLeast 10 (o := 46) rfl)
theorem dX12_rowsOfLeast_75 : decode cX12_rowsOfLeast 75 = .ok (.iadd, 1) := dc_96 (gB_c lq_cX12_rowsOfLeast q2_cX12_rowsOfLeast 11 (o := 96) rfl)
theorem dX12_rowsOfLeast_76 : decode cX12_rowsOfLeast 76 = .ok (.aload_n 0, 1) := dc_42 (gB_c lq_cX12_rowsOfLeast q2_cX12_rowsOfLeast 12 (o := 42) rfl)
theorem dX12_rowsOfLeast_77 : decode cX12_rowsOfLeast 77 = .ok (.getfield 29, 3) := dc_180 (gB_c lq_cX12_rowsOfLeast q2_cX12_rowsOfLeast 13 (o := 180) rfl) (gB_c lq_cX12_rowsOfLeast q2_cX12_rowsOfLeast 14 (o := 0) rfl) (gB_c lq_cX12_rowsOfLeast q2_cX12_rowsOfLeast 15 (o := 29) rfl) rfl
theorem dX12_rowsOfLeast_80 : decode cX12_rowsOfLeast 80 = .ok (.iload_n 2, 1) := dc_28 (gB_c lq_cX12_rowsOfLeast q2_cX12_rowsOfLeast 16 (o := 28) rfl)
theorem dX12_rowsOfLeast_81 : decode cX12_rowsOfLeast 81 = .ok (.iaload, 1) := dc_46 (gB_c lq_cX12_rowsOfLeast q2_cX12_rowsOfLeast 17 (o := 46) rfl)
theorem dX12_rowsOfLeast_82 : decode cX12_rowsOfLeast 82 = .ok (.if_icmp .ne 16, 3) := dc_160 (gB_c lq_cX12_rowsOfLeast q2_cX12_rowsOfLeast 18 (o := 160) rfl) (gB_c lq_cX12_rowsOfLeast q2_cX12_rowsOfLeast 19 (o := 0) rfl) (gB_c lq_cX12_rowsOfLeast q2_cX12_rowsOfLeast 20 (o := 16) rfl) rfl
theorem dX12_rowsOfLeast_85 : decode cX12_rowsOfLeast 85 = .ok (.aload_n 0, 1) := dc_42 (gB_c lq_cX12_rowsOfLeast q2_cX12_rowsOfLeast 21 (o := 42) rfl)
theorem dX12_rowsOfLeast_86 : decode cX12_rowsOfLeast 86 = .ok (.getfield 32, 3) := dc_180 (gB_c lq_cX12_rowsOfLeast q2_cX12_rowsOfLeast 22 (o := 180) rfl) (gB_c lq_cX12_rowsOfLeast q2_cX12_rowsOfLeast 23 (o := 0) rfl) (gB_c lq_cX12_rowsOfLeast q2_cX12_rowsOfLeast 24 (o := 32) rfl) rfl
theorem dX12_rowsOfLeast_89 : decode cX12_rowsOfLeast 89 = .ok (.iload_n 2, 1) := dc_28 (gB_c lq_cX12_rowsOfLeast q2_cX12_rowsOfLeast 25 (o := 28) rfl)
theorem dX12_rowsOfLeast_90 : decode cX12_rowsOfLeast 90 = .ok (.iconst 1, 1) := dc_4 (gB_c lq_cX12_rowsOfLeast q2_cX12_rowsOfLeast 26 (o := 4) rfl)
theorem dX12_rowsOfLeast_91 : decode cX12_rowsOfLeast 91 = .ok (.iload_n 3, 1) := dc_29 (gB_c lq_cX12_rowsOfLeast q2_cX12_rowsOfLeast 27 (o := 29) rfl)
theorem dX12_rowsOfLeast_92 : decode cX12_rowsOfLeast 92 = .ok (.ishl, 1) := dc_120 (gB_c lq_cX12_rowsOfLeast q2_cX12_rowsOfLeast 28 (o := 120) rfl)
theorem dX12_rowsOfLeast_93 : decode cX12_rowsOfLeast 93 = .ok (.ior, 1) := dc_128 (gB_c lq_cX12_rowsOfLeast q2_cX12_rowsOfLeast 29 (o := 128) rfl)
theorem dX12_rowsOfLeast_94 : decode cX12_rowsOfLeast 94 = .ok (.iaload, 1) := dc_46 (gB_c lq_cX12_rowsOfLeast q2_cX12_rowsOfLeast 30 (o := 46) rfl)
theorem dX12_rowsOfLeast_95 : decode cX12_rowsOfLeast 95 = .ok (.goto 4, 3) := dc_167 (gB_c lq_cX12_rowsOfLeast q2_cX12_rowsOfLeast 31 (o := 167) rfl) (gB_c lq_cX12_rowsOfLeast q3_cX12_rowsOfLeast 0 (o := 0) rfl) (gB_c lq_cX12_rowsOfLeast q3_cX12_rowsOfLeast 1 (o := 4) rfl) rfl
theorem dX12_rowsOfLeast_98 : decode cX12_rowsOfLeast 98 = .ok (.iconst 0, 1) := dc_3 (gB_c lq_cX12_rowsOfLeast q3_cX12_rowsOfLeast 2 (o := 3) rfl)
theorem dX12_rowsOfLeast_99 : decode cX12_rowsOfLeast 99 = .ok (.iadd, 1) := dc_96 (gB_c lq_cX12_rowsOfLeast q3_cX12_rowsOfLeast 3 (o := 96) rfl)
theorem dX12_rowsOfLeast_100 : decode cX12_rowsOfLeast 100 = .ok (.iastore, 1) := dc_79 (gB_c lq_cX12_rowsOfLeast q3_cX12_rowsOfLeast 4 (o := 79) rfl)
theorem dX12_rowsOfLeast_101 : decode cX12_rowsOfLeast 101 = .ok (.iinc 3 1, 3) := dc_132 (gB_c lq_cX12_rowsOfLeast q3_cX12_rowsOfLeast 5 (o := 132) rfl) (gB_c lq_cX12_rowsOfLeast q3_cX12_rowsOfLeast 6 (o := 3) rfl) (gB_c lq_cX12_rowsOfLeast q3_cX12_rowsOfLeast 7 (o := 1) rfl) rfl
theorem dX12_rowsOfLeast_104 : decode cX12_rowsOfLeast 104 = .ok (.goto (-74), 3) := dc_167 (gB_c lq_cX12_rowsOfLeast q3_cX12_rowsOfLeast 8 (o := 167) rfl) (gB_c lq_cX12_rowsOfLeast q3_cX12_rowsOfLeast 9 (o := 255) rfl) (gB_c lq_cX12_rowsOfLeast q3_cX12_rowsOfLeast 10 (o := 182) rfl) rfl
theorem dX12_rowsOfLeast_107 : decode cX12_rowsOfLeast 107 = .ok (.iinc 2 (-1), 3) := dc_132 (gB_c lq_cX12_rowsOfLeast q3_cX12_rowsOfLeast 11 (o := 132) rfl) (gB_c lq_cX12_rowsOfLeast q3_cX12_rowsOfLeast 12 (o := 2) rfl) (gB_c lq_cX12_rowsOfLeast q3_cX12_rowsOfLeast 13 (o := 255) rfl) rfl
theorem dX12_rowsOfLeast_110 : decode cX12_rowsOfLeast 110 = .ok (.goto (-105), 3) := dc_167 (gB_c lq_cX12_rowsOfLeast q3_cX12_rowsOfLeast 14 (o := 167) rfl) (gB_c lq_cX12_rowsOfLeast q3_cX12_rowsOfLeast 15 (o := 255) rfl) (gB_c lq_cX12_rowsOfLeast q3_cX12_rowsOfLeast 16 (o := 151) rfl) rfl
theorem dX12_rowsOfLeast_113 : decode cX12_rowsOfLeast 113 = .ok (.aload_n 0, 1) := dc_42 (gB_c lq_cX12_rowsOfLeast q3_cX12_rowsOfLeast 17 (o := 42) rfl)
theorem dX12_rowsOfLeast_114 : decode cX12_rowsOfLeast 114 = .ok (.getfield 32, 3) := dc_180 (gB_c lq_cX12_rowsOfLeast q3_cX12_rowsOfLeast 18 (o := 180) rfl) (gB_c lq_cX12_rowsOfLeast q3_cX12_rowsOfLeast 19 (o := 0) rfl) (gB_c lq_cX12_rowsOfLeast q3_cX12_rowsOfLeast 20 (o := 32) rfl) rfl
theorem dX12_rowsOfLeast_117 : decode cX12_rowsOfLeast 117 = .ok (.iconst 0, 1) := dc_3 (gB_c lq_cX12_rowsOfLeast q3_cX12_rowsOfLeast 21 (o := 3) rfl)
theorem dX12_rowsOfLeast_118 : decode cX12_rowsOfLeast 118 = .ok (.iaload, 1) := dc_46 (gB_c lq_cX12_rowsOfLeast q3_cX12_rowsOfLeast 22 (o := 46) rfl)
theorem dX12_rowsOfLeast_119 : decode cX12_rowsOfLeast 119 = .ok (.ireturn, 1) := dc_172 (gB_c lq_cX12_rowsOfLeast q3_cX12_rowsOfLeast 23 (o := 172) rfl)
abbrev r3_cX12_rowsWithin : List Nat := [132, 3, 255, 167, 255, 162, 42, 180, 0, 32, 3, 46, 172]
def a2_cX12_rowsWithin : List Nat := [104, 21, 4, 96, 46, 28, 163, 0, 17, 42, 180, 0, 32, 29, 4, 21, 4, 120, 128, 46, 167, 0, 4, 3, 96, 79, 132, 4, 1, 167, 255, 194]
abbrev r2_cX12_rowsWithin : List Nat := a2_cX12_rowsWithin ++ r3_cX12_rowsWithin
def a1_cX12_rowsWithin : List Nat := [4, 42, 27, 182, 0, 63, 162, 0, 58, 42, 180, 0, 32, 29, 92, 46, 29, 21, 4, 184, 0, 166, 154, 0, 33, 42, 180, 0, 35, 16, 9, 29]
abbrev r1_cX12_rowsWithin : List Nat := a1_cX12_rowsWithin ++ r2_cX12_rowsWithin
def a0_cX12_rowsWithin : List Nat := [42, 180, 1, 10, 62, 29, 155, 0, 96, 42, 180, 0, 32, 29, 29, 42, 180, 1, 10, 160, 0, 7, 4, 167, 0, 4, 3, 79, 3, 54, 4, 21]
abbrev r0_cX12_rowsWithin : List Nat := a0_cX12_rowsWithin ++ r1_cX12_rowsWithin
theorem lq_cX12_rowsWithin : (cX12_rowsWithin).data.toList.map UInt8.toNat = r0_cX12_rowsWithin := by decide +kernel
theorem q1_cX12_rowsWithin : ∀ i, (r0_cX12_rowsWithin)[32 + i]? = (r1_cX12_rowsWithin)[i]? := chn (A := a0_cX12_rowsWithin) (B := r1_cX12_rowsWithin) (n := 0) (k := 32) rfl (ch0 (R := r0_cX12_rowsWithin))
theorem q2_cX12_rowsWithin : ∀ i, (r0_cX12_rowsWithin)[64 + i]? = (r2_cX12_rowsWithin)[i]? := chn (A := a1_cX12_rowsWithin) (B := r2_cX12_rowsWithin) (n := 32) (k := 32) rfl q1_cX12_rowsWithin
theorem q3_cX12_rowsWithin : ∀ i, (r0_cX12_rowsWithin)[96 + i]? = (r3_cX12_rowsWithin)[i]? := chn (A := a2_cX12_rowsWithin) (B := r3_cX12_rowsWithin) (n := 64) (k := 32) rfl q2_cX12_rowsWithin
theorem dX12_rowsWithin_0 : decode cX12_rowsWithin 0 = .ok (.aload_n 0, 1) := dc_42 (gB_l lq_cX12_rowsWithin (p := 0) (o := 42) rfl)
theorem dX12_rowsWithin_1 : decode cX12_rowsWithin 1 = .ok (.getfield 266, 3) := dc_180 (gB_l lq_cX12_rowsWithin (p := 1) (o := 180) rfl) (gB_l lq_cX12_rowsWithin (p := 2) (o := 1) rfl) (gB_l lq_cX12_rowsWithin (p := 3) (o := 10) rfl) rfl
theorem dX12_rowsWithin_4 : decode cX12_rowsWithin 4 = .ok (.istore_n 3, 1) := dc_62 (gB_l lq_cX12_rowsWithin (p := 4) (o := 62) rfl)
theorem dX12_rowsWithin_5 : decode cX12_rowsWithin 5 = .ok (.iload_n 3, 1) := dc_29 (gB_l lq_cX12_rowsWithin (p := 5) (o := 29) rfl)
theorem dX12_rowsWithin_6 : decode cX12_rowsWithin 6 = .ok (.ifCond .lt 96, 3) := dc_155 (gB_l lq_cX12_rowsWithin (p := 6) (o := 155) rfl) (gB_l lq_cX12_rowsWithin (p := 7) (o := 0) rfl) (gB_l lq_cX12_rowsWithin (p := 8) (o := 96) rfl) rfl
theorem dX12_rowsWithin_9 : decode cX12_rowsWithin 9 = .ok (.aload_n 0, 1) := dc_42 (gB_l lq_cX12_rowsWithin (p := 9) (o := 42) rfl)
theorem dX12_rowsWithin_10 : decode cX12_rowsWithin 10 = .ok (.getfield 32, 3) := dc_180 (gB_l lq_cX12_rowsWithin (p := 10) (o := 180) rfl) (gB_l lq_cX12_rowsWithin (p := 11) (o := 0) rfl) (gB_l lq_cX12_rowsWithin (p := 12) (o := 32) rfl) rfl
theorem dX12_rowsWithin_13 : decode cX12_rowsWithin 13 = .ok (.iload_n 3, 1) := dc_29 (gB_l lq_cX12_rowsWithin (p := 13) (o := 29) rfl)
theorem dX12_rowsWithin_14 : decode cX12_rowsWithin 14 = .ok (.iload_n 3, 1) := dc_29 (gB_l lq_cX12_rowsWithin (p := 14) (o := 29) rfl)
theorem dX12_rowsWithin_15 : decode cX12_rowsWithin 15 = .ok (.aload_n 0, 1) := dc_42 (gB_l lq_cX12_rowsWithin (p := 15) (o := 42) rfl)
theorem dX12_rowsWithin_16 : decode cX12_rowsWithin 16 = .ok (.getfield 266, 3) := dc_180 (gB_l lq_cX12_rowsWithin (p := 16) (o := 180) rfl) (gB_l lq_cX12_rowsWithin (p := 17) (o := 1) rfl) (gB_l lq_cX12_rowsWithin (p := 18) (o := 10) rfl) rfl
theorem dX12_rowsWithin_19 : decode cX12_rowsWithin 19 = .ok (.if_icmp .ne 7, 3) := dc_160 (gB_l lq_cX12_rowsWithin (p := 19) (o := 160) rfl) (gB_l lq_cX12_rowsWithin (p := 20) (o := 0) rfl) (gB_l lq_cX12_rowsWithin (p := 21) (o := 7) rfl) rfl
theorem dX12_rowsWithin_22 : decode cX12_rowsWithin 22 = .ok (.iconst 1, 1) := dc_4 (gB_l lq_cX12_rowsWithin (p := 22) (o := 4) rfl)
theorem dX12_rowsWithin_23 : decode cX12_rowsWithin 23 = .ok (.goto 4, 3) := dc_167 (gB_l lq_cX12_rowsWithin (p := 23) (o := 167) rfl) (gB_l lq_cX12_rowsWithin (p := 24) (o := 0) rfl) (gB_l lq_cX12_rowsWithin (p := 25) (o := 4) rfl) rfl
theorem dX12_rowsWithin_26 : decode cX12_rowsWithin 26 = .ok (.iconst 0, 1) := dc_3 (gB_l lq_cX12_rowsWithin (p := 26) (o := 3) rfl)
theorem dX12_rowsWithin_27 : decode cX12_rowsWithin 27 = .ok (.iastore, 1) := dc_79 (gB_l lq_cX12_rowsWithin (p := 27) (o := 79) rfl)
theorem dX12_rowsWithin_28 : decode cX12_rowsWithin 28 = .ok (.iconst 0, 1) := dc_3 (gB_l lq_cX12_rowsWithin (p := 28) (o := 3) rfl)
theorem dX12_rowsWithin_29 : decode cX12_rowsWithin 29 = .ok (.istore 4, 2) := dc_54 (gB_l lq_cX12_rowsWithin (p := 29) (o := 54) rfl) (gB_l lq_cX12_rowsWithin (p := 30) (o := 4) rfl)
theorem dX12_rowsWithin_31 : decode cX12_rowsWithin 31 = .ok (.iload 4, 2) := dc_21 (gB_l lq_cX12_rowsWithin (p := 31) (o := 21) rfl) (gB_c lq_cX12_rowsWithin q1_cX12_rowsWithin 0 (o := 4) rfl)
theorem dX12_rowsWithin_33 : decode cX12_rowsWithin 33 = .ok (.aload_n 0, 1) := dc_42 (gB_c lq_cX12_rowsWithin q1_cX12_rowsWithin 1 (o := 42) rfl)
theorem dX12_rowsWithin_34 : decode cX12_rowsWithin 34 = .ok (.iload_n 1, 1) := dc_27 (gB_c lq_cX12_rowsWithin q1_cX12_rowsWithin 2 (o := 27) rfl)
theorem dX12_rowsWithin_35 : decode cX12_rowsWithin 35 = .ok (.invokevirtual 63, 3) := dc_182 (gB_c lq_cX12_rowsWithin q1_cX12_rowsWithin 3 (o := 182) rfl) (gB_c lq_cX12_rowsWithin q1_cX12_rowsWithin 4 (o := 0) rfl) (gB_c lq_cX12_rowsWithin q1_cX12_rowsWithin 5 (o := 63) rfl) rfl
theorem dX12_rowsWithin_38 : decode cX12_rowsWithin 38 = .ok (.if_icmp .ge 58, 3) := dc_162 (gB_c lq_cX12_rowsWithin q1_cX12_rowsWithin 6 (o := 162) rfl) (gB_c lq_cX12_rowsWithin q1_cX12_rowsWithin 7 (o := 0) rfl) (gB_c lq_cX12_rowsWithin q1_cX12_rowsWithin 8 (o := 58) rfl) rfl
theorem dX12_rowsWithin_41 : decode cX12_rowsWithin 41 = .ok (.aload_n 0, 1) := dc_42 (gB_c lq_cX12_rowsWithin q1_cX12_rowsWithin 9 (o := 42) rfl)
theorem dX12_rowsWithin_42 : decode cX12_rowsWithin 42 = .ok (.getfield 32, 3) := dc_180 (gB_c lq_cX12_rowsWithin q1_cX12_rowsWithin 10 (o := 180) rfl) (gB_c lq_cX12_rowsWithin q1_cX12_rowsWithin 11 (o := 0) rfl) (gB_c lq_cX12_rowsWithin q1_cX12_rowsWithin 12 (o := 32) rfl) rfl
theorem dX12_rowsWithin_45 : decode cX12_rowsWithin 45 = .ok (.iload_n 3, 1) := dc_29 (gB_c lq_cX12_rowsWithin q1_cX12_rowsWithin 13 (o := 29) rfl)
theorem dX12_rowsWithin_46 : decode cX12_rowsWithin 46 = .ok (.dup2, 1) := dc_92 (gB_c lq_cX12_rowsWithin q1_cX12_rowsWithin 14 (o := 92) rfl)
theorem dX12_rowsWithin_47 : decode cX12_rowsWithin 47 = .ok (.iaload, 1) := dc_46 (gB_c lq_cX12_rowsWithin q1_cX12_rowsWithin 15 (o := 46) rfl)
theorem dX12_rowsWithin_48 : decode cX12_rowsWithin 48 = .ok (.iload_n 3, 1) := dc_29 (gB_c lq_cX12_rowsWithin q1_cX12_rowsWithin 16 (o := 29) rfl)
theorem dX12_rowsWithin_49 : decode cX12_rowsWithin 49 = .ok (.iload 4, 2) := dc_21 (gB_c lq_cX12_rowsWithin q1_cX12_rowsWithin 17 (o := 21) rfl) (gB_c lq_cX12_rowsWithin q1_cX12_rowsWithin 18 (o := 4) rfl)
theorem dX12_rowsWithin_51 : decode cX12_rowsWithin 51 = .ok (.invokestatic 166, 3) := dc_184 (gB_c lq_cX12_rowsWithin q1_cX12_rowsWithin 19 (o := 184) rfl) (gB_c lq_cX12_rowsWithin q1_cX12_rowsWithin 20 (o := 0) rfl) (gB_c lq_cX12_rowsWithin q1_cX12_rowsWithin 21 (o := 166) rfl) rfl
theorem dX12_rowsWithin_54 : decode cX12_rowsWithin 54 = .ok (.ifCond .ne 33, 3) := dc_154 (gB_c lq_cX12_rowsWithin q1_cX12_rowsWithin 22 (o := 154) rfl) (gB_c lq_cX12_rowsWithin q1_cX12_rowsWithin 23 (o := 0) rfl) (gB_c lq_cX12_rowsWithin q1_cX12_rowsWithin 24 (o := 33) rfl) rfl
theorem dX12_rowsWithin_57 : decode cX12_rowsWithin 57 = .ok (.aload_n 0, 1) := dc_42 (gB_c lq_cX12_rowsWithin q1_cX12_rowsWithin 25 (o := 42) rfl)
theorem dX12_rowsWithin_58 : decode cX12_rowsWithin 58 = .ok (.getfield 35, 3) := dc_180 (gB_c lq_cX12_rowsWithin q1_cX12_rowsWithin 26 (o := 180) rfl) (gB_c lq_cX12_rowsWithin q1_cX12_rowsWithin 27 (o := 0) rfl) (gB_c lq_cX12_rowsWithin q1_cX12_rowsWithin 28 (o := 35) rfl) rfl
theorem dX12_rowsWithin_61 : decode cX12_rowsWithin 61 = .ok (.bipush 9, 2) := dc_16 (gB_c lq_cX12_rowsWithin q1_cX12_rowsWithin 29 (o := 16) rfl) (gB_c lq_cX12_rowsWithin q1_cX12_rowsWithin 30 (o := 9) rfl) rfl
theorem dX12_rowsWithin_63 : decode cX12_rowsWithin 63 = .ok (.iload_n 3, 1) := dc_29 (gB_c lq_cX12_rowsWithin q1_cX12_rowsWithin 31 (o := 29) rfl)
theorem dX12_rowsWithin_64 : decode cX12_rowsWithin 64 = .ok (.imul, 1) := dc_104 (gB_c lq_cX12_rowsWithin q2_cX12_rowsWithin 0 (o := 104) rfl)
theorem dX12_rowsWithin_65 : decode cX12_rowsWithin 65 = .ok (.iload 4, 2) := dc_21 (gB_c lq_cX12_rowsWithin q2_cX12_rowsWithin 1 (o := 21) rfl) (gB_c lq_cX12_rowsWithin q2_cX12_rowsWithin 2 (o := 4) rfl)
theorem dX12_rowsWithin_67 : decode cX12_rowsWithin 67 = .ok (.iadd, 1) := dc_96 (gB_c lq_cX12_rowsWithin q2_cX12_rowsWithin 3 (o := 96) rfl)
theorem dX12_rowsWithin_68 : decode cX12_rowsWithin 68 = .ok (.iaload, 1) := dc_46 (gB_c lq_cX12_rowsWithin q2_cX12_rowsWithin 4 (o := 46) rfl)
theorem dX12_rowsWithin_69 : decode cX12_rowsWithin 69 = .ok (.iload_n 2, 1) := dc_28 (gB_c lq_cX12_rowsWithin q2_cX12_rowsWithin 5 (o := 28) rfl)
theorem dX12_rowsWithin_70 : decode cX12_rowsWithin 70 = .ok (.if_icmp .gt 17, 3) := dc_163 (gB_c lq_cX12_rowsWithin q2_cX12_rowsWithin 6 (o := 163) rfl) (gB_c lq_cX12_rowsWithin q2_cX12_rowsWithin 7 (o := 0) rfl) (gB_c lq_cX12_rowsWithin q2_cX12_rowsWithin 8 (o := 17) rfl) rfl
theorem dX12_rowsWithin_73 : decode cX12_rowsWithin 73 = .ok (.aload_n 0, 1) := dc_42 (gB_c lq_cX12_rowsWithin q2_cX12_rowsWithin 9 (o := 42) rfl)
theorem dX12_rowsWithin_74 : decode cX12_rowsWithin 74 = .ok (.getfield 32, 3) := dc_180 (gB_c lq_cX12_rowsWithin q2_cX12_rowsWithin 10 (o := 180) rfl) (gB_c lq_cX12_rowsWithin q2_cX12_rowsWithin 11 (o := 0) rfl) (gB_c lq_cX12_rowsWithin q2_cX12_rowsWithin 12 (o := 32) rfl) rfl
theorem dX12_rowsWithin_77 : decode cX12_rowsWithin 77 = .ok (.iload_n 3, 1) := dc_29 (gB_c lq_cX12_rowsWithin q2_cX12_rowsWithin 13 (o := 29) rfl)
theorem dX12_rowsWithin_78 : decode cX12_rowsWithin 78 = .ok (.iconst 1, 1) := dc_4 (gB_c lq_cX12_rowsWithin q2_cX12_rowsWithin 14 (o := 4) rfl)
theorem dX12_rowsWithin_79 : decode cX12_rowsWithin 79 = .ok (.iload 4, 2) := dc_21 (gB_c lq_cX12_rowsWithin q2_cX12_rowsWithin 15 (o := 21) rfl) (gB_c lq_cX12_rowsWithin q2_cX12_rowsWithin 16 (o := 4) rfl)
theorem dX12_rowsWithin_81 : decode cX12_rowsWithin 81 = .ok (.ishl, 1) := dc_120 (gB_c lq_cX12_rowsWithin q2_cX12_rowsWithin 17 (o := 120) rfl)
theorem dX12_rowsWithin_82 : decode cX12_rowsWithin 82 = .ok (.ior, 1) := dc_128 (gB_c lq_cX12_rowsWithin q2_cX12_rowsWithin 18 (o := 128) rfl)
theorem dX12_rowsWithin_83 : decode cX12_rowsWithin 83 = .ok (.iaload, 1) := dc_46 (gB_c lq_cX12_rowsWithin q2_cX12_rowsWithin 19 (o := 46) rfl)
theorem dX12_rowsWithin_84 : decode cX12_rowsWithin 84 = .ok (.goto 4, 3) := dc_167 (gB_c lq_cX12_rowsWithin q2_cX12_rowsWithin 20 (o := 167) rfl) (gB_c lq_cX12_rowsWithin q2_cX12_rowsWithin 21 (o := 0) rfl) (gB_c lq_cX12_rowsWithin q2_cX12_rowsWithin 22 (o := 4) rfl) rfl
theorem dX12_rowsWithin_87 : decode cX12_rowsWithin 87 = .ok (.iconst 0, 1) := dc_3 (gB_c lq_cX12_rowsWithin q2_cX12_rowsWithin 23 (o := 3) rfl)
theorem dX12_rowsWithin_88 : decode cX12_rowsWithin 88 = .ok (.iadd, 1) := dc_96 (gB_c lq_cX12_rowsWithin q2_cX12_rowsWithin 24 (o := 96) rfl)
theorem dX12_rowsWithin_89 : decode cX12_rowsWithin 89 = .ok (.iastore, 1) := dc_79 (gB_c lq_cX12_rowsWithin q2_cX12_rowsWithin 25 (o := 79) rfl)
theorem dX12_rowsWithin_90 : decode cX12_rowsWithin 90 = .ok (.iinc 4 1, 3) := dc_132 (gB_c lq_cX12_rowsWithin q2_cX12_rowsWithin 26 (o := 132) rfl) (gB_c lq_cX12_rowsWithin q2_cX12_rowsWithin 27 (o := 4) rfl) (gB_c lq_cX12_rowsWithin q2_cX12_rowsWithin 28 (o := 1) rfl) rfl
theorem dX12_rowsWithin_93 : decode cX12_rowsWithin 93 = .ok (.goto (-62), 3) := dc_167 (gB_c lq_cX12_rowsWithin q2_cX12_rowsWithin 29 (o := 167) rfl) (gB_c lq_cX12_rowsWithin q2_cX12_rowsWithin 30 (o := 255) rfl) (gB_c lq_cX12_rowsWithin q2_cX12_rowsWithin 31 (o := 194) rfl) rfl
theorem dX12_rowsWithin_96 : decode cX12_rowsWithin 96 = .ok (.iinc 3 (-1), 3) := dc_132 (gB_c lq_cX12_rowsWithin q3_cX12_rowsWithin 0 (o := 132) rfl) (gB_c lq_cX12_rowsWithin q3_cX12_rowsWithin 1 (o := 3) rfl) (gB_c lq_cX12_rowsWithin q3_cX12_rowsWithin 2 (o := 255) rfl) rfl
theorem dX12_rowsWithin_99 : decode cX12_rowsWithin 99 = .ok (.goto (-94), 3) := dc_167 (gB_c lq_cX12_rowsWithin q3_cX12_rowsWithin 3 (o := 167) rfl) (gB_c lq_cX12_rowsWithin q3_cX12_rowsWithin 4 (o := 255) rfl) (gB_c lq_cX12_rowsWithin q3_cX12_rowsWithin 5 (o := 162) rfl) rfl
theorem dX12_rowsWithin_102 : decode cX12_rowsWithin 102 = .ok (.aload_n 0, 1) := dc_42 (gB_c lq_cX12_rowsWithin q3_cX12_rowsWithin 6 (o := 42) rfl)
theorem dX12_rowsWithin_103 : decode cX12_rowsWithin 103 = .ok (.getfield 32, 3) := dc_180 (gB_c lq_cX12_rowsWithin q3_cX12_rowsWithin 7 (o := 180) rfl) (gB_c lq_cX12_rowsWithin q3_cX12_rowsWithin 8 (o := 0) rfl) (gB_c lq_cX12_rowsWithin q3_cX12_rowsWithin 9 (o := 32) rfl) rfl
theorem dX12_rowsWithin_106 : decode cX12_rowsWithin 106 = .ok (.iconst 0, 1) := dc_3 (gB_c lq_cX12_rowsWithin q3_cX12_rowsWithin 10 (o := 3) rfl)
theorem dX12_rowsWithin_107 : decode cX12_rowsWithin 107 = .ok (.iaload, 1) := dc_46 (gB_c lq_cX12_rowsWithin q3_cX12_rowsWithin 11 (o := 46) rfl)
theorem dX12_rowsWithin_108 : decode cX12_rowsWithin 108 = .ok (.ireturn, 1) := dc_172 (gB_c lq_cX12_rowsWithin q3_cX12_rowsWithin 12 (o := 172) rfl)
abbrev r1_cX12_says : List Nat := [0, 193, 132, 2, 1, 167, 255, 221, 177]
def a0_cX12_says : List Nat := [3, 61, 28, 43, 182, 0, 133, 162, 0, 33, 42, 180, 0, 50, 42, 180, 0, 193, 43, 28, 182, 0, 139, 79, 42, 89, 180, 0, 193, 4, 96, 181]
abbrev r0_cX12_says : List Nat := a0_cX12_says ++ r1_cX12_says
theorem lq_cX12_says : (cX12_says).data.toList.map UInt8.toNat = r0_cX12_says := by decide +kernel
theorem q1_cX12_says : ∀ i, (r0_cX12_says)[32 + i]? = (r1_cX12_says)[i]? := chn (A := a0_cX12_says) (B := r1_cX12_says) (n := 0) (k := 32) rfl (ch0 (R := r0_cX12_says))
theorem dX12_says_0 : decode cX12_says 0 = .ok (.iconst 0, 1) := dc_3 (gB_l lq_cX12_says (p := 0) (o := 3) rfl)
theorem dX12_says_1 : decode cX12_says 1 = .ok (.istore_n 2, 1) := dc_61 (gB_l lq_cX12_says (p := 1) (o := 61) rfl)
theorem dX12_says_2 : decode cX12_says 2 = .ok (.iload_n 2, 1) := dc_28 (gB_l lq_cX12_says (p := 2) (o := 28) rfl)
theorem dX12_says_3 : decode cX12_says 3 = .ok (.aload_n 1, 1) := dc_43 (gB_l lq_cX12_says (p := 3) (o := 43) rfl)
theorem dX12_says_4 : decode cX12_says 4 = .ok (.invokevirtual 133, 3) := dc_182 (gB_l lq_cX12_says (p := 4) (o := 182) rfl) (gB_l lq_cX12_says (p := 5) (o := 0) rfl) (gB_l lq_cX12_says (p := 6) (o := 133) rfl) rfl
theorem dX12_says_7 : decode cX12_says 7 = .ok (.if_icmp .ge 33, 3) := dc_162 (gB_l lq_cX12_says (p := 7) (o := 162) rfl) (gB_l lq_cX12_says (p := 8) (o := 0) rfl) (gB_l lq_cX12_says (p := 9) (o := 33) rfl) rfl
theorem dX12_says_10 : decode cX12_says 10 = .ok (.aload_n 0, 1) := dc_42 (gB_l lq_cX12_says (p := 10) (o := 42) rfl)
theorem dX12_says_11 : decode cX12_says 11 = .ok (.getfield 50, 3) := dc_180 (gB_l lq_cX12_says (p := 11) (o := 180) rfl) (gB_l lq_cX12_says (p := 12) (o := 0) rfl) (gB_l lq_cX12_says (p := 13) (o := 50) rfl) rfl
theorem dX12_says_14 : decode cX12_says 14 = .ok (.aload_n 0, 1) := dc_42 (gB_l lq_cX12_says (p := 14) (o := 42) rfl)
theorem dX12_says_15 : decode cX12_says 15 = .ok (.getfield 193, 3) := dc_180 (gB_l lq_cX12_says (p := 15) (o := 180) rfl) (gB_l lq_cX12_says (p := 16) (o := 0) rfl) (gB_l lq_cX12_says (p := 17) (o := 193) rfl) rfl
theorem dX12_says_18 : decode cX12_says 18 = .ok (.aload_n 1, 1) := dc_43 (gB_l lq_cX12_says (p := 18) (o := 43) rfl)
theorem dX12_says_19 : decode cX12_says 19 = .ok (.iload_n 2, 1) := dc_28 (gB_l lq_cX12_says (p := 19) (o := 28) rfl)
theorem dX12_says_20 : decode cX12_says 20 = .ok (.invokevirtual 139, 3) := dc_182 (gB_l lq_cX12_says (p := 20) (o := 182) rfl) (gB_l lq_cX12_says (p := 21) (o := 0) rfl) (gB_l lq_cX12_says (p := 22) (o := 139) rfl) rfl
theorem dX12_says_23 : decode cX12_says 23 = .ok (.iastore, 1) := dc_79 (gB_l lq_cX12_says (p := 23) (o := 79) rfl)
theorem dX12_says_24 : decode cX12_says 24 = .ok (.aload_n 0, 1) := dc_42 (gB_l lq_cX12_says (p := 24) (o := 42) rfl)
theorem dX12_says_25 : decode cX12_says 25 = .ok (.dup, 1) := dc_89 (gB_l lq_cX12_says (p := 25) (o := 89) rfl)
theorem dX12_says_26 : decode cX12_says 26 = .ok (.getfield 193, 3) := dc_180 (gB_l lq_cX12_says (p := 26) (o := 180) rfl) (gB_l lq_cX12_says (p := 27) (o := 0) rfl) (gB_l lq_cX12_says (p := 28) (o := 193) rfl) rfl
theorem dX12_says_29 : decode cX12_says 29 = .ok (.iconst 1, 1) := dc_4 (gB_l lq_cX12_says (p := 29) (o := 4) rfl)
theorem dX12_says_30 : decode cX12_says 30 = .ok (.iadd, 1) := dc_96 (gB_l lq_cX12_says (p := 30) (o := 96) rfl)
theorem dX12_says_31 : decode cX12_says 31 = .ok (.putfield 193, 3) := dc_181 (gB_l lq_cX12_says (p := 31) (o := 181) rfl) (gB_c lq_cX12_says q1_cX12_says 0 (o := 0) rfl) (gB_c lq_cX12_says q1_cX12_says 1 (o := 193) rfl) rfl
theorem dX12_says_34 : decode cX12_says 34 = .ok (.iinc 2 1, 3) := dc_132 (gB_c lq_cX12_says q1_cX12_says 2 (o := 132) rfl) (gB_c lq_cX12_says q1_cX12_says 3 (o := 2) rfl) (gB_c lq_cX12_says q1_cX12_says 4 (o := 1) rfl) rfl
theorem dX12_says_37 : decode cX12_says 37 = .ok (.goto (-35), 3) := dc_167 (gB_c lq_cX12_says q1_cX12_says 5 (o := 167) rfl) (gB_c lq_cX12_says q1_cX12_says 6 (o := 255) rfl) (gB_c lq_cX12_says q1_cX12_says 7 (o := 221) rfl) rfl
theorem dX12_says_40 : decode cX12_says 40 = .ok (.return_, 1) := dc_177 (gB_c lq_cX12_says q1_cX12_says 8 (o := 177) rfl)
abbrev r5_cX12_saysNet : List Nat := [182, 0, 217, 182, 1, 76, 132, 3, 1, 167, 255, 234, 42, 19, 1, 95, 182, 1, 81, 177]
def a4_cX12_saysNet : List Nat := [1, 167, 255, 161, 132, 3, 1, 167, 255, 141, 42, 19, 1, 93, 182, 1, 81, 3, 62, 29, 42, 27, 182, 0, 63, 162, 0, 19, 42, 42, 27, 29]
abbrev r4_cX12_saysNet : List Nat := a4_cX12_saysNet ++ r5_cX12_saysNet
def a3_cX12_saysNet : List Nat := [21, 4, 182, 0, 76, 4, 164, 0, 22, 42, 19, 1, 91, 182, 1, 81, 42, 42, 27, 29, 21, 4, 182, 0, 76, 182, 1, 76, 4, 61, 132, 4]
abbrev r3_cX12_saysNet : List Nat := a3_cX12_saysNet ++ r4_cX12_saysNet
def a2_cX12_saysNet : List Nat := [1, 85, 167, 0, 6, 19, 1, 87, 182, 1, 81, 42, 29, 182, 1, 76, 42, 19, 1, 89, 182, 1, 81, 42, 21, 4, 182, 1, 76, 42, 27, 29]
abbrev r2_cX12_saysNet : List Nat := a2_cX12_saysNet ++ r3_cX12_saysNet
def a1_cX12_saysNet : List Nat := [54, 4, 21, 4, 42, 27, 182, 0, 63, 162, 0, 91, 42, 27, 29, 21, 4, 182, 0, 76, 154, 0, 6, 167, 0, 71, 42, 28, 153, 0, 9, 19]
abbrev r1_cX12_saysNet : List Nat := a1_cX12_saysNet ++ r2_cX12_saysNet
def a0_cX12_saysNet : List Nat := [42, 19, 1, 79, 182, 1, 81, 42, 42, 27, 182, 0, 63, 182, 1, 76, 3, 61, 3, 62, 29, 42, 27, 182, 0, 63, 162, 0, 112, 29, 4, 96]
abbrev r0_cX12_saysNet : List Nat := a0_cX12_saysNet ++ r1_cX12_saysNet
theorem lq_cX12_saysNet : (cX12_saysNet).data.toList.map UInt8.toNat = r0_cX12_saysNet := by decide +kernel
theorem q1_cX12_saysNet : ∀ i, (r0_cX12_saysNet)[32 + i]? = (r1_cX12_saysNet)[i]? := chn (A := a0_cX12_saysNet) (B := r1_cX12_saysNet) (n := 0) (k := 32) rfl (ch0 (R := r0_cX12_saysNet))
theorem q2_cX12_saysNet : ∀ i, (r0_cX12_saysNet)[64 + i]? = (r2_cX12_saysNet)[i]? := chn (A := a1_cX12_saysNet) (B := r2_cX12_saysNet) (n := 32) (k := 32) rfl q1_cX12_saysNet
theorem q3_cX12_saysNet : ∀ i, (r0_cX12_saysNet)[96 + i]? = (r3_cX12_saysNet)[i]? := chn (A := a2_cX12_saysNet) (B := r3_cX12_saysNet) (n := 64) (k := 32) rfl q2_cX12_saysNet
theorem q4_cX12_saysNet : ∀ i, (r0_cX12_saysNet)[128 + i]? = (r4_cX12_saysNet)[i]? := chn (A := a3_cX12_saysNet) (B := r4_cX12_saysNet) (n := 96) (k := 32) rfl q3_cX12_saysNet
theorem q5_cX12_saysNet : ∀ i, (r0_cX12_saysNet)[160 + i]? = (r5_cX12_saysNet)[i]? := chn (A := a4_cX12_saysNet) (B := r5_cX12_saysNet) (n := 128) (k := 32) rfl q4_cX12_saysNet
theorem dX12_saysNet_0 : decode cX12_saysNet 0 = .ok (.aload_n 0, 1) := dc_42 (gB_l lq_cX12_saysNet (p := 0) (o := 42) rfl)
theorem dX12_saysNet_1 : decode cX12_saysNet 1 = .ok (.ldc_w 335, 3) := dc_19 (gB_l lq_cX12_saysNet (p := 1) (o := 19) rfl) (gB_l lq_cX12_saysNet (p := 2) (o := 1) rfl) (gB_l lq_cX12_saysNet (p := 3) (o := 79) rfl) rfl
theorem dX12_saysNet_4 : decode cX12_saysNet 4 = .ok (.invokevirtual 337, 3) := dc_182 (gB_l lq_cX12_saysNet (p := 4) (o := 182) rfl) (gB_l lq_cX12_saysNet (p := 5) (o := 1) rfl) (gB_l lq_cX12_saysNet (p := 6) (o := 81) rfl) rfl
theorem dX12_saysNet_7 : decode cX12_saysNet 7 = .ok (.aload_n 0, 1) := dc_42 (gB_l lq_cX12_saysNet (p := 7) (o := 42) rfl)
theorem dX12_saysNet_8 : decode cX12_saysNet 8 = .ok (.aload_n 0, 1) := dc_42 (gB_l lq_cX12_saysNet (p := 8) (o := 42) rfl)
theorem dX12_saysNet_9 : decode cX12_saysNet 9 = .ok (.iload_n 1, 1) := dc_27 (gB_l lq_cX12_saysNet (p := 9) (o := 27) rfl)
theorem dX12_saysNet_10 : decode cX12_saysNet 10 = .ok (.invokevirtual 63, 3) := dc_182 (gB_l lq_cX12_saysNet (p := 10) (o := 182) rfl) (gB_l lq_cX12_saysNet (p := 11) (o := 0) rfl) (gB_l lq_cX12_saysNet (p := 12) (o := 63) rfl) rfl
theorem dX12_saysNet_13 : decode cX12_saysNet 13 = .ok (.invokevirtual 332, 3) := dc_182 (gB_l lq_cX12_saysNet (p := 13) (o := 182) rfl) (gB_l lq_cX12_saysNet (p := 14) (o := 1) rfl) (gB_l lq_cX12_saysNet (p := 15) (o := 76) rfl) rfl
theorem dX12_saysNet_16 : decode cX12_saysNet 16 = .ok (.iconst 0, 1) := dc_3 (gB_l lq_cX12_saysNet (p := 16) (o := 3) rfl)
theorem dX12_saysNet_17 : decode cX12_saysNet 17 = .ok (.istore_n 2, 1) := dc_61 (gB_l lq_cX12_saysNet (p := 17) (o := 61) rfl)
theorem dX12_saysNet_18 : decode cX12_saysNet 18 = .ok (.iconst 0, 1) := dc_3 (gB_l lq_cX12_saysNet (p := 18) (o := 3) rfl)
theorem dX12_saysNet_19 : decode cX12_saysNet 19 = .ok (.istore_n 3, 1) := dc_62 (gB_l lq_cX12_saysNet (p := 19) (o := 62) rfl)
theorem dX12_saysNet_20 : decode cX12_saysNet 20 = .ok (.iload_n 3, 1) := dc_29 (gB_l lq_cX12_saysNet (p := 20) (o := 29) rfl)
theorem dX12_saysNet_21 : decode cX12_saysNet 21 = .ok (.aload_n 0, 1) := dc_42 (gB_l lq_cX12_saysNet (p := 21) (o := 42) rfl)
theorem dX12_saysNet_22 : decode cX12_saysNet 22 = .ok (.iload_n 1, 1) := dc_27 (gB_l lq_cX12_saysNet (p := 22) (o := 27) rfl)
theorem dX12_saysNet_23 : decode cX12_saysNet 23 = .ok (.invokevirtual 63, 3) := dc_182 (gB_l lq_cX12_saysNet (p := 23) (o := 182) rfl) (gB_l lq_cX12_saysNet (p := 24) (o := 0) rfl) (gB_l lq_cX12_saysNet (p := 25) (o := 63) rfl) rfl
theorem dX12_saysNet_26 : decode cX12_saysNet 26 = .ok (.if_icmp .ge 112, 3) := dc_162 (gB_l lq_cX12_saysNet (p := 26) (o := 162) rfl) (gB_l lq_cX12_saysNet (p := 27) (o := 0) rfl) (gB_l lq_cX12_saysNet (p := 28) (o := 112) rfl) rfl
theorem dX12_saysNet_29 : decode cX12_saysNet 29 = .ok (.iload_n 3, 1) := dc_29 (gB_l lq_cX12_saysNet (p := 29) (o := 29) rfl)
theorem dX12_saysNet_30 : decode cX12_saysNet 30 = .ok (.iconst 1, 1) := dc_4 (gB_l lq_cX12_saysNet (p := 30) (o := 4) rfl)
theorem dX12_saysNet_31 : decode cX12_saysNet 31 = .ok (.iadd, 1) := dc_96 (gB_l lq_cX12_saysNet (p := 31) (o := 96) rfl)
theorem dX12_saysNet_32 : decode cX12_saysNet 32 = .ok (.istore 4, 2) := dc_54 (gB_c lq_cX12_saysNet q1_cX12_saysNet 0 (o := 54) rfl) (gB_c lq_cX12_saysNet q1_cX12_saysNet 1 (o := 4) rfl)
theorem dX12_saysNet_34 : decode cX12_saysNet 34 = .ok (.iload 4, 2) := dc_21 (gB_c lq_cX12_saysNet q1_cX12_saysNet 2 (o := 21) rfl) (gB_c lq_cX12_saysNet q1_cX12_saysNet 3 (o := 4) rfl)
theorem dX12_saysNet_36 : decode cX12_saysNet 36 = .ok (.aload_n 0, 1) := dc_42 (gB_c lq_cX12_saysNet q1_cX12_saysNet 4 (o := 42) rfl)
theorem dX12_saysNet_37 : decode cX12_saysNet 37 = .ok (.iload_n 1, 1) := dc_27 (gB_c lq_cX12_saysNet q1_cX12_saysNet 5 (o := 27) rfl)
theorem dX12_saysNet_38 : decode cX12_saysNet 38 = .ok (.invokevirtual 63, 3) := dc_182 (gB_c lq_cX12_saysNet q1_cX12_saysNet 6 (o := 182) rfl) (gB_c lq_cX12_saysNet q1_cX12_saysNet 7 (o := 0) rfl) (gB_c lq_cX12_saysNet q1_cX12_saysNet 8 (o := 63) rfl) rfl
theorem dX12_saysNet_41 : decode cX12_saysNet 41 = .ok (.if_icmp .ge 91, 3) := dc_162 (gB_c lq_cX12_saysNet q1_cX12_saysNet 9 (o := 162) rfl) (gB_c lq_cX12_saysNet q1_cX12_saysNet 10 (o := 0) rfl) (gB_c lq_cX12_saysNet q1_cX12_saysNet 11 (o := 91) rfl) rfl
theorem dX12_saysNet_44 : decode cX12_saysNet 44 = .ok (.aload_n 0, 1) := dc_42 (gB_c lq_cX12_saysNet q1_cX12_saysNet 12 (o := 42) rfl)
theorem dX12_saysNet_45 : decode cX12_saysNet 45 = .ok (.iload_n 1, 1) := dc_27 (gB_c lq_cX12_saysNet q1_cX12_saysNet 13 (o := 27) rfl)
theorem dX12_saysNet_46 : decode cX12_saysNet 46 = .ok (.iload_n 3, 1) := dc_29 (gB_c lq_cX12_saysNet q1_cX12_saysNet 14 (o := 29) rfl)
theorem dX12_saysNet_47 : decode cX12_saysNet 47 = .ok (.iload 4, 2) := dc_21 (gB_c lq_cX12_saysNet q1_cX12_saysNet 15 (o := 21) rfl) (gB_c lq_cX12_saysNet q1_cX12_saysNet 16 (o := 4) rfl)
theorem dX12_saysNet_49 : decode cX12_saysNet 49 = .ok (.invokevirtual 76, 3) := dc_182 (gB_c lq_cX12_saysNet q1_cX12_saysNet 17 (o := 182) rfl) (gB_c lq_cX12_saysNet q1_cX12_saysNet 18 (o := 0) rfl) (gB_c lq_cX12_saysNet q1_cX12_saysNet 19 (o := 76) rfl) rfl
theorem dX12_saysNet_52 : decode cX12_saysNet 52 = .ok (.ifCond .ne 6, 3) := dc_154 (gB_c lq_cX12_saysNet q1_cX12_saysNet 20 (o := 154) rfl) (gB_c lq_cX12_saysNet q1_cX12_saysNet 21 (o := 0) rfl) (gB_c lq_cX12_saysNet q1_cX12_saysNet 22 (o := 6) rfl) rfl
theorem dX12_saysNet_55 : decode cX12_saysNet 55 = .ok (.goto 71, 3) := dc_167 (gB_c lq_cX12_saysNet q1_cX12_saysNet 23 (o := 167) rfl) (gB_c lq_cX12_saysNet q1_cX12_saysNet 24 (o := 0) rfl) (gB_c lq_cX12_saysNet q1_cX12_saysNet 25 (o := 71) rfl) rfl
theorem dX12_saysNet_58 : decode cX12_saysNet 58 = .ok (.aload_n 0, 1) := dc_42 (gB_c lq_cX12_saysNet q1_cX12_saysNet 26 (o := 42) rfl)
theorem dX12_saysNet_59 : decode cX12_saysNet 59 = .ok (.iload_n 2, 1) := dc_28 (gB_c lq_cX12_saysNet q1_cX12_saysNet 27 (o := 28) rfl)
theorem dX12_saysNet_60 : decode cX12_saysNet 60 = .ok (.ifCond .eq 9, 3) := dc_153 (gB_c lq_cX12_saysNet q1_cX12_saysNet 28 (o := 153) rfl) (gB_c lq_cX12_saysNet q1_cX12_saysNet 29 (o := 0) rfl) (gB_c lq_cX12_saysNet q1_cX12_saysNet 30 (o := 9) rfl) rfl
theorem dX12_saysNet_63 : decode cX12_saysNet 63 = .ok (.ldc_w 341, 3) := dc_19 (gB_c lq_cX12_saysNet q1_cX12_saysNet 31 (o := 19) rfl) (gB_c lq_cX12_saysNet q2_cX12_saysNet 0 (o := 1) rfl) (gB_c lq_cX12_saysNet q2_cX12_saysNet 1 (o := 85) rfl) rfl
theorem dX12_saysNet_66 : decode cX12_saysNet 66 = .ok (.goto 6, 3) := dc_167 (gB_c lq_cX12_saysNet q2_cX12_saysNet 2 (o := 167) rfl) (gB_c lq_cX12_saysNet q2_cX12_saysNet 3 (o := 0) rfl) (gB_c lq_cX12_saysNet q2_cX12_saysNet 4 (o := 6) rfl) rfl
theorem dX12_saysNet_69 : decode cX12_saysNet 69 = .ok (.ldc_w 343, 3) := dc_19 (gB_c lq_cX12_saysNet q2_cX12_saysNet 5 (o := 19) rfl) (gB_c lq_cX12_saysNet q2_cX12_saysNet 6 (o := 1) rfl) (gB_c lq_cX12_saysNet q2_cX12_saysNet 7 (o := 87) rfl) rfl
theorem dX12_saysNet_72 : decode cX12_saysNet 72 = .ok (.invokevirtual 337, 3) := dc_182 (gB_c lq_cX12_saysNet q2_cX12_saysNet 8 (o := 182) rfl) (gB_c lq_cX12_saysNet q2_cX12_saysNet 9 (o := 1) rfl) (gB_c lq_cX12_saysNet q2_cX12_saysNet 10 (o := 81) rfl) rfl
theorem dX12_saysNet_75 : decode cX12_saysNet 75 = .ok (.aload_n 0, 1) := dc_42 (gB_c lq_cX12_saysNet q2_cX12_saysNet 11 (o := 42) rfl)
theorem dX12_saysNet_76 : decode cX12_saysNet 76 = .ok (.iload_n 3, 1) := dc_29 (gB_c lq_cX12_saysNet q2_cX12_saysNet 12 (o := 29) rfl)
theorem dX12_saysNet_77 : decode cX12_saysNet 77 = .ok (.invokevirtual 332, 3) := dc_182 (gB_c lq_cX12_saysNet q2_cX12_saysNet 13 (o := 182) rfl) (gB_c lq_cX12_saysNet q2_cX12_saysNet 14 (o := 1) rfl) (gB_c lq_cX12_saysNet q2_cX12_saysNet 15 (o := 76) rfl) rfl
theorem dX12_saysNet_80 : decode cX12_saysNet 80 = .ok (.aload_n 0, 1) := dc_42 (gB_c lq_cX12_saysNet q2_cX12_saysNet 16 (o := 42) rfl)
theorem dX12_saysNet_81 : decode cX12_saysNet 81 = .ok (.ldc_w 345, 3) := dc_19 (gB_c lq_cX12_saysNet q2_cX12_saysNet 17 (o := 19) rfl) (gB_c lq_cX12_saysNet q2_cX12_saysNet 18 (o := 1) rfl) (gB_c lq_cX12_saysNet q2_cX12_saysNet 19 (o := 89) rfl) rfl
theorem dX12_saysNet_84 : decode cX12_saysNet 84 = .ok (.invokevirtual 337, 3) := dc_182 (gB_c lq_cX12_saysNet q2_cX12_saysNet 20 (o := 182) rfl) (gB_c lq_cX12_saysNet q2_cX12_saysNet 21 (o := 1) rfl) (gB_c lq_cX12_saysNet q2_cX12_saysNet 22 (o := 81) rfl) rfl
theorem dX12_saysNet_87 : decode cX12_saysNet 87 = .ok (.aload_n 0, 1) := dc_42 (gB_c lq_cX12_saysNet q2_cX12_saysNet 23 (o := 42) rfl)
theorem dX12_saysNet_88 : decode cX12_saysNet 88 = .ok (.iload 4, 2) := dc_21 (gB_c lq_cX12_saysNet q2_cX12_saysNet 24 (o := 21) rfl) (gB_c lq_cX12_saysNet q2_cX12_saysNet 25 (o := 4) rfl)
theorem dX12_saysNet_90 : decode cX12_saysNet 90 = .ok (.invokevirtual 332, 3) := dc_182 (gB_c lq_cX12_saysNet q2_cX12_saysNet 26 (o := 182) rfl) (gB_c lq_cX12_saysNet q2_cX12_saysNet 27 (o := 1) rfl) (gB_c lq_cX12_saysNet q2_cX12_saysNet 28 (o := 76) rfl) rfl
theorem dX12_saysNet_93 : decode cX12_saysNet 93 = .ok (.aload_n 0, 1) := dc_42 (gB_c lq_cX12_saysNet q2_cX12_saysNet 29 (o := 42) rfl)
theorem dX12_saysNet_94 : decode cX12_saysNet 94 = .ok (.iload_n 1, 1) := dc_27 (gB_c lq_cX12_saysNet q2_cX12_saysNet 30 (o := 27) rfl)
theorem dX12_saysNet_95 : decode cX12_saysNet 95 = .ok (.iload_n 3, 1) := dc_29 (gB_c lq_cX12_saysNet q2_cX12_saysNet 31 (o := 29) rfl)
theorem dX12_saysNet_96 : decode cX12_saysNet 96 = .ok (.iload 4, 2) := dc_21 (gB_c lq_cX12_saysNet q3_cX12_saysNet 0 (o := 21) rfl) (gB_c lq_cX12_saysNet q3_cX12_saysNet 1 (o := 4) rfl)
theorem dX12_saysNet_98 : decode cX12_saysNet 98 = .ok (.invokevirtual 76, 3) := dc_182 (gB_c lq_cX12_saysNet q3_cX12_saysNet 2 (o := 182) rfl) (gB_c lq_cX12_saysNet q3_cX12_saysNet 3 (o := 0) rfl) (gB_c lq_cX12_saysNet q3_cX12_saysNet 4 (o := 76) rfl) rfl
theorem dX12_saysNet_101 : decode cX12_saysNet 101 = .ok (.iconst 1, 1) := dc_4 (gB_c lq_cX12_saysNet q3_cX12_saysNet 5 (o := 4) rfl)
theorem dX12_saysNet_102 : decode cX12_saysNet 102 = .ok (.if_icmp .le 22, 3) := dc_164 (gB_c lq_cX12_saysNet q3_cX12_saysNet 6 (o := 164) rfl) (gB_c lq_cX12_saysNet q3_cX12_saysNet 7 (o := 0) rfl) (gB_c lq_cX12_saysNet q3_cX12_saysNet 8 (o := 22) rfl) rfl
theorem dX12_saysNet_105 : decode cX12_saysNet 105 = .ok (.aload_n 0, 1) := dc_42 (gB_c lq_cX12_saysNet q3_cX12_saysNet 9 (o := 42) rfl)
theorem dX12_saysNet_106 : decode cX12_saysNet 106 = .ok (.ldc_w 347, 3) := dc_19 (gB_c lq_cX12_saysNet q3_cX12_saysNet 10 (o := 19) rfl) (gB_c lq_cX12_saysNet q3_cX12_saysNet 11 (o := 1) rfl) (gB_c lq_cX12_saysNet q3_cX12_saysNet 12 (o := 91) rfl) rfl
theorem dX12_saysNet_109 : decode cX12_saysNet 109 = .ok (.invokevirtual 337, 3) := dc_182 (gB_c lq_cX12_saysNet q3_cX12_saysNet 13 (o := 182) rfl) (gB_c lq_cX12_saysNet q3_cX12_saysNet 14 (o := 1) rfl) (gB_c lq_cX12_saysNet q3_cX12_saysNet 15 (o := 81) rfl) rfl
theorem dX12_saysNet_112 : decode cX12_saysNet 112 = .ok (.aload_n 0, 1) := dc_42 (gB_c lq_cX12_saysNet q3_cX12_saysNet 16 (o := 42) rfl)
theorem dX12_saysNet_113 : decode cX12_saysNet 113 = .ok (.aload_n 0, 1) := dc_42 (gB_c lq_cX12_saysNet q3_cX12_saysNet 17 (o := 42) rfl)
theorem dX12_saysNet_114 : decode cX12_saysNet 114 = .ok (.iload_n 1, 1) := dc_27 (gB_c lq_cX12_saysNet q3_cX12_saysNet 18 (o := 27) rfl)
theorem dX12_saysNet_115 : decode cX12_saysNet 115 = .ok (.iload_n 3, 1) := dc_29 (gB_c lq_cX12_saysNet q3_cX12_saysNet 19 (o := 29) rfl)
theorem dX12_saysNet_116 : decode cX12_saysNet 116 = .ok (.iload 4, 2) := dc_21 (gB_c lq_cX12_saysNet q3_cX12_saysNet 20 (o := 21) rfl) (gB_c lq_cX12_saysNet q3_cX12_saysNet 21 (o := 4) rfl)
theorem dX12_saysNet_118 : decode cX12_saysNet 118 = .ok (.invokevirtual 76, 3) := dc_182 (gB_c lq_cX12_saysNet q3_cX12_saysNet 22 (o := 182) rfl) (gB_c lq_cX12_saysNet q3_cX12_saysNet 23 (o := 0) rfl) (gB_c lq_cX12_saysNet q3_cX12_saysNet 24 (o := 76) rfl) rfl
theorem dX12_saysNet_121 : decode cX12_saysNet 121 = .ok (.invokevirtual 332, 3) := dc_182 (gB_c lq_cX12_saysNet q3_cX12_saysNet 25 (o := 182) rfl) (gB_c lq_cX12_saysNet q3_cX12_saysNet 26 (o := 1) rfl) (gB_c lq_cX12_saysNet q3_cX12_saysNet 27 (o := 76) rfl) rfl
theorem dX12_saysNet_124 : decode cX12_saysNet 124 = .ok (.iconst 1, 1) := dc_4 (gB_c lq_cX12_saysNet q3_cX12_saysNet 28 (o := 4) rfl)
theorem dX12_saysNet_125 : decode cX12_saysNet 125 = .ok (.istore_n 2, 1) := dc_61 (gB_c lq_cX12_saysNet q3_cX12_saysNet 29 (o := 61) rfl)
theorem dX12_saysNet_126 : decode cX12_saysNet 126 = .ok (.iinc 4 1, 3) := dc_132 (gB_c lq_cX12_saysNet q3_cX12_saysNet 30 (o := 132) rfl) (gB_c lq_cX12_saysNet q3_cX12_saysNet 31 (o := 4) rfl) (gB_c lq_cX12_saysNet q4_cX12_saysNet 0 (o := 1) rfl) rfl
theorem dX12_saysNet_129 : decode cX12_saysNet 129 = .ok (.goto (-95), 3) := dc_167 (gB_c lq_cX12_saysNet q4_cX12_saysNet 1 (o := 167) rfl) (gB_c lq_cX12_saysNet q4_cX12_saysNet 2 (o := 255) rfl) (gB_c lq_cX12_saysNet q4_cX12_saysNet 3 (o := 161) rfl) rfl
theorem dX12_saysNet_132 : decode cX12_saysNet 132 = .ok (.iinc 3 1, 3) := dc_132 (gB_c lq_cX12_saysNet q4_cX12_saysNet 4 (o := 132) rfl) (gB_c lq_cX12_saysNet q4_cX12_saysNet 5 (o := 3) rfl) (gB_c lq_cX12_saysNet q4_cX12_saysNet 6 (o := 1) rfl) rfl
theorem dX12_saysNet_135 : decode cX12_saysNet 135 = .ok (.goto (-115), 3) := dc_167 (gB_c lq_cX12_saysNet q4_cX12_saysNet 7 (o := 167) rfl) (gB_c lq_cX12_saysNet q4_cX12_saysNet 8 (o := 255) rfl) (gB_c lq_cX12_saysNet q4_cX12_saysNet 9 (o := 141) rfl) rfl
theorem dX12_saysNet_138 : decode cX12_saysNet 138 = .ok (.aload_n 0, 1) := dc_42 (gB_c lq_cX12_saysNet q4_cX12_saysNet 10 (o := 42) rfl)
theorem dX12_saysNet_139 : decode cX12_saysNet 139 = .ok (.ldc_w 349, 3) := dc_19 (gB_c lq_cX12_saysNet q4_cX12_saysNet 11 (o := 19) rfl) (gB_c lq_cX12_saysNet q4_cX12_saysNet 12 (o := 1) rfl) (gB_c lq_cX12_saysNet q4_cX12_saysNet 13 (o := 93) rfl) rfl
theorem dX12_saysNet_142 : decode cX12_saysNet 142 = .ok (.invokevirtual 337, 3) := dc_182 (gB_c lq_cX12_saysNet q4_cX12_saysNet 14 (o := 182) rfl) (gB_c lq_cX12_saysNet q4_cX12_saysNet 15 (o := 1) rfl) (gB_c lq_cX12_saysNet q4_cX12_saysNet 16 (o := 81) rfl) rfl
theorem dX12_saysNet_145 : decode cX12_saysNet 145 = .ok (.iconst 0, 1) := dc_3 (gB_c lq_cX12_saysNet q4_cX12_saysNet 17 (o := 3) rfl)
theorem dX12_saysNet_146 : decode cX12_saysNet 146 = .ok (.istore_n 3, 1) := dc_62 (gB_c lq_cX12_saysNet q4_cX12_saysNet 18 (o := 62) rfl)
theorem dX12_saysNet_147 : decode cX12_saysNet 147 = .ok (.iload_n 3, 1) := dc_29 (gB_c lq_cX12_saysNet q4_cX12_saysNet 19 (o := 29) rfl)
theorem dX12_saysNet_148 : decode cX12_saysNet 148 = .ok (.aload_n 0, 1) := dc_42 (gB_c lq_cX12_saysNet q4_cX12_saysNet 20 (o := 42) rfl)
theorem dX12_saysNet_149 : decode cX12_saysNet 149 = .ok (.iload_n 1, 1) := dc_27 (gB_c lq_cX12_saysNet q4_cX12_saysNet 21 (o := 27) rfl)
theorem dX12_saysNet_150 : decode cX12_saysNet 150 = .ok (.invokevirtual 63, 3) := dc_182 (gB_c lq_cX12_saysNet q4_cX12_saysNet 22 (o := 182) rfl) (gB_c lq_cX12_saysNet q4_cX12_saysNet 23 (o := 0) rfl) (gB_c lq_cX12_saysNet q4_cX12_saysNet 24 (o := 63) rfl) rfl
theorem dX12_saysNet_153 : decode cX12_saysNet 153 = .ok (.if_icmp .ge 19, 3) := dc_162 (gB_c lq_cX12_saysNet q4_cX12_saysNet 25 (o := 162) rfl) (gB_c lq_cX12_saysNet q4_cX12_saysNet 26 (o := 0) rfl) (gB_c lq_cX12_saysNet q4_cX12_saysNet 27 (o := 19) rfl) rfl
theorem dX12_saysNet_156 : decode cX12_saysNet 156 = .ok (.aload_n 0, 1) := dc_42 (gB_c lq_cX12_saysNet q4_cX12_saysNet 28 (o := 42) rfl)
theorem dX12_saysNet_157 : decode cX12_saysNet 157 = .ok (.aload_n 0, 1) := dc_42 (gB_c lq_cX12_saysNet q4_cX12_saysNet 29 (o := 42) rfl)
theorem dX12_saysNet_158 : decode cX12_saysNet 158 = .ok (.iload_n 1, 1) := dc_27 (gB_c lq_cX12_saysNet q4_cX12_saysNet 30 (o := 27) rfl)
theorem dX12_saysNet_159 : decode cX12_saysNet 159 = .ok (.iload_n 3, 1) := dc_29 (gB_c lq_cX12_saysNet q4_cX12_saysNet 31 (o := 29) rfl)
theorem dX12_saysNet_160 : decode cX12_saysNet 160 = .ok (.invokevirtual 217, 3) := dc_182 (gB_c lq_cX12_saysNet q5_cX12_saysNet 0 (o := 182) rfl) (gB_c lq_cX12_saysNet q5_cX12_saysNet 1 (o := 0) rfl) (gB_c lq_cX12_saysNet q5_cX12_saysNet 2 (o := 217) rfl) rfl
theorem dX12_saysNet_163 : decode cX12_saysNet 163 = .ok (.invokevirtual 332, 3) := dc_182 (gB_c lq_cX12_saysNet q5_cX12_saysNet 3 (o := 182) rfl) (gB_c lq_cX12_saysNet q5_cX12_saysNet 4 (o := 1) rfl) (gB_c lq_cX12_saysNet q5_cX12_saysNet 5 (o := 76) rfl) rfl
theorem dX12_saysNet_166 : decode cX12_saysNet 166 = .ok (.iinc 3 1, 3) := dc_132 (gB_c lq_cX12_saysNet q5_cX12_saysNet 6 (o := 132) rfl) (gB_c lq_cX12_saysNet q5_cX12_saysNet 7 (o := 3) rfl) (gB_c lq_cX12_saysNet q5_cX12_saysNet 8 (o := 1) rfl) rfl
theorem dX12_saysNet_169 : decode cX12_saysNet 169 = .ok (.goto (-22), 3) := dc_167 (gB_c lq_cX12_saysNet q5_cX12_saysNet 9 (o := 167) rfl) (gB_c lq_cX12_saysNet q5_cX12_saysNet 10 (o := 255) rfl) (gB_c lq_cX12_saysNet q5_cX12_saysNet 11 (o := 234) rfl) rfl
theorem dX12_saysNet_172 : decode cX12_saysNet 172 = .ok (.aload_n 0, 1) := dc_42 (gB_c lq_cX12_saysNet q5_cX12_saysNet 12 (o := 42) rfl)
theorem dX12_saysNet_173 : decode cX12_saysNet 173 = .ok (.ldc_w 351, 3) := dc_19 (gB_c lq_cX12_saysNet q5_cX12_saysNet 13 (o := 19) rfl) (gB_c lq_cX12_saysNet q5_cX12_saysNet 14 (o := 1) rfl) (gB_c lq_cX12_saysNet q5_cX12_saysNet 15 (o := 95) rfl) rfl
theorem dX12_saysNet_176 : decode cX12_saysNet 176 = .ok (.invokevirtual 337, 3) := dc_182 (gB_c lq_cX12_saysNet q5_cX12_saysNet 16 (o := 182) rfl) (gB_c lq_cX12_saysNet q5_cX12_saysNet 17 (o := 1) rfl) (gB_c lq_cX12_saysNet q5_cX12_saysNet 18 (o := 81) rfl) rfl
theorem dX12_saysNet_179 : decode cX12_saysNet 179 = .ok (.return_, 1) := dc_177 (gB_c lq_cX12_saysNet q5_cX12_saysNet 19 (o := 177) rfl)
abbrev r1_cX12_saysNumber : List Nat := [180, 0, 193, 4, 96, 181, 0, 193, 177]
def a0_cX12_saysNumber : List Nat := [27, 16, 9, 164, 0, 11, 42, 27, 16, 10, 108, 182, 1, 76, 42, 180, 0, 50, 42, 180, 0, 193, 16, 48, 27, 16, 10, 112, 96, 79, 42, 89]
abbrev r0_cX12_saysNumber : List Nat := a0_cX12_saysNumber ++ r1_cX12_saysNumber
theorem lq_cX12_saysNumber : (cX12_saysNumber).data.toList.map UInt8.toNat = r0_cX12_saysNumber := by decide +kernel
theorem q1_cX12_saysNumber : ∀ i, (r0_cX12_saysNumber)[32 + i]? = (r1_cX12_saysNumber)[i]? := chn (A := a0_cX12_saysNumber) (B := r1_cX12_saysNumber) (n := 0) (k := 32) rfl (ch0 (R := r0_cX12_saysNumber))
theorem dX12_saysNumber_0 : decode cX12_saysNumber 0 = .ok (.iload_n 1, 1) := dc_27 (gB_l lq_cX12_saysNumber (p := 0) (o := 27) rfl)
theorem dX12_saysNumber_1 : decode cX12_saysNumber 1 = .ok (.bipush 9, 2) := dc_16 (gB_l lq_cX12_saysNumber (p := 1) (o := 16) rfl) (gB_l lq_cX12_saysNumber (p := 2) (o := 9) rfl) rfl
theorem dX12_saysNumber_3 : decode cX12_saysNumber 3 = .ok (.if_icmp .le 11, 3) := dc_164 (gB_l lq_cX12_saysNumber (p := 3) (o := 164) rfl) (gB_l lq_cX12_saysNumber (p := 4) (o := 0) rfl) (gB_l lq_cX12_saysNumber (p := 5) (o := 11) rfl) rfl
theorem dX12_saysNumber_6 : decode cX12_saysNumber 6 = .ok (.aload_n 0, 1) := dc_42 (gB_l lq_cX12_saysNumber (p := 6) (o := 42) rfl)
theorem dX12_saysNumber_7 : decode cX12_saysNumber 7 = .ok (.iload_n 1, 1) := dc_27 (gB_l lq_cX12_saysNumber (p := 7) (o := 27) rfl)
theorem dX12_saysNumber_8 : decode cX12_saysNumber 8 = .ok (.bipush 10, 2) := dc_16 (gB_l lq_cX12_saysNumber (p := 8) (o := 16) rfl) (gB_l lq_cX12_saysNumber (p := 9) (o := 10) rfl) rfl
theorem dX12_saysNumber_10 : decode cX12_saysNumber 10 = .ok (.idiv, 1) := dc_108 (gB_l lq_cX12_saysNumber (p := 10) (o := 108) rfl)
theorem dX12_saysNumber_11 : decode cX12_saysNumber 11 = .ok (.invokevirtual 332, 3) := dc_182 (gB_l lq_cX12_saysNumber (p := 11) (o := 182) rfl) (gB_l lq_cX12_saysNumber (p := 12) (o := 1) rfl) (gB_l lq_cX12_saysNumber (p := 13) (o := 76) rfl) rfl
theorem dX12_saysNumber_14 : decode cX12_saysNumber 14 = .ok (.aload_n 0, 1) := dc_42 (gB_l lq_cX12_saysNumber (p := 14) (o := 42) rfl)
theorem dX12_saysNumber_15 : decode cX12_saysNumber 15 = .ok (.getfield 50, 3) := dc_180 (gB_l lq_cX12_saysNumber (p := 15) (o := 180) rfl) (gB_l lq_cX12_saysNumber (p := 16) (o := 0) rfl) (gB_l lq_cX12_saysNumber (p := 17) (o := 50) rfl) rfl
theorem dX12_saysNumber_18 : decode cX12_saysNumber 18 = .ok (.aload_n 0, 1) := dc_42 (gB_l lq_cX12_saysNumber (p := 18) (o := 42) rfl)
theorem dX12_saysNumber_19 : decode cX12_saysNumber 19 = .ok (.getfield 193, 3) := dc_180 (gB_l lq_cX12_saysNumber (p := 19) (o := 180) rfl) (gB_l lq_cX12_saysNumber (p := 20) (o := 0) rfl) (gB_l lq_cX12_saysNumber (p := 21) (o := 193) rfl) rfl
theorem dX12_saysNumber_22 : decode cX12_saysNumber 22 = .ok (.bipush 48, 2) := dc_16 (gB_l lq_cX12_saysNumber (p := 22) (o := 16) rfl) (gB_l lq_cX12_saysNumber (p := 23) (o := 48) rfl) rfl
theorem dX12_saysNumber_24 : decode cX12_saysNumber 24 = .ok (.iload_n 1, 1) := dc_27 (gB_l lq_cX12_saysNumber (p := 24) (o := 27) rfl)
theorem dX12_saysNumber_25 : decode cX12_saysNumber 25 = .ok (.bipush 10, 2) := dc_16 (gB_l lq_cX12_saysNumber (p := 25) (o := 16) rfl) (gB_l lq_cX12_saysNumber (p := 26) (o := 10) rfl) rfl
theorem dX12_saysNumber_27 : decode cX12_saysNumber 27 = .ok (.irem, 1) := dc_112 (gB_l lq_cX12_saysNumber (p := 27) (o := 112) rfl)
theorem dX12_saysNumber_28 : decode cX12_saysNumber 28 = .ok (.iadd, 1) := dc_96 (gB_l lq_cX12_saysNumber (p := 28) (o := 96) rfl)
theorem dX12_saysNumber_29 : decode cX12_saysNumber 29 = .ok (.iastore, 1) := dc_79 (gB_l lq_cX12_saysNumber (p := 29) (o := 79) rfl)
theorem dX12_saysNumber_30 : decode cX12_saysNumber 30 = .ok (.aload_n 0, 1) := dc_42 (gB_l lq_cX12_saysNumber (p := 30) (o := 42) rfl)
theorem dX12_saysNumber_31 : decode cX12_saysNumber 31 = .ok (.dup, 1) := dc_89 (gB_l lq_cX12_saysNumber (p := 31) (o := 89) rfl)
theorem dX12_saysNumber_32 : decode cX12_saysNumber 32 = .ok (.getfield 193, 3) := dc_180 (gB_c lq_cX12_saysNumber q1_cX12_saysNumber 0 (o := 180) rfl) (gB_c lq_cX12_saysNumber q1_cX12_saysNumber 1 (o := 0) rfl) (gB_c lq_cX12_saysNumber q1_cX12_saysNumber 2 (o := 193) rfl) rfl
theorem dX12_saysNumber_35 : decode cX12_saysNumber 35 = .ok (.iconst 1, 1) := dc_4 (gB_c lq_cX12_saysNumber q1_cX12_saysNumber 3 (o := 4) rfl)
theorem dX12_saysNumber_36 : decode cX12_saysNumber 36 = .ok (.iadd, 1) := dc_96 (gB_c lq_cX12_saysNumber q1_cX12_saysNumber 4 (o := 96) rfl)
theorem dX12_saysNumber_37 : decode cX12_saysNumber 37 = .ok (.putfield 193, 3) := dc_181 (gB_c lq_cX12_saysNumber q1_cX12_saysNumber 5 (o := 181) rfl) (gB_c lq_cX12_saysNumber q1_cX12_saysNumber 6 (o := 0) rfl) (gB_c lq_cX12_saysNumber q1_cX12_saysNumber 7 (o := 193) rfl) rfl
theorem dX12_saysNumber_40 : decode cX12_saysNumber 40 = .ok (.return_, 1) := dc_177 (gB_c lq_cX12_saysNumber q1_cX12_saysNumber 8 (o := 177) rfl)
abbrev r1_cX12_split : List Nat := [53, 184, 0, 55, 153, 0, 13, 42, 27, 28, 29, 182, 0, 229, 167, 0, 5, 16, 254, 172]
def a0_cX12_split : List Nat := [42, 27, 182, 0, 67, 153, 0, 44, 28, 133, 9, 4, 42, 27, 182, 0, 63, 120, 4, 100, 133, 184, 0, 55, 153, 0, 25, 29, 133, 9, 20, 0]
abbrev r0_cX12_split : List Nat := a0_cX12_split ++ r1_cX12_split
theorem lq_cX12_split : (cX12_split).data.toList.map UInt8.toNat = r0_cX12_split := by decide +kernel
theorem q1_cX12_split : ∀ i, (r0_cX12_split)[32 + i]? = (r1_cX12_split)[i]? := chn (A := a0_cX12_split) (B := r1_cX12_split) (n := 0) (k := 32) rfl (ch0 (R := r0_cX12_split))
theorem dX12_split_0 : decode cX12_split 0 = .ok (.aload_n 0, 1) := dc_42 (gB_l lq_cX12_split (p := 0) (o := 42) rfl)
theorem dX12_split_1 : decode cX12_split 1 = .ok (.iload_n 1, 1) := dc_27 (gB_l lq_cX12_split (p := 1) (o := 27) rfl)
theorem dX12_split_2 : decode cX12_split 2 = .ok (.invokevirtual 67, 3) := dc_182 (gB_l lq_cX12_split (p := 2) (o := 182) rfl) (gB_l lq_cX12_split (p := 3) (o := 0) rfl) (gB_l lq_cX12_split (p := 4) (o := 67) rfl) rfl
theorem dX12_split_5 : decode cX12_split 5 = .ok (.ifCond .eq 44, 3) := dc_153 (gB_l lq_cX12_split (p := 5) (o := 153) rfl) (gB_l lq_cX12_split (p := 6) (o := 0) rfl) (gB_l lq_cX12_split (p := 7) (o := 44) rfl) rfl
theorem dX12_split_8 : decode cX12_split 8 = .ok (.iload_n 2, 1) := dc_28 (gB_l lq_cX12_split (p := 8) (o := 28) rfl)
theorem dX12_split_9 : decode cX12_split 9 = .ok (.i2l, 1) := dc_133 (gB_l lq_cX12_split (p := 9) (o := 133) rfl)
theorem dX12_split_10 : decode cX12_split 10 = .ok (.lconst 0, 1) := dc_9 (gB_l lq_cX12_split (p := 10) (o := 9) rfl)
theorem dX12_split_11 : decode cX12_split 11 = .ok (.iconst 1, 1) := dc_4 (gB_l lq_cX12_split (p := 11) (o := 4) rfl)
theorem dX12_split_12 : decode cX12_split 12 = .ok (.aload_n 0, 1) := dc_42 (gB_l lq_cX12_split (p := 12) (o := 42) rfl)
theorem dX12_split_13 : decode cX12_split 13 = .ok (.iload_n 1, 1) := dc_27 (gB_l lq_cX12_split (p := 13) (o := 27) rfl)
theorem dX12_split_14 : decode cX12_split 14 = .ok (.invokevirtual 63, 3) := dc_182 (gB_l lq_cX12_split (p := 14) (o := 182) rfl) (gB_l lq_cX12_split (p := 15) (o := 0) rfl) (gB_l lq_cX12_split (p := 16) (o := 63) rfl) rfl
theorem dX12_split_17 : decode cX12_split 17 = .ok (.ishl, 1) := dc_120 (gB_l lq_cX12_split (p := 17) (o := 120) rfl)
theorem dX12_split_18 : decode cX12_split 18 = .ok (.iconst 1, 1) := dc_4 (gB_l lq_cX12_split (p := 18) (o := 4) rfl)
theorem dX12_split_19 : decode cX12_split 19 = .ok (.isub, 1) := dc_100 (gB_l lq_cX12_split (p := 19) (o := 100) rfl)
theorem dX12_split_20 : decode cX12_split 20 = .ok (.i2l, 1) := dc_133 (gB_l lq_cX12_split (p := 20) (o := 133) rfl)
theorem dX12_split_21 : decode cX12_split 21 = .ok (.invokestatic 55, 3) := dc_184 (gB_l lq_cX12_split (p := 21) (o := 184) rfl) (gB_l lq_cX12_split (p := 22) (o := 0) rfl) (gB_l lq_cX12_split (p := 23) (o := 55) rfl) rfl
theorem dX12_split_24 : decode cX12_split 24 = .ok (.ifCond .eq 25, 3) := dc_153 (gB_l lq_cX12_split (p := 24) (o := 153) rfl) (gB_l lq_cX12_split (p := 25) (o := 0) rfl) (gB_l lq_cX12_split (p := 26) (o := 25) rfl) rfl
theorem dX12_split_27 : decode cX12_split 27 = .ok (.iload_n 3, 1) := dc_29 (gB_l lq_cX12_split (p := 27) (o := 29) rfl)
theorem dX12_split_28 : decode cX12_split 28 = .ok (.i2l, 1) := dc_133 (gB_l lq_cX12_split (p := 28) (o := 133) rfl)
theorem dX12_split_29 : decode cX12_split 29 = .ok (.lconst 0, 1) := dc_9 (gB_l lq_cX12_split (p := 29) (o := 9) rfl)
theorem dX12_split_30 : decode cX12_split 30 = .ok (.ldc2_w 53, 3) := dc_20 (gB_l lq_cX12_split (p := 30) (o := 20) rfl) (gB_l lq_cX12_split (p := 31) (o := 0) rfl) (gB_c lq_cX12_split q1_cX12_split 0 (o := 53) rfl) rfl
theorem dX12_split_33 : decode cX12_split 33 = .ok (.invokestatic 55, 3) := dc_184 (gB_c lq_cX12_split q1_cX12_split 1 (o := 184) rfl) (gB_c lq_cX12_split q1_cX12_split 2 (o := 0) rfl) (gB_c lq_cX12_split q1_cX12_split 3 (o := 55) rfl) rfl
theorem dX12_split_36 : decode cX12_split 36 = .ok (.ifCond .eq 13, 3) := dc_153 (gB_c lq_cX12_split q1_cX12_split 4 (o := 153) rfl) (gB_c lq_cX12_split q1_cX12_split 5 (o := 0) rfl) (gB_c lq_cX12_split q1_cX12_split 6 (o := 13) rfl) rfl
theorem dX12_split_39 : decode cX12_split 39 = .ok (.aload_n 0, 1) := dc_42 (gB_c lq_cX12_split q1_cX12_split 7 (o := 42) rfl)
theorem dX12_split_40 : decode cX12_split 40 = .ok (.iload_n 1, 1) := dc_27 (gB_c lq_cX12_split q1_cX12_split 8 (o := 27) rfl)
theorem dX12_split_41 : decode cX12_split 41 = .ok (.iload_n 2, 1) := dc_28 (gB_c lq_cX12_split q1_cX12_split 9 (o := 28) rfl)
theorem dX12_split_42 : decode cX12_split 42 = .ok (.iload_n 3, 1) := dc_29 (gB_c lq_cX12_split q1_cX12_split 10 (o := 29) rfl)
theorem dX12_split_43 : decode cX12_split 43 = .ok (.invokevirtual 229, 3) := dc_182 (gB_c lq_cX12_split q1_cX12_split 11 (o := 182) rfl) (gB_c lq_cX12_split q1_cX12_split 12 (o := 0) rfl) (gB_c lq_cX12_split q1_cX12_split 13 (o := 229) rfl) rfl
theorem dX12_split_46 : decode cX12_split 46 = .ok (.goto 5, 3) := dc_167 (gB_c lq_cX12_split q1_cX12_split 14 (o := 167) rfl) (gB_c lq_cX12_split q1_cX12_split 15 (o := 0) rfl) (gB_c lq_cX12_split q1_cX12_split 16 (o := 5) rfl) rfl
theorem dX12_split_49 : decode cX12_split 49 = .ok (.bipush (-2), 2) := dc_16 (gB_c lq_cX12_split q1_cX12_split 17 (o := 16) rfl) (gB_c lq_cX12_split q1_cX12_split 18 (o := 254) rfl) rfl
theorem dX12_split_51 : decode cX12_split 51 = .ok (.ireturn, 1) := dc_172 (gB_c lq_cX12_split q1_cX12_split 19 (o := 172) rfl)
abbrev r5_cX12_splitOf : List Nat := [216, 132, 5, 1, 167, 255, 98, 21, 4, 172]
def a4_cX12_splitOf : List Nat := [21, 4, 28, 21, 7, 184, 0, 166, 153, 0, 7, 3, 167, 0, 12, 42, 27, 21, 5, 21, 7, 182, 0, 76, 96, 54, 4, 132, 7, 1, 167, 255]
abbrev r4_cX12_splitOf : List Nat := a4_cX12_splitOf ++ r5_cX12_splitOf
def a3_cX12_splitOf : List Nat := [167, 0, 4, 3, 96, 54, 4, 167, 0, 58, 28, 21, 5, 184, 0, 166, 153, 0, 49, 3, 54, 7, 21, 7, 42, 27, 182, 0, 63, 162, 0, 36]
abbrev r3_cX12_splitOf : List Nat := a3_cX12_splitOf ++ r4_cX12_splitOf
def a2_cX12_splitOf : List Nat := [167, 0, 4, 3, 96, 54, 4, 167, 0, 90, 29, 5, 160, 0, 30, 21, 4, 28, 21, 5, 184, 0, 166, 154, 0, 12, 21, 6, 153, 0, 7, 4]
abbrev r2_cX12_splitOf : List Nat := a2_cX12_splitOf ++ r3_cX12_splitOf
def a1_cX12_splitOf : List Nat := [28, 2, 130, 167, 0, 4, 28, 126, 54, 6, 29, 4, 160, 0, 30, 21, 4, 28, 21, 5, 184, 0, 166, 153, 0, 12, 21, 6, 153, 0, 7, 4]
abbrev r1_cX12_splitOf : List Nat := a1_cX12_splitOf ++ r2_cX12_splitOf
def a0_cX12_splitOf : List Nat := [3, 54, 4, 3, 54, 5, 21, 5, 42, 27, 182, 0, 63, 162, 0, 154, 42, 27, 21, 5, 182, 0, 80, 28, 21, 5, 184, 0, 166, 153, 0, 9]
abbrev r0_cX12_splitOf : List Nat := a0_cX12_splitOf ++ r1_cX12_splitOf
theorem lq_cX12_splitOf : (cX12_splitOf).data.toList.map UInt8.toNat = r0_cX12_splitOf := by decide +kernel
theorem q1_cX12_splitOf : ∀ i, (r0_cX12_splitOf)[32 + i]? = (r1_cX12_splitOf)[i]? := chn (A := a0_cX12_splitOf) (B := r1_cX12_splitOf) (n := 0) (k := 32) rfl (ch0 (R := r0_cX12_splitOf))
theorem q2_cX12_splitOf : ∀ i, (r0_cX12_splitOf)[64 + i]? = (r2_cX12_splitOf)[i]? := chn (A := a1_cX12_splitOf) (B := r2_cX12_splitOf) (n := 32) (k := 32) rfl q1_cX12_splitOf
theorem q3_cX12_splitOf : ∀ i, (r0_cX12_splitOf)[96 + i]? = (r3_cX12_splitOf)[i]? := chn (A := a2_cX12_splitOf) (B := r3_cX12_splitOf) (n := 64) (k := 32) rfl q2_cX12_splitOf
theorem q4_cX12_splitOf : ∀ i, (r0_cX12_splitOf)[128 + i]? = (r4_cX12_splitOf)[i]? := chn (A := a3_cX12_splitOf) (B := r4_cX12_splitOf) (n := 96) (k := 32) rfl q3_cX12_splitOf
theorem q5_cX12_splitOf : ∀ i, (r0_cX12_splitOf)[160 + i]? = (r5_cX12_splitOf)[i]? := chn (A := a4_cX12_splitOf) (B := r5_cX12_splitOf) (n := 128) (k := 32) rfl q4_cX12_splitOf
theorem dX12_splitOf_0 : decode cX12_splitOf 0 = .ok (.iconst 0, 1) := dc_3 (gB_l lq_cX12_splitOf (p := 0) (o := 3) rfl)
theorem dX12_splitOf_1 : decode cX12_splitOf 1 = .ok (.istore 4, 2) := dc_54 (gB_l lq_cX12_splitOf (p := 1) (o := 54) rfl) (gB_l lq_cX12_splitOf (p := 2) (o := 4) rfl)
theorem dX12_splitOf_3 : decode cX12_splitOf 3 = .ok (.iconst 0, 1) := dc_3 (gB_l lq_cX12_splitOf (p := 3) (o := 3) rfl)
theorem dX12_splitOf_4 : decode cX12_splitOf 4 = .ok (.istore 5, 2) := dc_54 (gB_l lq_cX12_splitOf (p := 4) (o := 54) rfl) (gB_l lq_cX12_splitOf (p := 5) (o := 5) rfl)
theorem dX12_splitOf_6 : decode cX12_splitOf 6 = .ok (.iload 5, 2) := dc_21 (gB_l lq_cX12_splitOf (p := 6) (o := 21) rfl) (gB_l lq_cX12_splitOf (p := 7) (o := 5) rfl)
theorem dX12_splitOf_8 : decode cX12_splitOf 8 = .ok (.aload_n 0, 1) := dc_42 (gB_l lq_cX12_splitOf (p := 8) (o := 42) rfl)
theorem dX12_splitOf_9 : decode cX12_splitOf 9 = .ok (.iload_n 1, 1) := dc_27 (gB_l lq_cX12_splitOf (p := 9) (o := 27) rfl)
theorem dX12_splitOf_10 : decode cX12_splitOf 10 = .ok (.invokevirtual 63, 3) := dc_182 (gB_l lq_cX12_splitOf (p := 10) (o := 182) rfl) (gB_l lq_cX12_splitOf (p := 11) (o := 0) rfl) (gB_l lq_cX12_splitOf (p := 12) (o := 63) rfl) rfl
theorem dX12_splitOf_13 : decode cX12_splitOf 13 = .ok (.if_icmp .ge 154, 3) := dc_162 (gB_l lq_cX12_splitOf (p := 13) (o := 162) rfl) (gB_l lq_cX12_splitOf (p := 14) (o := 0) rfl) (gB_l lq_cX12_splitOf (p := 15) (o := 154) rfl) rfl
theorem dX12_splitOf_16 : decode cX12_splitOf 16 = .ok (.aload_n 0, 1) := dc_42 (gB_l lq_cX12_splitOf (p := 16) (o := 42) rfl)
theorem dX12_splitOf_17 : decode cX12_splitOf 17 = .ok (.iload_n 1, 1) := dc_27 (gB_l lq_cX12_splitOf (p := 17) (o := 27) rfl)
theorem dX12_splitOf_18 : decode cX12_splitOf 18 = .ok (.iload 5, 2) := dc_21 (gB_l lq_cX12_splitOf (p := 18) (o := 21) rfl) (gB_l lq_cX12_splitOf (p := 19) (o := 5) rfl)
theorem dX12_splitOf_20 : decode cX12_splitOf 20 = .ok (.invokevirtual 80, 3) := dc_182 (gB_l lq_cX12_splitOf (p := 20) (o := 182) rfl) (gB_l lq_cX12_splitOf (p := 21) (o := 0) rfl) (gB_l lq_cX12_splitOf (p := 22) (o := 80) rfl) rfl
theorem dX12_splitOf_23 : decode cX12_splitOf 23 = .ok (.iload_n 2, 1) := dc_28 (gB_l lq_cX12_splitOf (p := 23) (o := 28) rfl)
theorem dX12_splitOf_24 : decode cX12_splitOf 24 = .ok (.iload 5, 2) := dc_21 (gB_l lq_cX12_splitOf (p := 24) (o := 21) rfl) (gB_l lq_cX12_splitOf (p := 25) (o := 5) rfl)
theorem dX12_splitOf_26 : decode cX12_splitOf 26 = .ok (.invokestatic 166, 3) := dc_184 (gB_l lq_cX12_splitOf (p := 26) (o := 184) rfl) (gB_l lq_cX12_splitOf (p := 27) (o := 0) rfl) (gB_l lq_cX12_splitOf (p := 28) (o := 166) rfl) rfl
theorem dX12_splitOf_29 : decode cX12_splitOf 29 = .ok (.ifCond .eq 9, 3) := dc_153 (gB_l lq_cX12_splitOf (p := 29) (o := 153) rfl) (gB_l lq_cX12_splitOf (p := 30) (o := 0) rfl) (gB_l lq_cX12_splitOf (p := 31) (o := 9) rfl) rfl
theorem dX12_splitOf_32 : decode cX12_splitOf 32 = .ok (.iload_n 2, 1) := dc_28 (gB_c lq_cX12_splitOf q1_cX12_splitOf 0 (o := 28) rfl)
theorem dX12_splitOf_33 : decode cX12_splitOf 33 = .ok (.iconst (-1), 1) := dc_2 (gB_c lq_cX12_splitOf q1_cX12_splitOf 1 (o := 2) rfl)
theorem dX12_splitOf_34 : decode cX12_splitOf 34 = .ok (.ixor, 1) := dc_130 (gB_c lq_cX12_splitOf q1_cX12_splitOf 2 (o := 130) rfl)
theorem dX12_splitOf_35 : decode cX12_splitOf 35 = .ok (.goto 4, 3) := dc_167 (gB_c lq_cX12_splitOf q1_cX12_splitOf 3 (o := 167) rfl) (gB_c lq_cX12_splitOf q1_cX12_splitOf 4 (o := 0) rfl) (gB_c lq_cX12_splitOf q1_cX12_splitOf 5 (o := 4) rfl) rfl
theorem dX12_splitOf_38 : decode cX12_splitOf 38 = .ok (.iload_n 2, 1) := dc_28 (gB_c lq_cX12_splitOf q1_cX12_splitOf 6 (o := 28) rfl)
theorem dX12_splitOf_39 : decode cX12_splitOf 39 = .ok (.iand, 1) := dc_126 (gB_c lq_cX12_splitOf q1_cX12_splitOf 7 (o := 126) rfl)
theorem dX12_splitOf_40 : decode cX12_splitOf 40 = .ok (.istore 6, 2) := dc_54 (gB_c lq_cX12_splitOf q1_cX12_splitOf 8 (o := 54) rfl) (gB_c lq_cX12_splitOf q1_cX12_splitOf 9 (o := 6) rfl)
theorem dX12_splitOf_42 : decode cX12_splitOf 42 = .ok (.iload_n 3, 1) := dc_29 (gB_c lq_cX12_splitOf q1_cX12_splitOf 10 (o := 29) rfl)
theorem dX12_splitOf_43 : decode cX12_splitOf 43 = .ok (.iconst 1, 1) := dc_4 (gB_c lq_cX12_splitOf q1_cX12_splitOf 11 (o := 4) rfl)
theorem dX12_splitOf_44 : decode cX12_splitOf 44 = .ok (.if_icmp .ne 30, 3) := dc_160 (gB_c lq_cX12_splitOf q1_cX12_splitOf 12 (o := 160) rfl) (gB_c lq_cX12_splitOf q1_cX12_splitOf 13 (o := 0) rfl) (gB_c lq_cX12_splitOf q1_cX12_splitOf 14 (o := 30) rfl) rfl
theorem dX12_splitOf_47 : decode cX12_splitOf 47 = .ok (.iload 4, 2) := dc_21 (gB_c lq_cX12_splitOf q1_cX12_splitOf 15 (o := 21) rfl) (gB_c lq_cX12_splitOf q1_cX12_splitOf 16 (o := 4) rfl)
theorem dX12_splitOf_49 : decode cX12_splitOf 49 = .ok (.iload_n 2, 1) := dc_28 (gB_c lq_cX12_splitOf q1_cX12_splitOf 17 (o := 28) rfl)
theorem dX12_splitOf_50 : decode cX12_splitOf 50 = .ok (.iload 5, 2) := dc_21 (gB_c lq_cX12_splitOf q1_cX12_splitOf 18 (o := 21) rfl) (gB_c lq_cX12_splitOf q1_cX12_splitOf 19 (o := 5) rfl)
theorem dX12_splitOf_52 : decode cX12_splitOf 52 = .ok (.invokestatic 166, 3) := dc_184 (gB_c lq_cX12_splitOf q1_cX12_splitOf 20 (o := 184) rfl) (gB_c lq_cX12_splitOf q1_cX12_splitOf 21 (o := 0) rfl) (gB_c lq_cX12_splitOf q1_cX12_splitOf 22 (o := 166) rfl) rfl
theorem dX12_splitOf_55 : decode cX12_splitOf 55 = .ok (.ifCond .eq 12, 3) := dc_153 (gB_c lq_cX12_splitOf q1_cX12_splitOf 23 (o := 153) rfl) (gB_c lq_cX12_splitOf q1_cX12_splitOf 24 (o := 0) rfl) (gB_c lq_cX12_splitOf q1_cX12_splitOf 25 (o := 12) rfl) rfl
theorem dX12_splitOf_58 : decode cX12_splitOf 58 = .ok (.iload 6, 2) := dc_21 (gB_c lq_cX12_splitOf q1_cX12_splitOf 26 (o := 21) rfl) (gB_c lq_cX12_splitOf q1_cX12_splitOf 27 (o := 6) rfl)
theorem dX12_splitOf_60 : decode cX12_splitOf 60 = .ok (.ifCond .eq 7, 3) := dc_153 (gB_c lq_cX12_splitOf q1_cX12_splitOf 28 (o := 153) rfl) (gB_c lq_cX12_splitOf q1_cX12_splitOf 29 (o := 0) rfl) (gB_c lq_cX12_splitOf q1_cX12_splitOf 30 (o := 7) rfl) rfl
theorem dX12_splitOf_63 : decode cX12_splitOf 63 = .ok (.iconst 1, 1) := dc_4 (gB_c lq_cX12_splitOf q1_cX12_splitOf 31 (o := 4) rfl)
theorem dX12_splitOf_64 : decode cX12_splitOf 64 = .ok (.goto 4, 3) := dc_167 (gB_c lq_cX12_splitOf q2_cX12_splitOf 0 (o := 167) rfl) (gB_c lq_cX12_splitOf q2_cX12_splitOf 1 (o := 0) rfl) (gB_c lq_cX12_splitOf q2_cX12_splitOf 2 (o := 4) rfl) rfl
theorem dX12_splitOf_67 : decode cX12_splitOf 67 = .ok (.iconst 0, 1) := dc_3 (gB_c lq_cX12_splitOf q2_cX12_splitOf 3 (o := 3) rfl)
theorem dX12_splitOf_68 : decode cX12_splitOf 68 = .ok (.iadd, 1) := dc_96 (gB_c lq_cX12_splitOf q2_cX12_splitOf 4 (o := 96) rfl)
theorem dX12_splitOf_69 : decode cX12_splitOf 69 = .ok (.istore 4, 2) := dc_54 (gB_c lq_cX12_splitOf q2_cX12_splitOf 5 (o := 54) rfl) (gB_c lq_cX12_splitOf q2_cX12_splitOf 6 (o := 4) rfl)
theorem dX12_splitOf_71 : decode cX12_splitOf 71 = .ok (.goto 90, 3) := dc_167 (gB_c lq_cX12_splitOf q2_cX12_splitOf 7 (o := 167) rfl) (gB_c lq_cX12_splitOf q2_cX12_splitOf 8 (o := 0) rfl) (gB_c lq_cX12_splitOf q2_cX12_splitOf 9 (o := 90) rfl) rfl
theorem dX12_splitOf_74 : decode cX12_splitOf 74 = .ok (.iload_n 3, 1) := dc_29 (gB_c lq_cX12_splitOf q2_cX12_splitOf 10 (o := 29) rfl)
theorem dX12_splitOf_75 : decode cX12_splitOf 75 = .ok (.iconst 2, 1) := dc_5 (gB_c lq_cX12_splitOf q2_cX12_splitOf 11 (o := 5) rfl)
theorem dX12_splitOf_76 : decode cX12_splitOf 76 = .ok (.if_icmp .ne 30, 3) := dc_160 (gB_c lq_cX12_splitOf q2_cX12_splitOf 12 (o := 160) rfl) (gB_c lq_cX12_splitOf q2_cX12_splitOf 13 (o := 0) rfl) (gB_c lq_cX12_splitOf q2_cX12_splitOf 14 (o := 30) rfl) rfl
theorem dX12_splitOf_79 : decode cX12_splitOf 79 = .ok (.iload 4, 2) := dc_21 (gB_c lq_cX12_splitOf q2_cX12_splitOf 15 (o := 21) rfl) (gB_c lq_cX12_splitOf q2_cX12_splitOf 16 (o := 4) rfl)
theorem dX12_splitOf_81 : decode cX12_splitOf 81 = .ok (.iload_n 2, 1) := dc_28 (gB_c lq_cX12_splitOf q2_cX12_splitOf 17 (o := 28) rfl)
theorem dX12_splitOf_82 : decode cX12_splitOf 82 = .ok (.iload 5, 2) := dc_21 (gB_c lq_cX12_splitOf q2_cX12_splitOf 18 (o := 21) rfl) (gB_c lq_cX12_splitOf q2_cX12_splitOf 19 (o := 5) rfl)
theorem dX12_splitOf_84 : decode cX12_splitOf 84 = .ok (.invokestatic 166, 3) := dc_184 (gB_c lq_cX12_splitOf q2_cX12_splitOf 20 (o := 184) rfl) (gB_c lq_cX12_splitOf q2_cX12_splitOf 21 (o := 0) rfl) (gB_c lq_cX12_splitOf q2_cX12_splitOf 22 (o := 166) rfl) rfl
theorem dX12_splitOf_87 : decode cX12_splitOf 87 = .ok (.ifCond .ne 12, 3) := dc_154 (gB_c lq_cX12_splitOf q2_cX12_splitOf 23 (o := 154) rfl) (gB_c lq_cX12_splitOf q2_cX12_splitOf 24 (o := 0) rfl) (gB_c lq_cX12_splitOf q2_cX12_splitOf 25 (o := 12) rfl) rfl
theorem dX12_splitOf_90 : decode cX12_splitOf 90 = .ok (.iload 6, 2) := dc_21 (gB_c lq_cX12_splitOf q2_cX12_splitOf 26 (o := 21) rfl) (gB_c lq_cX12_splitOf q2_cX12_splitOf 27 (o := 6) rfl)
theorem dX12_splitOf_92 : decode cX12_splitOf 92 = .ok (.ifCond .eq 7, 3) := dc_153 (gB_c lq_cX12_splitOf q2_cX12_splitOf 28 (o := 153) rfl) (gB_c lq_cX12_splitOf q2_cX12_splitOf 29 (o := 0) rfl) (gB_c lq_cX12_splitOf q2_cX12_splitOf 30 (o := 7) rfl) rfl
theorem dX12_splitOf_95 : decode cX12_splitOf 95 = .ok (.iconst 1, 1) := dc_4 (gB_c lq_cX12_splitOf q2_cX12_splitOf 31 (o := 4) rfl)
theorem dX12_splitOf_96 : decode cX12_splitOf 96 = .ok (.goto 4, 3) := dc_167 (gB_c lq_cX12_splitOf q3_cX12_splitOf 0 (o := 167) rfl) (gB_c lq_cX12_splitOf q3_cX12_splitOf 1 (o := 0) rfl) (gB_c lq_cX12_splitOf q3_cX12_splitOf 2 (o := 4) rfl) rfl
theorem dX12_splitOf_99 : decode cX12_splitOf 99 = .ok (.iconst 0, 1) := dc_3 (gB_c lq_cX12_splitOf q3_cX12_splitOf 3 (o := 3) rfl)
theorem dX12_splitOf_100 : decode cX12_splitOf 100 = .ok (.iadd, 1) := dc_96 (gB_c lq_cX12_splitOf q3_cX12_splitOf 4 (o := 96) rfl)
theorem dX12_splitOf_101 : decode cX12_splitOf 101 = .ok (.istore 4, 2) := dc_54 (gB_c lq_cX12_splitOf q3_cX12_splitOf 5 (o := 54) rfl) (gB_c lq_cX12_splitOf q3_cX12_splitOf 6 (o := 4) rfl)
theorem dX12_splitOf_103 : decode cX12_splitOf 103 = .ok (.goto 58, 3) := dc_167 (gB_c lq_cX12_splitOf q3_cX12_splitOf 7 (o := 167) rfl) (gB_c lq_cX12_splitOf q3_cX12_splitOf 8 (o := 0) rfl) (gB_c lq_cX12_splitOf q3_cX12_splitOf 9 (o := 58) rfl) rfl
theorem dX12_splitOf_106 : decode cX12_splitOf 106 = .ok (.iload_n 2, 1) := dc_28 (gB_c lq_cX12_splitOf q3_cX12_splitOf 10 (o := 28) rfl)
theorem dX12_splitOf_107 : decode cX12_splitOf 107 = .ok (.iload 5, 2) := dc_21 (gB_c lq_cX12_splitOf q3_cX12_splitOf 11 (o := 21) rfl) (gB_c lq_cX12_splitOf q3_cX12_splitOf 12 (o := 5) rfl)
theorem dX12_splitOf_109 : decode cX12_splitOf 109 = .ok (.invokestatic 166, 3) := dc_184 (gB_c lq_cX12_splitOf q3_cX12_splitOf 13 (o := 184) rfl) (gB_c lq_cX12_splitOf q3_cX12_splitOf 14 (o := 0) rfl) (gB_c lq_cX12_splitOf q3_cX12_splitOf 15 (o := 166) rfl) rfl
theorem dX12_splitOf_112 : decode cX12_splitOf 112 = .ok (.ifCond .eq 49, 3) := dc_153 (gB_c lq_cX12_splitOf q3_cX12_splitOf 16 (o := 153) rfl) (gB_c lq_cX12_splitOf q3_cX12_splitOf 17 (o := 0) rfl) (gB_c lq_cX12_splitOf q3_cX12_splitOf 18 (o := 49) rfl) rfl
theorem dX12_splitOf_115 : decode cX12_splitOf 115 = .ok (.iconst 0, 1) := dc_3 (gB_c lq_cX12_splitOf q3_cX12_splitOf 19 (o := 3) rfl)
theorem dX12_splitOf_116 : decode cX12_splitOf 116 = .ok (.istore 7, 2) := dc_54 (gB_c lq_cX12_splitOf q3_cX12_splitOf 20 (o := 54) rfl) (gB_c lq_cX12_splitOf q3_cX12_splitOf 21 (o := 7) rfl)
theorem dX12_splitOf_118 : decode cX12_splitOf 118 = .ok (.iload 7, 2) := dc_21 (gB_c lq_cX12_splitOf q3_cX12_splitOf 22 (o := 21) rfl) (gB_c lq_cX12_splitOf q3_cX12_splitOf 23 (o := 7) rfl)
theorem dX12_splitOf_120 : decode cX12_splitOf 120 = .ok (.aload_n 0, 1) := dc_42 (gB_c lq_cX12_splitOf q3_cX12_splitOf 24 (o := 42) rfl)
theorem dX12_splitOf_121 : decode cX12_splitOf 121 = .ok (.iload_n 1, 1) := dc_27 (gB_c lq_cX12_splitOf q3_cX12_splitOf 25 (o := 27) rfl)
theorem dX12_splitOf_122 : decode cX12_splitOf 122 = .ok (.invokevirtual 63, 3) := dc_182 (gB_c lq_cX12_splitOf q3_cX12_splitOf 26 (o := 182) rfl) (gB_c lq_cX12_splitOf q3_cX12_splitOf 27 (o := 0) rfl) (gB_c lq_cX12_splitOf q3_cX12_splitOf 28 (o := 63) rfl) rfl
theorem dX12_splitOf_125 : decode cX12_splitOf 125 = .ok (.if_icmp .ge 36, 3) := dc_162 (gB_c lq_cX12_splitOf q3_cX12_splitOf 29 (o := 162) rfl) (gB_c lq_cX12_splitOf q3_cX12_splitOf 30 (o := 0) rfl) (gB_c lq_cX12_splitOf q3_cX12_splitOf 31 (o := 36) rfl) rfl
theorem dX12_splitOf_128 : decode cX12_splitOf 128 = .ok (.iload 4, 2) := dc_21 (gB_c lq_cX12_splitOf q4_cX12_splitOf 0 (o := 21) rfl) (gB_c lq_cX12_splitOf q4_cX12_splitOf 1 (o := 4) rfl)
theorem dX12_splitOf_130 : decode cX12_splitOf 130 = .ok (.iload_n 2, 1) := dc_28 (gB_c lq_cX12_splitOf q4_cX12_splitOf 2 (o := 28) rfl)
theorem dX12_splitOf_131 : decode cX12_splitOf 131 = .ok (.iload 7, 2) := dc_21 (gB_c lq_cX12_splitOf q4_cX12_splitOf 3 (o := 21) rfl) (gB_c lq_cX12_splitOf q4_cX12_splitOf 4 (o := 7) rfl)
theorem dX12_splitOf_133 : decode cX12_splitOf 133 = .ok (.invokestatic 166, 3) := dc_184 (gB_c lq_cX12_splitOf q4_cX12_splitOf 5 (o := 184) rfl) (gB_c lq_cX12_splitOf q4_cX12_splitOf 6 (o := 0) rfl) (gB_c lq_cX12_splitOf q4_cX12_splitOf 7 (o := 166) rfl) rfl
theorem dX12_splitOf_136 : decode cX12_splitOf 136 = .ok (.ifCond .eq 7, 3) := dc_153 (gB_c lq_cX12_splitOf q4_cX12_splitOf 8 (o := 153) rfl) (gB_c lq_cX12_splitOf q4_cX12_splitOf 9 (o := 0) rfl) (gB_c lq_cX12_splitOf q4_cX12_splitOf 10 (o := 7) rfl) rfl
theorem dX12_splitOf_139 : decode cX12_splitOf 139 = .ok (.iconst 0, 1) := dc_3 (gB_c lq_cX12_splitOf q4_cX12_splitOf 11 (o := 3) rfl)
theorem dX12_splitOf_140 : decode cX12_splitOf 140 = .ok (.goto 12, 3) := dc_167 (gB_c lq_cX12_splitOf q4_cX12_splitOf 12 (o := 167) rfl) (gB_c lq_cX12_splitOf q4_cX12_splitOf 13 (o := 0) rfl) (gB_c lq_cX12_splitOf q4_cX12_splitOf 14 (o := 12) rfl) rfl
theorem dX12_splitOf_143 : decode cX12_splitOf 143 = .ok (.aload_n 0, 1) := dc_42 (gB_c lq_cX12_splitOf q4_cX12_splitOf 15 (o := 42) rfl)
theorem dX12_splitOf_144 : decode cX12_splitOf 144 = .ok (.iload_n 1, 1) := dc_27 (gB_c lq_cX12_splitOf q4_cX12_splitOf 16 (o := 27) rfl)
theorem dX12_splitOf_145 : decode cX12_splitOf 145 = .ok (.iload 5, 2) := dc_21 (gB_c lq_cX12_splitOf q4_cX12_splitOf 17 (o := 21) rfl) (gB_c lq_cX12_splitOf q4_cX12_splitOf 18 (o := 5) rfl)
theorem dX12_splitOf_147 : decode cX12_splitOf 147 = .ok (.iload 7, 2) := dc_21 (gB_c lq_cX12_splitOf q4_cX12_splitOf 19 (o := 21) rfl) (gB_c lq_cX12_splitOf q4_cX12_splitOf 20 (o := 7) rfl)
theorem dX12_splitOf_149 : decode cX12_splitOf 149 = .ok (.invokevirtual 76, 3) := dc_182 (gB_c lq_cX12_splitOf q4_cX12_splitOf 21 (o := 182) rfl) (gB_c lq_cX12_splitOf q4_cX12_splitOf 22 (o := 0) rfl) (gB_c lq_cX12_splitOf q4_cX12_splitOf 23 (o := 76) rfl) rfl
theorem dX12_splitOf_152 : decode cX12_splitOf 152 = .ok (.iadd, 1) := dc_96 (gB_c lq_cX12_splitOf q4_cX12_splitOf 24 (o := 96) rfl)
theorem dX12_splitOf_153 : decode cX12_splitOf 153 = .ok (.istore 4, 2) := dc_54 (gB_c lq_cX12_splitOf q4_cX12_splitOf 25 (o := 54) rfl) (gB_c lq_cX12_splitOf q4_cX12_splitOf 26 (o := 4) rfl)
theorem dX12_splitOf_155 : decode cX12_splitOf 155 = .ok (.iinc 7 1, 3) := dc_132 (gB_c lq_cX12_splitOf q4_cX12_splitOf 27 (o := 132) rfl) (gB_c lq_cX12_splitOf q4_cX12_splitOf 28 (o := 7) rfl) (gB_c lq_cX12_splitOf q4_cX12_splitOf 29 (o := 1) rfl) rfl
theorem dX12_splitOf_158 : decode cX12_splitOf 158 = .ok (.goto (-40), 3) := dc_167 (gB_c lq_cX12_splitOf q4_cX12_splitOf 30 (o := 167) rfl) (gB_c lq_cX12_splitOf q4_cX12_splitOf 31 (o := 255) rfl) (gB_c lq_cX12_splitOf q5_cX12_splitOf 0 (o := 216) rfl) rfl
theorem dX12_splitOf_161 : decode cX12_splitOf 161 = .ok (.iinc 5 1, 3) := dc_132 (gB_c lq_cX12_splitOf q5_cX12_splitOf 1 (o := 132) rfl) (gB_c lq_cX12_splitOf q5_cX12_splitOf 2 (o := 5) rfl) (gB_c lq_cX12_splitOf q5_cX12_splitOf 3 (o := 1) rfl) rfl
theorem dX12_splitOf_164 : decode cX12_splitOf 164 = .ok (.goto (-158), 3) := dc_167 (gB_c lq_cX12_splitOf q5_cX12_splitOf 4 (o := 167) rfl) (gB_c lq_cX12_splitOf q5_cX12_splitOf 5 (o := 255) rfl) (gB_c lq_cX12_splitOf q5_cX12_splitOf 6 (o := 98) rfl) rfl
theorem dX12_splitOf_167 : decode cX12_splitOf 167 = .ok (.iload 4, 2) := dc_21 (gB_c lq_cX12_splitOf q5_cX12_splitOf 7 (o := 21) rfl) (gB_c lq_cX12_splitOf q5_cX12_splitOf 8 (o := 4) rfl)
theorem dX12_splitOf_169 : decode cX12_splitOf 169 = .ok (.ireturn, 1) := dc_172 (gB_c lq_cX12_splitOf q5_cX12_splitOf 9 (o := 172) rfl)
abbrev r1_cX12_swaps : List Nat := [0, 248, 42, 28, 29, 182, 1, 61, 42, 27, 182, 1, 64, 54, 5, 21, 4, 172]
def a0_cX12_swaps : List Nat := [42, 27, 28, 182, 0, 70, 153, 0, 12, 42, 27, 29, 182, 0, 70, 154, 0, 6, 16, 254, 172, 42, 27, 28, 182, 0, 217, 54, 4, 42, 27, 182]
abbrev r0_cX12_swaps : List Nat := a0_cX12_swaps ++ r1_cX12_swaps
theorem lq_cX12_swaps : (cX12_swaps).data.toList.map UInt8.toNat = r0_cX12_swaps := by decide +kernel
theorem q1_cX12_swaps : ∀ i, (r0_cX12_swaps)[32 + i]? = (r1_cX12_swaps)[i]? := chn (A := a0_cX12_swaps) (B := r1_cX12_swaps) (n := 0) (k := 32) rfl (ch0 (R := r0_cX12_swaps))
theorem dX12_swaps_0 : decode cX12_swaps 0 = .ok (.aload_n 0, 1) := dc_42 (gB_l lq_cX12_swaps (p := 0) (o := 42) rfl)
theorem dX12_swaps_1 : decode cX12_swaps 1 = .ok (.iload_n 1, 1) := dc_27 (gB_l lq_cX12_swaps (p := 1) (o := 27) rfl)
theorem dX12_swaps_2 : decode cX12_swaps 2 = .ok (.iload_n 2, 1) := dc_28 (gB_l lq_cX12_swaps (p := 2) (o := 28) rfl)
theorem dX12_swaps_3 : decode cX12_swaps 3 = .ok (.invokevirtual 70, 3) := dc_182 (gB_l lq_cX12_swaps (p := 3) (o := 182) rfl) (gB_l lq_cX12_swaps (p := 4) (o := 0) rfl) (gB_l lq_cX12_swaps (p := 5) (o := 70) rfl) rfl
theorem dX12_swaps_6 : decode cX12_swaps 6 = .ok (.ifCond .eq 12, 3) := dc_153 (gB_l lq_cX12_swaps (p := 6) (o := 153) rfl) (gB_l lq_cX12_swaps (p := 7) (o := 0) rfl) (gB_l lq_cX12_swaps (p := 8) (o := 12) rfl) rfl
theorem dX12_swaps_9 : decode cX12_swaps 9 = .ok (.aload_n 0, 1) := dc_42 (gB_l lq_cX12_swaps (p := 9) (o := 42) rfl)
theorem dX12_swaps_10 : decode cX12_swaps 10 = .ok (.iload_n 1, 1) := dc_27 (gB_l lq_cX12_swaps (p := 10) (o := 27) rfl)
theorem dX12_swaps_11 : decode cX12_swaps 11 = .ok (.iload_n 3, 1) := dc_29 (gB_l lq_cX12_swaps (p := 11) (o := 29) rfl)
theorem dX12_swaps_12 : decode cX12_swaps 12 = .ok (.invokevirtual 70, 3) := dc_182 (gB_l lq_cX12_swaps (p := 12) (o := 182) rfl) (gB_l lq_cX12_swaps (p := 13) (o := 0) rfl) (gB_l lq_cX12_swaps (p := 14) (o := 70) rfl) rfl
theorem dX12_swaps_15 : decode cX12_swaps 15 = .ok (.ifCond .ne 6, 3) := dc_154 (gB_l lq_cX12_swaps (p := 15) (o := 154) rfl) (gB_l lq_cX12_swaps (p := 16) (o := 0) rfl) (gB_l lq_cX12_swaps (p := 17) (o := 6) rfl) rfl
theorem dX12_swaps_18 : decode cX12_swaps 18 = .ok (.bipush (-2), 2) := dc_16 (gB_l lq_cX12_swaps (p := 18) (o := 16) rfl) (gB_l lq_cX12_swaps (p := 19) (o := 254) rfl) rfl
theorem dX12_swaps_20 : decode cX12_swaps 20 = .ok (.ireturn, 1) := dc_172 (gB_l lq_cX12_swaps (p := 20) (o := 172) rfl)
theorem dX12_swaps_21 : decode cX12_swaps 21 = .ok (.aload_n 0, 1) := dc_42 (gB_l lq_cX12_swaps (p := 21) (o := 42) rfl)
theorem dX12_swaps_22 : decode cX12_swaps 22 = .ok (.iload_n 1, 1) := dc_27 (gB_l lq_cX12_swaps (p := 22) (o := 27) rfl)
theorem dX12_swaps_23 : decode cX12_swaps 23 = .ok (.iload_n 2, 1) := dc_28 (gB_l lq_cX12_swaps (p := 23) (o := 28) rfl)
theorem dX12_swaps_24 : decode cX12_swaps 24 = .ok (.invokevirtual 217, 3) := dc_182 (gB_l lq_cX12_swaps (p := 24) (o := 182) rfl) (gB_l lq_cX12_swaps (p := 25) (o := 0) rfl) (gB_l lq_cX12_swaps (p := 26) (o := 217) rfl) rfl
theorem dX12_swaps_27 : decode cX12_swaps 27 = .ok (.istore 4, 2) := dc_54 (gB_l lq_cX12_swaps (p := 27) (o := 54) rfl) (gB_l lq_cX12_swaps (p := 28) (o := 4) rfl)
theorem dX12_swaps_29 : decode cX12_swaps 29 = .ok (.aload_n 0, 1) := dc_42 (gB_l lq_cX12_swaps (p := 29) (o := 42) rfl)
theorem dX12_swaps_30 : decode cX12_swaps 30 = .ok (.iload_n 1, 1) := dc_27 (gB_l lq_cX12_swaps (p := 30) (o := 27) rfl)
theorem dX12_swaps_31 : decode cX12_swaps 31 = .ok (.invokevirtual 248, 3) := dc_182 (gB_l lq_cX12_swaps (p := 31) (o := 182) rfl) (gB_c lq_cX12_swaps q1_cX12_swaps 0 (o := 0) rfl) (gB_c lq_cX12_swaps q1_cX12_swaps 1 (o := 248) rfl) rfl
theorem dX12_swaps_34 : decode cX12_swaps 34 = .ok (.aload_n 0, 1) := dc_42 (gB_c lq_cX12_swaps q1_cX12_swaps 2 (o := 42) rfl)
theorem dX12_swaps_35 : decode cX12_swaps 35 = .ok (.iload_n 2, 1) := dc_28 (gB_c lq_cX12_swaps q1_cX12_swaps 3 (o := 28) rfl)
theorem dX12_swaps_36 : decode cX12_swaps 36 = .ok (.iload_n 3, 1) := dc_29 (gB_c lq_cX12_swaps q1_cX12_swaps 4 (o := 29) rfl)
theorem dX12_swaps_37 : decode cX12_swaps 37 = .ok (.invokevirtual 317, 3) := dc_182 (gB_c lq_cX12_swaps q1_cX12_swaps 5 (o := 182) rfl) (gB_c lq_cX12_swaps q1_cX12_swaps 6 (o := 1) rfl) (gB_c lq_cX12_swaps q1_cX12_swaps 7 (o := 61) rfl) rfl
theorem dX12_swaps_40 : decode cX12_swaps 40 = .ok (.aload_n 0, 1) := dc_42 (gB_c lq_cX12_swaps q1_cX12_swaps 8 (o := 42) rfl)
theorem dX12_swaps_41 : decode cX12_swaps 41 = .ok (.iload_n 1, 1) := dc_27 (gB_c lq_cX12_swaps q1_cX12_swaps 9 (o := 27) rfl)
theorem dX12_swaps_42 : decode cX12_swaps 42 = .ok (.invokevirtual 320, 3) := dc_182 (gB_c lq_cX12_swaps q1_cX12_swaps 10 (o := 182) rfl) (gB_c lq_cX12_swaps q1_cX12_swaps 11 (o := 1) rfl) (gB_c lq_cX12_swaps q1_cX12_swaps 12 (o := 64) rfl) rfl
theorem dX12_swaps_45 : decode cX12_swaps 45 = .ok (.istore 5, 2) := dc_54 (gB_c lq_cX12_swaps q1_cX12_swaps 13 (o := 54) rfl) (gB_c lq_cX12_swaps q1_cX12_swaps 14 (o := 5) rfl)
theorem dX12_swaps_47 : decode cX12_swaps 47 = .ok (.iload 4, 2) := dc_21 (gB_c lq_cX12_swaps q1_cX12_swaps 15 (o := 21) rfl) (gB_c lq_cX12_swaps q1_cX12_swaps 16 (o := 4) rfl)
theorem dX12_swaps_49 : decode cX12_swaps 49 = .ok (.ireturn, 1) := dc_172 (gB_c lq_cX12_swaps q1_cX12_swaps 17 (o := 172) rfl)
abbrev r1_cX12_takes : List Nat := [162, 0, 21, 42, 180, 0, 26, 29, 42, 180, 0, 41, 29, 46, 79, 132, 3, 1, 167, 255, 232, 42, 27, 182, 1, 64, 172]
def a0_cX12_takes : List Nat := [42, 27, 182, 0, 67, 153, 0, 10, 28, 184, 0, 245, 154, 0, 6, 16, 254, 172, 42, 27, 28, 182, 1, 45, 3, 62, 29, 42, 27, 182, 0, 63]
abbrev r0_cX12_takes : List Nat := a0_cX12_takes ++ r1_cX12_takes
theorem lq_cX12_takes : (cX12_takes).data.toList.map UInt8.toNat = r0_cX12_takes := by decide +kernel
theorem q1_cX12_takes : ∀ i, (r0_cX12_takes)[32 + i]? = (r1_cX12_takes)[i]? := chn (A := a0_cX12_takes) (B := r1_cX12_takes) (n := 0) (k := 32) rfl (ch0 (R := r0_cX12_takes))
theorem dX12_takes_0 : decode cX12_takes 0 = .ok (.aload_n 0, 1) := dc_42 (gB_l lq_cX12_takes (p := 0) (o := 42) rfl)
theorem dX12_takes_1 : decode cX12_takes 1 = .ok (.iload_n 1, 1) := dc_27 (gB_l lq_cX12_takes (p := 1) (o := 27) rfl)
theorem dX12_takes_2 : decode cX12_takes 2 = .ok (.invokevirtual 67, 3) := dc_182 (gB_l lq_cX12_takes (p := 2) (o := 182) rfl) (gB_l lq_cX12_takes (p := 3) (o := 0) rfl) (gB_l lq_cX12_takes (p := 4) (o := 67) rfl) rfl
theorem dX12_takes_5 : decode cX12_takes 5 = .ok (.ifCond .eq 10, 3) := dc_153 (gB_l lq_cX12_takes (p := 5) (o := 153) rfl) (gB_l lq_cX12_takes (p := 6) (o := 0) rfl) (gB_l lq_cX12_takes (p := 7) (o := 10) rfl) rfl
theorem dX12_takes_8 : decode cX12_takes 8 = .ok (.iload_n 2, 1) := dc_28 (gB_l lq_cX12_takes (p := 8) (o := 28) rfl)
theorem dX12_takes_9 : decode cX12_takes 9 = .ok (.invokestatic 245, 3) := dc_184 (gB_l lq_cX12_takes (p := 9) (o := 184) rfl) (gB_l lq_cX12_takes (p := 10) (o := 0) rfl) (gB_l lq_cX12_takes (p := 11) (o := 245) rfl) rfl
theorem dX12_takes_12 : decode cX12_takes 12 = .ok (.ifCond .ne 6, 3) := dc_154 (gB_l lq_cX12_takes (p := 12) (o := 154) rfl) (gB_l lq_cX12_takes (p := 13) (o := 0) rfl) (gB_l lq_cX12_takes (p := 14) (o := 6) rfl) rfl
theorem dX12_takes_15 : decode cX12_takes 15 = .ok (.bipush (-2), 2) := dc_16 (gB_l lq_cX12_takes (p := 15) (o := 16) rfl) (gB_l lq_cX12_takes (p := 16) (o := 254) rfl) rfl
theorem dX12_takes_17 : decode cX12_takes 17 = .ok (.ireturn, 1) := dc_172 (gB_l lq_cX12_takes (p := 17) (o := 172) rfl)
theorem dX12_takes_18 : decode cX12_takes 18 = .ok (.aload_n 0, 1) := dc_42 (gB_l lq_cX12_takes (p := 18) (o := 42) rfl)
theorem dX12_takes_19 : decode cX12_takes 19 = .ok (.iload_n 1, 1) := dc_27 (gB_l lq_cX12_takes (p := 19) (o := 27) rfl)
theorem dX12_takes_20 : decode cX12_takes 20 = .ok (.iload_n 2, 1) := dc_28 (gB_l lq_cX12_takes (p := 20) (o := 28) rfl)
theorem dX12_takes_21 : decode cX12_takes 21 = .ok (.invokevirtual 301, 3) := dc_182 (gB_l lq_cX12_takes (p := 21) (o := 182) rfl) (gB_l lq_cX12_takes (p := 22) (o := 1) rfl) (gB_l lq_cX12_takes (p := 23) (o := 45) rfl) rfl
theorem dX12_takes_24 : decode cX12_takes 24 = .ok (.iconst 0, 1) := dc_3 (gB_l lq_cX12_takes (p := 24) (o := 3) rfl)
theorem dX12_takes_25 : decode cX12_takes 25 = .ok (.istore_n 3, 1) := dc_62 (gB_l lq_cX12_takes (p := 25) (o := 62) rfl)
theorem dX12_takes_26 : decode cX12_takes 26 = .ok (.iload_n 3, 1) := dc_29 (gB_l lq_cX12_takes (p := 26) (o := 29) rfl)
theorem dX12_takes_27 : decode cX12_takes 27 = .ok (.aload_n 0, 1) := dc_42 (gB_l lq_cX12_takes (p := 27) (o := 42) rfl)
theorem dX12_takes_28 : decode cX12_takes 28 = .ok (.iload_n 1, 1) := dc_27 (gB_l lq_cX12_takes (p := 28) (o := 27) rfl)
theorem dX12_takes_29 : decode cX12_takes 29 = .ok (.invokevirtual 63, 3) := dc_182 (gB_l lq_cX12_takes (p := 29) (o := 182) rfl) (gB_l lq_cX12_takes (p := 30) (o := 0) rfl) (gB_l lq_cX12_takes (p := 31) (o := 63) rfl) rfl
theorem dX12_takes_32 : decode cX12_takes 32 = .ok (.if_icmp .ge 21, 3) := dc_162 (gB_c lq_cX12_takes q1_cX12_takes 0 (o := 162) rfl) (gB_c lq_cX12_takes q1_cX12_takes 1 (o := 0) rfl) (gB_c lq_cX12_takes q1_cX12_takes 2 (o := 21) rfl) rfl
theorem dX12_takes_35 : decode cX12_takes 35 = .ok (.aload_n 0, 1) := dc_42 (gB_c lq_cX12_takes q1_cX12_takes 3 (o := 42) rfl)
theorem dX12_takes_36 : decode cX12_takes 36 = .ok (.getfield 26, 3) := dc_180 (gB_c lq_cX12_takes q1_cX12_takes 4 (o := 180) rfl) (gB_c lq_cX12_takes q1_cX12_takes 5 (o := 0) rfl) (gB_c lq_cX12_takes q1_cX12_takes 6 (o := 26) rfl) rfl
theorem dX12_takes_39 : decode cX12_takes 39 = .ok (.iload_n 3, 1) := dc_29 (gB_c lq_cX12_takes q1_cX12_takes 7 (o := 29) rfl)
theorem dX12_takes_40 : decode cX12_takes 40 = .ok (.aload_n 0, 1) := dc_42 (gB_c lq_cX12_takes q1_cX12_takes 8 (o := 42) rfl)
theorem dX12_takes_41 : decode cX12_takes 41 = .ok (.getfield 41, 3) := dc_180 (gB_c lq_cX12_takes q1_cX12_takes 9 (o := 180) rfl) (gB_c lq_cX12_takes q1_cX12_takes 10 (o := 0) rfl) (gB_c lq_cX12_takes q1_cX12_takes 11 (o := 41) rfl) rfl
theorem dX12_takes_44 : decode cX12_takes 44 = .ok (.iload_n 3, 1) := dc_29 (gB_c lq_cX12_takes q1_cX12_takes 12 (o := 29) rfl)
theorem dX12_takes_45 : decode cX12_takes 45 = .ok (.iaload, 1) := dc_46 (gB_c lq_cX12_takes q1_cX12_takes 13 (o := 46) rfl)
theorem dX12_takes_46 : decode cX12_takes 46 = .ok (.iastore, 1) := dc_79 (gB_c lq_cX12_takes q1_cX12_takes 14 (o := 79) rfl)
theorem dX12_takes_47 : decode cX12_takes 47 = .ok (.iinc 3 1, 3) := dc_132 (gB_c lq_cX12_takes q1_cX12_takes 15 (o := 132) rfl) (gB_c lq_cX12_takes q1_cX12_takes 16 (o := 3) rfl) (gB_c lq_cX12_takes q1_cX12_takes 17 (o := 1) rfl) rfl
theorem dX12_takes_50 : decode cX12_takes 50 = .ok (.goto (-24), 3) := dc_167 (gB_c lq_cX12_takes q1_cX12_takes 18 (o := 167) rfl) (gB_c lq_cX12_takes q1_cX12_takes 19 (o := 255) rfl) (gB_c lq_cX12_takes q1_cX12_takes 20 (o := 232) rfl) rfl
theorem dX12_takes_53 : decode cX12_takes 53 = .ok (.aload_n 0, 1) := dc_42 (gB_c lq_cX12_takes q1_cX12_takes 21 (o := 42) rfl)
theorem dX12_takes_54 : decode cX12_takes 54 = .ok (.iload_n 1, 1) := dc_27 (gB_c lq_cX12_takes q1_cX12_takes 22 (o := 27) rfl)
theorem dX12_takes_55 : decode cX12_takes 55 = .ok (.invokevirtual 320, 3) := dc_182 (gB_c lq_cX12_takes q1_cX12_takes 23 (o := 182) rfl) (gB_c lq_cX12_takes q1_cX12_takes 24 (o := 1) rfl) (gB_c lq_cX12_takes q1_cX12_takes 25 (o := 64) rfl) rfl
theorem dX12_takes_58 : decode cX12_takes 58 = .ok (.ireturn, 1) := dc_172 (gB_c lq_cX12_takes q1_cX12_takes 26 (o := 172) rfl)
abbrev r2_cX12_takesRow : List Nat := [29, 46, 182, 0, 169, 132, 3, 1, 167, 255, 232, 42, 28, 182, 0, 190, 172]
def a1_cX12_takesRow : List Nat := [4, 4, 96, 61, 132, 3, 1, 167, 255, 221, 42, 182, 0, 93, 3, 62, 29, 42, 27, 182, 0, 63, 162, 0, 21, 42, 27, 29, 42, 180, 0, 26]
abbrev r1_cX12_takesRow : List Nat := a1_cX12_takesRow ++ r2_cX12_takesRow
def a0_cX12_takesRow : List Nat := [3, 61, 3, 62, 29, 42, 27, 182, 0, 63, 162, 0, 32, 28, 42, 27, 29, 182, 0, 217, 42, 180, 0, 26, 29, 46, 160, 0, 7, 3, 167, 0]
abbrev r0_cX12_takesRow : List Nat := a0_cX12_takesRow ++ r1_cX12_takesRow
theorem lq_cX12_takesRow : (cX12_takesRow).data.toList.map UInt8.toNat = r0_cX12_takesRow := by decide +kernel
theorem q1_cX12_takesRow : ∀ i, (r0_cX12_takesRow)[32 + i]? = (r1_cX12_takesRow)[i]? := chn (A := a0_cX12_takesRow) (B := r1_cX12_takesRow) (n := 0) (k := 32) rfl (ch0 (R := r0_cX12_takesRow))
theorem q2_cX12_takesRow : ∀ i, (r0_cX12_takesRow)[64 + i]? = (r2_cX12_takesRow)[i]? := chn (A := a1_cX12_takesRow) (B := r2_cX12_takesRow) (n := 32) (k := 32) rfl q1_cX12_takesRow
theorem dX12_takesRow_0 : decode cX12_takesRow 0 = .ok (.iconst 0, 1) := dc_3 (gB_l lq_cX12_takesRow (p := 0) (o := 3) rfl)
theorem dX12_takesRow_1 : decode cX12_takesRow 1 = .ok (.istore_n 2, 1) := dc_61 (gB_l lq_cX12_takesRow (p := 1) (o := 61) rfl)
theorem dX12_takesRow_2 : decode cX12_takesRow 2 = .ok (.iconst 0, 1) := dc_3 (gB_l lq_cX12_takesRow (p := 2) (o := 3) rfl)
theorem dX12_takesRow_3 : decode cX12_takesRow 3 = .ok (.istore_n 3, 1) := dc_62 (gB_l lq_cX12_takesRow (p := 3) (o := 62) rfl)
theorem dX12_takesRow_4 : decode cX12_takesRow 4 = .ok (.iload_n 3, 1) := dc_29 (gB_l lq_cX12_takesRow (p := 4) (o := 29) rfl)
theorem dX12_takesRow_5 : decode cX12_takesRow 5 = .ok (.aload_n 0, 1) := dc_42 (gB_l lq_cX12_takesRow (p := 5) (o := 42) rfl)
theorem dX12_takesRow_6 : decode cX12_takesRow 6 = .ok (.iload_n 1, 1) := dc_27 (gB_l lq_cX12_takesRow (p := 6) (o := 27) rfl)
theorem dX12_takesRow_7 : decode cX12_takesRow 7 = .ok (.invokevirtual 63, 3) := dc_182 (gB_l lq_cX12_takesRow (p := 7) (o := 182) rfl) (gB_l lq_cX12_takesRow (p := 8) (o := 0) rfl) (gB_l lq_cX12_takesRow (p := 9) (o := 63) rfl) rfl
theorem dX12_takesRow_10 : decode cX12_takesRow 10 = .ok (.if_icmp .ge 32, 3) := dc_162 (gB_l lq_cX12_takesRow (p := 10) (o := 162) rfl) (gB_l lq_cX12_takesRow (p := 11) (o := 0) rfl) (gB_l lq_cX12_takesRow (p := 12) (o := 32) rfl) rfl
theorem dX12_takesRow_13 : decode cX12_takesRow 13 = .ok (.iload_n 2, 1) := dc_28 (gB_l lq_cX12_takesRow (p := 13) (o := 28) rfl)
theorem dX12_takesRow_14 : decode cX12_takesRow 14 = .ok (.aload_n 0, 1) := dc_42 (gB_l lq_cX12_takesRow (p := 14) (o := 42) rfl)
theorem dX12_takesRow_15 : decode cX12_takesRow 15 = .ok (.iload_n 1, 1) := dc_27 (gB_l lq_cX12_takesRow (p := 15) (o := 27) rfl)
theorem dX12_takesRow_16 : decode cX12_takesRow 16 = .ok (.iload_n 3, 1) := dc_29 (gB_l lq_cX12_takesRow (p := 16) (o := 29) rfl)
theorem dX12_takesRow_17 : decode cX12_takesRow 17 = .ok (.invokevirtual 217, 3) := dc_182 (gB_l lq_cX12_takesRow (p := 17) (o := 182) rfl) (gB_l lq_cX12_takesRow (p := 18) (o := 0) rfl) (gB_l lq_cX12_takesRow (p := 19) (o := 217) rfl) rfl
theorem dX12_takesRow_20 : decode cX12_takesRow 20 = .ok (.aload_n 0, 1) := dc_42 (gB_l lq_cX12_takesRow (p := 20) (o := 42) rfl)
theorem dX12_takesRow_21 : decode cX12_takesRow 21 = .ok (.getfield 26, 3) := dc_180 (gB_l lq_cX12_takesRow (p := 21) (o := 180) rfl) (gB_l lq_cX12_takesRow (p := 22) (o := 0) rfl) (gB_l lq_cX12_takesRow (p := 23) (o := 26) rfl) rfl
theorem dX12_takesRow_24 : decode cX12_takesRow 24 = .ok (.iload_n 3, 1) := dc_29 (gB_l lq_cX12_takesRow (p := 24) (o := 29) rfl)
theorem dX12_takesRow_25 : decode cX12_takesRow 25 = .ok (.iaload, 1) := dc_46 (gB_l lq_cX12_takesRow (p := 25) (o := 46) rfl)
theorem dX12_takesRow_26 : decode cX12_takesRow 26 = .ok (.if_icmp .ne 7, 3) := dc_160 (gB_l lq_cX12_takesRow (p := 26) (o := 160) rfl) (gB_l lq_cX12_takesRow (p := 27) (o := 0) rfl) (gB_l lq_cX12_takesRow (p := 28) (o := 7) rfl) rfl
theorem dX12_takesRow_29 : decode cX12_takesRow 29 = .ok (.iconst 0, 1) := dc_3 (gB_l lq_cX12_takesRow (p := 29) (o := 3) rfl)
theorem dX12_takesRow_30 : decode cX12_takesRow 30 = .ok (.goto 4, 3) := dc_167 (gB_l lq_cX12_takesRow (p := 30) (o := 167) rfl) (gB_l lq_cX12_takesRow (p := 31) (o := 0) rfl) (gB_c lq_cX12_takesRow q1_cX12_takesRow 0 (o := 4) rfl) rfl
theorem dX12_takesRow_33 : decode cX12_takesRow 33 = .ok (.iconst 1, 1) := dc_4 (gB_c lq_cX12_takesRow q1_cX12_takesRow 1 (o := 4) rfl)
theorem dX12_takesRow_34 : decode cX12_takesRow 34 = .ok (.iadd, 1) := dc_96 (gB_c lq_cX12_takesRow q1_cX12_takesRow 2 (o := 96) rfl)
theorem dX12_takesRow_35 : decode cX12_takesRow 35 = .ok (.istore_n 2, 1) := dc_61 (gB_c lq_cX12_takesRow q1_cX12_takesRow 3 (o := 61) rfl)
theorem dX12_takesRow_36 : decode cX12_takesRow 36 = .ok (.iinc 3 1, 3) := dc_132 (gB_c lq_cX12_takesRow q1_cX12_takesRow 4 (o := 132) rfl) (gB_c lq_cX12_takesRow q1_cX12_takesRow 5 (o := 3) rfl) (gB_c lq_cX12_takesRow q1_cX12_takesRow 6 (o := 1) rfl) rfl
theorem dX12_takesRow_39 : decode cX12_takesRow 39 = .ok (.goto (-35), 3) := dc_167 (gB_c lq_cX12_takesRow q1_cX12_takesRow 7 (o := 167) rfl) (gB_c lq_cX12_takesRow q1_cX12_takesRow 8 (o := 255) rfl) (gB_c lq_cX12_takesRow q1_cX12_takesRow 9 (o := 221) rfl) rfl
theorem dX12_takesRow_42 : decode cX12_takesRow 42 = .ok (.aload_n 0, 1) := dc_42 (gB_c lq_cX12_takesRow q1_cX12_takesRow 10 (o := 42) rfl)
theorem dX12_takesRow_43 : decode cX12_takesRow 43 = .ok (.invokevirtual 93, 3) := dc_182 (gB_c lq_cX12_takesRow q1_cX12_takesRow 11 (o := 182) rfl) (gB_c lq_cX12_takesRow q1_cX12_takesRow 12 (o := 0) rfl) (gB_c lq_cX12_takesRow q1_cX12_takesRow 13 (o := 93) rfl) rfl
theorem dX12_takesRow_46 : decode cX12_takesRow 46 = .ok (.iconst 0, 1) := dc_3 (gB_c lq_cX12_takesRow q1_cX12_takesRow 14 (o := 3) rfl)
theorem dX12_takesRow_47 : decode cX12_takesRow 47 = .ok (.istore_n 3, 1) := dc_62 (gB_c lq_cX12_takesRow q1_cX12_takesRow 15 (o := 62) rfl)
theorem dX12_takesRow_48 : decode cX12_takesRow 48 = .ok (.iload_n 3, 1) := dc_29 (gB_c lq_cX12_takesRow q1_cX12_takesRow 16 (o := 29) rfl)
theorem dX12_takesRow_49 : decode cX12_takesRow 49 = .ok (.aload_n 0, 1) := dc_42 (gB_c lq_cX12_takesRow q1_cX12_takesRow 17 (o := 42) rfl)
theorem dX12_takesRow_50 : decode cX12_takesRow 50 = .ok (.iload_n 1, 1) := dc_27 (gB_c lq_cX12_takesRow q1_cX12_takesRow 18 (o := 27) rfl)
theorem dX12_takesRow_51 : decode cX12_takesRow 51 = .ok (.invokevirtual 63, 3) := dc_182 (gB_c lq_cX12_takesRow q1_cX12_takesRow 19 (o := 182) rfl) (gB_c lq_cX12_takesRow q1_cX12_takesRow 20 (o := 0) rfl) (gB_c lq_cX12_takesRow q1_cX12_takesRow 21 (o := 63) rfl) rfl
theorem dX12_takesRow_54 : decode cX12_takesRow 54 = .ok (.if_icmp .ge 21, 3) := dc_162 (gB_c lq_cX12_takesRow q1_cX12_takesRow 22 (o := 162) rfl) (gB_c lq_cX12_takesRow q1_cX12_takesRow 23 (o := 0) rfl) (gB_c lq_cX12_takesRow q1_cX12_takesRow 24 (o := 21) rfl) rfl
theorem dX12_takesRow_57 : decode cX12_takesRow 57 = .ok (.aload_n 0, 1) := dc_42 (gB_c lq_cX12_takesRow q1_cX12_takesRow 25 (o := 42) rfl)
theorem dX12_takesRow_58 : decode cX12_takesRow 58 = .ok (.iload_n 1, 1) := dc_27 (gB_c lq_cX12_takesRow q1_cX12_takesRow 26 (o := 27) rfl)
theorem dX12_takesRow_59 : decode cX12_takesRow 59 = .ok (.iload_n 3, 1) := dc_29 (gB_c lq_cX12_takesRow q1_cX12_takesRow 27 (o := 29) rfl)
theorem dX12_takesRow_60 : decode cX12_takesRow 60 = .ok (.aload_n 0, 1) := dc_42 (gB_c lq_cX12_takesRow q1_cX12_takesRow 28 (o := 42) rfl)
theorem dX12_takesRow_61 : decode cX12_takesRow 61 = .ok (.getfield 26, 3) := dc_180 (gB_c lq_cX12_takesRow q1_cX12_takesRow 29 (o := 180) rfl) (gB_c lq_cX12_takesRow q1_cX12_takesRow 30 (o := 0) rfl) (gB_c lq_cX12_takesRow q1_cX12_takesRow 31 (o := 26) rfl) rfl
theorem dX12_takesRow_64 : decode cX12_takesRow 64 = .ok (.iload_n 3, 1) := dc_29 (gB_c lq_cX12_takesRow q2_cX12_takesRow 0 (o := 29) rfl)
theorem dX12_takesRow_65 : decode cX12_takesRow 65 = .ok (.iaload, 1) := dc_46 (gB_c lq_cX12_takesRow q2_cX12_takesRow 1 (o := 46) rfl)
theorem dX12_takesRow_66 : decode cX12_takesRow 66 = .ok (.invokevirtual 169, 3) := dc_182 (gB_c lq_cX12_takesRow q2_cX12_takesRow 2 (o := 182) rfl) (gB_c lq_cX12_takesRow q2_cX12_takesRow 3 (o := 0) rfl) (gB_c lq_cX12_takesRow q2_cX12_takesRow 4 (o := 169) rfl) rfl
theorem dX12_takesRow_69 : decode cX12_takesRow 69 = .ok (.iinc 3 1, 3) := dc_132 (gB_c lq_cX12_takesRow q2_cX12_takesRow 5 (o := 132) rfl) (gB_c lq_cX12_takesRow q2_cX12_takesRow 6 (o := 3) rfl) (gB_c lq_cX12_takesRow q2_cX12_takesRow 7 (o := 1) rfl) rfl
theorem dX12_takesRow_72 : decode cX12_takesRow 72 = .ok (.goto (-24), 3) := dc_167 (gB_c lq_cX12_takesRow q2_cX12_takesRow 8 (o := 167) rfl) (gB_c lq_cX12_takesRow q2_cX12_takesRow 9 (o := 255) rfl) (gB_c lq_cX12_takesRow q2_cX12_takesRow 10 (o := 232) rfl) rfl
theorem dX12_takesRow_75 : decode cX12_takesRow 75 = .ok (.aload_n 0, 1) := dc_42 (gB_c lq_cX12_takesRow q2_cX12_takesRow 11 (o := 42) rfl)
theorem dX12_takesRow_76 : decode cX12_takesRow 76 = .ok (.iload_n 2, 1) := dc_28 (gB_c lq_cX12_takesRow q2_cX12_takesRow 12 (o := 28) rfl)
theorem dX12_takesRow_77 : decode cX12_takesRow 77 = .ok (.invokevirtual 190, 3) := dc_182 (gB_c lq_cX12_takesRow q2_cX12_takesRow 13 (o := 182) rfl) (gB_c lq_cX12_takesRow q2_cX12_takesRow 14 (o := 0) rfl) (gB_c lq_cX12_takesRow q2_cX12_takesRow 15 (o := 190) rfl) rfl
theorem dX12_takesRow_80 : decode cX12_takesRow 80 = .ok (.ireturn, 1) := dc_172 (gB_c lq_cX12_takesRow q2_cX12_takesRow 16 (o := 172) rfl)
abbrev r2_cX12_tell : List Nat := [1, 102, 182, 1, 81, 42, 42, 27, 3, 29, 182, 1, 4, 182, 1, 76, 132, 3, 1, 167, 255, 215, 42, 180, 0, 193, 172]
def a1_cX12_tell : List Nat := [182, 1, 97, 42, 180, 0, 193, 172, 4, 62, 29, 42, 27, 182, 0, 63, 162, 0, 38, 42, 29, 4, 160, 0, 9, 19, 1, 100, 167, 0, 6, 19]
abbrev r1_cX12_tell : List Nat := a1_cX12_tell ++ r2_cX12_tell
def a0_cX12_tell : List Nat := [42, 27, 182, 0, 67, 153, 0, 13, 28, 133, 9, 10, 184, 0, 55, 154, 0, 6, 16, 254, 172, 42, 3, 181, 0, 193, 28, 154, 0, 13, 42, 27]
abbrev r0_cX12_tell : List Nat := a0_cX12_tell ++ r1_cX12_tell
theorem lq_cX12_tell : (cX12_tell).data.toList.map UInt8.toNat = r0_cX12_tell := by decide +kernel
theorem q1_cX12_tell : ∀ i, (r0_cX12_tell)[32 + i]? = (r1_cX12_tell)[i]? := chn (A := a0_cX12_tell) (B := r1_cX12_tell) (n := 0) (k := 32) rfl (ch0 (R := r0_cX12_tell))
theorem q2_cX12_tell : ∀ i, (r0_cX12_tell)[64 + i]? = (r2_cX12_tell)[i]? := chn (A := a1_cX12_tell) (B := r2_cX12_tell) (n := 32) (k := 32) rfl q1_cX12_tell
theorem dX12_tell_0 : decode cX12_tell 0 = .ok (.aload_n 0, 1) := dc_42 (gB_l lq_cX12_tell (p := 0) (o := 42) rfl)
theorem dX12_tell_1 : decode cX12_tell 1 = .ok (.iload_n 1, 1) := dc_27 (gB_l lq_cX12_tell (p := 1) (o := 27) rfl)
theorem dX12_tell_2 : decode cX12_tell 2 = .ok (.invokevirtual 67, 3) := dc_182 (gB_l lq_cX12_tell (p := 2) (o := 182) rfl) (gB_l lq_cX12_tell (p := 3) (o := 0) rfl) (gB_l lq_cX12_tell (p := 4) (o := 67) rfl) rfl
theorem dX12_tell_5 : decode cX12_tell 5 = .ok (.ifCond .eq 13, 3) := dc_153 (gB_l lq_cX12_tell (p := 5) (o := 153) rfl) (gB_l lq_cX12_tell (p := 6) (o := 0) rfl) (gB_l lq_cX12_tell (p := 7) (o := 13) rfl) rfl
theorem dX12_tell_8 : decode cX12_tell 8 = .ok (.iload_n 2, 1) := dc_28 (gB_l lq_cX12_tell (p := 8) (o := 28) rfl)
theorem dX12_tell_9 : decode cX12_tell 9 = .ok (.i2l, 1) := dc_133 (gB_l lq_cX12_tell (p := 9) (o := 133) rfl)
theorem dX12_tell_10 : decode cX12_tell 10 = .ok (.lconst 0, 1) := dc_9 (gB_l lq_cX12_tell (p := 10) (o := 9) rfl)
theorem dX12_tell_11 : decode cX12_tell 11 = .ok (.lconst 1, 1) := dc_10 (gB_l lq_cX12_tell (p := 11) (o := 10) rfl)
theorem dX12_tell_12 : decode cX12_tell 12 = .ok (.invokestatic 55, 3) := dc_184 (gB_l lq_cX12_tell (p := 12) (o := 184) rfl) (gB_l lq_cX12_tell (p := 13) (o := 0) rfl) (gB_l lq_cX12_tell (p := 14) (o := 55) rfl) rfl
theorem dX12_tell_15 : decode cX12_tell 15 = .ok (.ifCond .ne 6, 3) := dc_154 (gB_l lq_cX12_tell (p := 15) (o := 154) rfl) (gB_l lq_cX12_tell (p := 16) (o := 0) rfl) (gB_l lq_cX12_tell (p := 17) (o := 6) rfl) rfl
theorem dX12_tell_18 : decode cX12_tell 18 = .ok (.bipush (-2), 2) := dc_16 (gB_l lq_cX12_tell (p := 18) (o := 16) rfl) (gB_l lq_cX12_tell (p := 19) (o := 254) rfl) rfl
theorem dX12_tell_20 : decode cX12_tell 20 = .ok (.ireturn, 1) := dc_172 (gB_l lq_cX12_tell (p := 20) (o := 172) rfl)
theorem dX12_tell_21 : decode cX12_tell 21 = .ok (.aload_n 0, 1) := dc_42 (gB_l lq_cX12_tell (p := 21) (o := 42) rfl)
theorem dX12_tell_22 : decode cX12_tell 22 = .ok (.iconst 0, 1) := dc_3 (gB_l lq_cX12_tell (p := 22) (o := 3) rfl)
theorem dX12_tell_23 : decode cX12_tell 23 = .ok (.putfield 193, 3) := dc_181 (gB_l lq_cX12_tell (p := 23) (o := 181) rfl) (gB_l lq_cX12_tell (p := 24) (o := 0) rfl) (gB_l lq_cX12_tell (p := 25) (o := 193) rfl) rfl
theorem dX12_tell_26 : decode cX12_tell 26 = .ok (.iload_n 2, 1) := dc_28 (gB_l lq_cX12_tell (p := 26) (o := 28) rfl)
theorem dX12_tell_27 : decode cX12_tell 27 = .ok (.ifCond .ne 13, 3) := dc_154 (gB_l lq_cX12_tell (p := 27) (o := 154) rfl) (gB_l lq_cX12_tell (p := 28) (o := 0) rfl) (gB_l lq_cX12_tell (p := 29) (o := 13) rfl) rfl
theorem dX12_tell_30 : decode cX12_tell 30 = .ok (.aload_n 0, 1) := dc_42 (gB_l lq_cX12_tell (p := 30) (o := 42) rfl)
theorem dX12_tell_31 : decode cX12_tell 31 = .ok (.iload_n 1, 1) := dc_27 (gB_l lq_cX12_tell (p := 31) (o := 27) rfl)
theorem dX12_tell_32 : decode cX12_tell 32 = .ok (.invokevirtual 353, 3) := dc_182 (gB_c lq_cX12_tell q1_cX12_tell 0 (o := 182) rfl) (gB_c lq_cX12_tell q1_cX12_tell 1 (o := 1) rfl) (gB_c lq_cX12_tell q1_cX12_tell 2 (o := 97) rfl) rfl
theorem dX12_tell_35 : decode cX12_tell 35 = .ok (.aload_n 0, 1) := dc_42 (gB_c lq_cX12_tell q1_cX12_tell 3 (o := 42) rfl)
theorem dX12_tell_36 : decode cX12_tell 36 = .ok (.getfield 193, 3) := dc_180 (gB_c lq_cX12_tell q1_cX12_tell 4 (o := 180) rfl) (gB_c lq_cX12_tell q1_cX12_tell 5 (o := 0) rfl) (gB_c lq_cX12_tell q1_cX12_tell 6 (o := 193) rfl) rfl
theorem dX12_tell_39 : decode cX12_tell 39 = .ok (.ireturn, 1) := dc_172 (gB_c lq_cX12_tell q1_cX12_tell 7 (o := 172) rfl)
theorem dX12_tell_40 : decode cX12_tell 40 = .ok (.iconst 1, 1) := dc_4 (gB_c lq_cX12_tell q1_cX12_tell 8 (o := 4) rfl)
theorem dX12_tell_41 : decode cX12_tell 41 = .ok (.istore_n 3, 1) := dc_62 (gB_c lq_cX12_tell q1_cX12_tell 9 (o := 62) rfl)
theorem dX12_tell_42 : decode cX12_tell 42 = .ok (.iload_n 3, 1) := dc_29 (gB_c lq_cX12_tell q1_cX12_tell 10 (o := 29) rfl)
theorem dX12_tell_43 : decode cX12_tell 43 = .ok (.aload_n 0, 1) := dc_42 (gB_c lq_cX12_tell q1_cX12_tell 11 (o := 42) rfl)
theorem dX12_tell_44 : decode cX12_tell 44 = .ok (.iload_n 1, 1) := dc_27 (gB_c lq_cX12_tell q1_cX12_tell 12 (o := 27) rfl)
theorem dX12_tell_45 : decode cX12_tell 45 = .ok (.invokevirtual 63, 3) := dc_182 (gB_c lq_cX12_tell q1_cX12_tell 13 (o := 182) rfl) (gB_c lq_cX12_tell q1_cX12_tell 14 (o := 0) rfl) (gB_c lq_cX12_tell q1_cX12_tell 15 (o := 63) rfl) rfl
theorem dX12_tell_48 : decode cX12_tell 48 = .ok (.if_icmp .ge 38, 3) := dc_162 (gB_c lq_cX12_tell q1_cX12_tell 16 (o := 162) rfl) (gB_c lq_cX12_tell q1_cX12_tell 17 (o := 0) rfl) (gB_c lq_cX12_tell q1_cX12_tell 18 (o := 38) rfl) rfl
theorem dX12_tell_51 : decode cX12_tell 51 = .ok (.aload_n 0, 1) := dc_42 (gB_c lq_cX12_tell q1_cX12_tell 19 (o := 42) rfl)
theorem dX12_tell_52 : decode cX12_tell 52 = .ok (.iload_n 3, 1) := dc_29 (gB_c lq_cX12_tell q1_cX12_tell 20 (o := 29) rfl)
theorem dX12_tell_53 : decode cX12_tell 53 = .ok (.iconst 1, 1) := dc_4 (gB_c lq_cX12_tell q1_cX12_tell 21 (o := 4) rfl)
theorem dX12_tell_54 : decode cX12_tell 54 = .ok (.if_icmp .ne 9, 3) := dc_160 (gB_c lq_cX12_tell q1_cX12_tell 22 (o := 160) rfl) (gB_c lq_cX12_tell q1_cX12_tell 23 (o := 0) rfl) (gB_c lq_cX12_tell q1_cX12_tell 24 (o := 9) rfl) rfl
theorem dX12_tell_57 : decode cX12_tell 57 = .ok (.ldc_w 356, 3) := dc_19 (gB_c lq_cX12_tell q1_cX12_tell 25 (o := 19) rfl) (gB_c lq_cX12_tell q1_cX12_tell 26 (o := 1) rfl) (gB_c lq_cX12_tell q1_cX12_tell 27 (o := 100) rfl) rfl
theorem dX12_tell_60 : decode cX12_tell 60 = .ok (.goto 6, 3) := dc_167 (gB_c lq_cX12_tell q1_cX12_tell 28 (o := 167) rfl) (gB_c lq_cX12_tell q1_cX12_tell 29 (o := 0) rfl) (gB_c lq_cX12_tell q1_cX12_tell 30 (o := 6) rfl) rfl
theorem dX12_tell_63 : decode cX12_tell 63 = .ok (.ldc_w 358, 3) := dc_19 (gB_c lq_cX12_tell q1_cX12_tell 31 (o := 19) rfl) (gB_c lq_cX12_tell q2_cX12_tell 0 (o := 1) rfl) (gB_c lq_cX12_tell q2_cX12_tell 1 (o := 102) rfl) rfl
theorem dX12_tell_66 : decode cX12_tell 66 = .ok (.invokevirtual 337, 3) := dc_182 (gB_c lq_cX12_tell q2_cX12_tell 2 (o := 182) rfl) (gB_c lq_cX12_tell q2_cX12_tell 3 (o := 1) rfl) (gB_c lq_cX12_tell q2_cX12_tell 4 (o := 81) rfl) rfl
theorem dX12_tell_69 : decode cX12_tell 69 = .ok (.aload_n 0, 1) := dc_42 (gB_c lq_cX12_tell q2_cX12_tell 5 (o := 42) rfl)
theorem dX12_tell_70 : decode cX12_tell 70 = .ok (.aload_n 0, 1) := dc_42 (gB_c lq_cX12_tell q2_cX12_tell 6 (o := 42) rfl)
theorem dX12_tell_71 : decode cX12_tell 71 = .ok (.iload_n 1, 1) := dc_27 (gB_c lq_cX12_tell q2_cX12_tell 7 (o := 27) rfl)
theorem dX12_tell_72 : decode cX12_tell 72 = .ok (.iconst 0, 1) := dc_3 (gB_c lq_cX12_tell q2_cX12_tell 8 (o := 3) rfl)
theorem dX12_tell_73 : decode cX12_tell 73 = .ok (.iload_n 3, 1) := dc_29 (gB_c lq_cX12_tell q2_cX12_tell 9 (o := 29) rfl)
theorem dX12_tell_74 : decode cX12_tell 74 = .ok (.invokevirtual 260, 3) := dc_182 (gB_c lq_cX12_tell q2_cX12_tell 10 (o := 182) rfl) (gB_c lq_cX12_tell q2_cX12_tell 11 (o := 1) rfl) (gB_c lq_cX12_tell q2_cX12_tell 12 (o := 4) rfl) rfl
theorem dX12_tell_77 : decode cX12_tell 77 = .ok (.invokevirtual 332, 3) := dc_182 (gB_c lq_cX12_tell q2_cX12_tell 13 (o := 182) rfl) (gB_c lq_cX12_tell q2_cX12_tell 14 (o := 1) rfl) (gB_c lq_cX12_tell q2_cX12_tell 15 (o := 76) rfl) rfl
theorem dX12_tell_80 : decode cX12_tell 80 = .ok (.iinc 3 1, 3) := dc_132 (gB_c lq_cX12_tell q2_cX12_tell 16 (o := 132) rfl) (gB_c lq_cX12_tell q2_cX12_tell 17 (o := 3) rfl) (gB_c lq_cX12_tell q2_cX12_tell 18 (o := 1) rfl) rfl
theorem dX12_tell_83 : decode cX12_tell 83 = .ok (.goto (-41), 3) := dc_167 (gB_c lq_cX12_tell q2_cX12_tell 19 (o := 167) rfl) (gB_c lq_cX12_tell q2_cX12_tell 20 (o := 255) rfl) (gB_c lq_cX12_tell q2_cX12_tell 21 (o := 215) rfl) rfl
theorem dX12_tell_86 : decode cX12_tell 86 = .ok (.aload_n 0, 1) := dc_42 (gB_c lq_cX12_tell q2_cX12_tell 22 (o := 42) rfl)
theorem dX12_tell_87 : decode cX12_tell 87 = .ok (.getfield 193, 3) := dc_180 (gB_c lq_cX12_tell q2_cX12_tell 23 (o := 180) rfl) (gB_c lq_cX12_tell q2_cX12_tell 24 (o := 0) rfl) (gB_c lq_cX12_tell q2_cX12_tell 25 (o := 193) rfl) rfl
theorem dX12_tell_90 : decode cX12_tell 90 = .ok (.ireturn, 1) := dc_172 (gB_c lq_cX12_tell q2_cX12_tell 26 (o := 172) rfl)
abbrev r2_cX12_told : List Nat := [42, 180, 0, 7, 28, 42, 180, 0, 13, 28, 46, 79, 132, 2, 1, 167, 255, 234, 16, 252, 172, 42, 42, 27, 182, 0, 152, 182, 0, 190, 172]
def a1_cX12_told : List Nat := [0, 93, 42, 182, 0, 130, 42, 27, 182, 0, 187, 42, 3, 181, 0, 100, 42, 180, 0, 123, 153, 0, 33, 3, 61, 28, 17, 1, 17, 162, 0, 21]
abbrev r1_cX12_told : List Nat := a1_cX12_told ++ r2_cX12_told
def a0_cX12_told : List Nat := [27, 184, 0, 59, 154, 0, 6, 16, 254, 172, 42, 3, 181, 0, 127, 42, 2, 181, 0, 22, 42, 3, 181, 0, 123, 42, 3, 181, 0, 103, 42, 182]
abbrev r0_cX12_told : List Nat := a0_cX12_told ++ r1_cX12_told
theorem lq_cX12_told : (cX12_told).data.toList.map UInt8.toNat = r0_cX12_told := by decide +kernel
theorem q1_cX12_told : ∀ i, (r0_cX12_told)[32 + i]? = (r1_cX12_told)[i]? := chn (A := a0_cX12_told) (B := r1_cX12_told) (n := 0) (k := 32) rfl (ch0 (R := r0_cX12_told))
theorem q2_cX12_told : ∀ i, (r0_cX12_told)[64 + i]? = (r2_cX12_told)[i]? := chn (A := a1_cX12_told) (B := r2_cX12_told) (n := 32) (k := 32) rfl q1_cX12_told
theorem dX12_told_0 : decode cX12_told 0 = .ok (.iload_n 1, 1) := dc_27 (gB_l lq_cX12_told (p := 0) (o := 27) rfl)
theorem dX12_told_1 : decode cX12_told 1 = .ok (.invokestatic 59, 3) := dc_184 (gB_l lq_cX12_told (p := 1) (o := 184) rfl) (gB_l lq_cX12_told (p := 2) (o := 0) rfl) (gB_l lq_cX12_told (p := 3) (o := 59) rfl) rfl
theorem dX12_told_4 : decode cX12_told 4 = .ok (.ifCond .ne 6, 3) := dc_154 (gB_l lq_cX12_told (p := 4) (o := 154) rfl) (gB_l lq_cX12_told (p := 5) (o := 0) rfl) (gB_l lq_cX12_told (p := 6) (o := 6) rfl) rfl
theorem dX12_told_7 : decode cX12_told 7 = .ok (.bipush (-2), 2) := dc_16 (gB_l lq_cX12_told (p := 7) (o := 16) rfl) (gB_l lq_cX12_told (p := 8) (o := 254) rfl) rfl
theorem dX12_told_9 : decode cX12_told 9 = .ok (.ireturn, 1) := dc_172 (gB_l lq_cX12_told (p := 9) (o := 172) rfl)
theorem dX12_told_10 : decode cX12_told 10 = .ok (.aload_n 0, 1) := dc_42 (gB_l lq_cX12_told (p := 10) (o := 42) rfl)
theorem dX12_told_11 : decode cX12_told 11 = .ok (.iconst 0, 1) := dc_3 (gB_l lq_cX12_told (p := 11) (o := 3) rfl)
theorem dX12_told_12 : decode cX12_told 12 = .ok (.putfield 127, 3) := dc_181 (gB_l lq_cX12_told (p := 12) (o := 181) rfl) (gB_l lq_cX12_told (p := 13) (o := 0) rfl) (gB_l lq_cX12_told (p := 14) (o := 127) rfl) rfl
theorem dX12_told_15 : decode cX12_told 15 = .ok (.aload_n 0, 1) := dc_42 (gB_l lq_cX12_told (p := 15) (o := 42) rfl)
theorem dX12_told_16 : decode cX12_told 16 = .ok (.iconst (-1), 1) := dc_2 (gB_l lq_cX12_told (p := 16) (o := 2) rfl)
theorem dX12_told_17 : decode cX12_told 17 = .ok (.putfield 22, 3) := dc_181 (gB_l lq_cX12_told (p := 17) (o := 181) rfl) (gB_l lq_cX12_told (p := 18) (o := 0) rfl) (gB_l lq_cX12_told (p := 19) (o := 22) rfl) rfl
theorem dX12_told_20 : decode cX12_told 20 = .ok (.aload_n 0, 1) := dc_42 (gB_l lq_cX12_told (p := 20) (o := 42) rfl)
theorem dX12_told_21 : decode cX12_told 21 = .ok (.iconst 0, 1) := dc_3 (gB_l lq_cX12_told (p := 21) (o := 3) rfl)
theorem dX12_told_22 : decode cX12_told 22 = .ok (.putfield 123, 3) := dc_181 (gB_l lq_cX12_told (p := 22) (o := 181) rfl) (gB_l lq_cX12_told (p := 23) (o := 0) rfl) (gB_l lq_cX12_told (p := 24) (o := 123) rfl) rfl
theorem dX12_told_25 : decode cX12_told 25 = .ok (.aload_n 0, 1) := dc_42 (gB_l lq_cX12_told (p := 25) (o := 42) rfl)
theorem dX12_told_26 : decode cX12_told 26 = .ok (.iconst 0, 1) := dc_3 (gB_l lq_cX12_told (p := 26) (o := 3) rfl)
theorem dX12_told_27 : decode cX12_told 27 = .ok (.putfield 103, 3) := dc_181 (gB_l lq_cX12_told (p := 27) (o := 181) rfl) (gB_l lq_cX12_told (p := 28) (o := 0) rfl) (gB_l lq_cX12_told (p := 29) (o := 103) rfl) rfl
theorem dX12_told_30 : decode cX12_told 30 = .ok (.aload_n 0, 1) := dc_42 (gB_l lq_cX12_told (p := 30) (o := 42) rfl)
theorem dX12_told_31 : decode cX12_told 31 = .ok (.invokevirtual 93, 3) := dc_182 (gB_l lq_cX12_told (p := 31) (o := 182) rfl) (gB_c lq_cX12_told q1_cX12_told 0 (o := 0) rfl) (gB_c lq_cX12_told q1_cX12_told 1 (o := 93) rfl) rfl
theorem dX12_told_34 : decode cX12_told 34 = .ok (.aload_n 0, 1) := dc_42 (gB_c lq_cX12_told q1_cX12_told 2 (o := 42) rfl)
theorem dX12_told_35 : decode cX12_told 35 = .ok (.invokevirtual 130, 3) := dc_182 (gB_c lq_cX12_told q1_cX12_told 3 (o := 182) rfl) (gB_c lq_cX12_told q1_cX12_told 4 (o := 0) rfl) (gB_c lq_cX12_told q1_cX12_told 5 (o := 130) rfl) rfl
theorem dX12_told_38 : decode cX12_told 38 = .ok (.aload_n 0, 1) := dc_42 (gB_c lq_cX12_told q1_cX12_told 6 (o := 42) rfl)
theorem dX12_told_39 : decode cX12_told 39 = .ok (.iload_n 1, 1) := dc_27 (gB_c lq_cX12_told q1_cX12_told 7 (o := 27) rfl)
theorem dX12_told_40 : decode cX12_told 40 = .ok (.invokevirtual 187, 3) := dc_182 (gB_c lq_cX12_told q1_cX12_told 8 (o := 182) rfl) (gB_c lq_cX12_told q1_cX12_told 9 (o := 0) rfl) (gB_c lq_cX12_told q1_cX12_told 10 (o := 187) rfl) rfl
theorem dX12_told_43 : decode cX12_told 43 = .ok (.aload_n 0, 1) := dc_42 (gB_c lq_cX12_told q1_cX12_told 11 (o := 42) rfl)
theorem dX12_told_44 : decode cX12_told 44 = .ok (.iconst 0, 1) := dc_3 (gB_c lq_cX12_told q1_cX12_told 12 (o := 3) rfl)
theorem dX12_told_45 : decode cX12_told 45 = .ok (.putfield 100, 3) := dc_181 (gB_c lq_cX12_told q1_cX12_told 13 (o := 181) rfl) (gB_c lq_cX12_told q1_cX12_told 14 (o := 0) rfl) (gB_c lq_cX12_told q1_cX12_told 15 (o := 100) rfl) rfl
theorem dX12_told_48 : decode cX12_told 48 = .ok (.aload_n 0, 1) := dc_42 (gB_c lq_cX12_told q1_cX12_told 16 (o := 42) rfl)
theorem dX12_told_49 : decode cX12_told 49 = .ok (.getfield 123, 3) := dc_180 (gB_c lq_cX12_told q1_cX12_told 17 (o := 180) rfl) (gB_c lq_cX12_told q1_cX12_told 18 (o := 0) rfl) (gB_c lq_cX12_told q1_cX12_told 19 (o := 123) rfl) rfl
theorem dX12_told_52 : decode cX12_told 52 = .ok (.ifCond .eq 33, 3) := dc_153 (gB_c lq_cX12_told q1_cX12_told 20 (o := 153) rfl) (gB_c lq_cX12_told q1_cX12_told 21 (o := 0) rfl) (gB_c lq_cX12_told q1_cX12_told 22 (o := 33) rfl) rfl
theorem dX12_told_55 : decode cX12_told 55 = .ok (.iconst 0, 1) := dc_3 (gB_c lq_cX12_told q1_cX12_told 23 (o := 3) rfl)
theorem dX12_told_56 : decode cX12_told 56 = .ok (.istore_n 2, 1) := dc_61 (gB_c lq_cX12_told q1_cX12_told 24 (o := 61) rfl)
theorem dX12_told_57 : decode cX12_told 57 = .ok (.iload_n 2, 1) := dc_28 (gB_c lq_cX12_told q1_cX12_told 25 (o := 28) rfl)
theorem dX12_told_58 : decode cX12_told 58 = .ok (.sipush 273, 3) := dc_17 (gB_c lq_cX12_told q1_cX12_told 26 (o := 17) rfl) (gB_c lq_cX12_told q1_cX12_told 27 (o := 1) rfl) (gB_c lq_cX12_told q1_cX12_told 28 (o := 17) rfl) rfl
theorem dX12_told_61 : decode cX12_told 61 = .ok (.if_icmp .ge 21, 3) := dc_162 (gB_c lq_cX12_told q1_cX12_told 29 (o := 162) rfl) (gB_c lq_cX12_told q1_cX12_told 30 (o := 0) rfl) (gB_c lq_cX12_told q1_cX12_told 31 (o := 21) rfl) rfl
theorem dX12_told_64 : decode cX12_told 64 = .ok (.aload_n 0, 1) := dc_42 (gB_c lq_cX12_told q2_cX12_told 0 (o := 42) rfl)
theorem dX12_told_65 : decode cX12_told 65 = .ok (.getfield 7, 3) := dc_180 (gB_c lq_cX12_told q2_cX12_told 1 (o := 180) rfl) (gB_c lq_cX12_told q2_cX12_told 2 (o := 0) rfl) (gB_c lq_cX12_told q2_cX12_told 3 (o := 7) rfl) rfl
theorem dX12_told_68 : decode cX12_told 68 = .ok (.iload_n 2, 1) := dc_28 (gB_c lq_cX12_told q2_cX12_told 4 (o := 28) rfl)
theorem dX12_told_69 : decode cX12_told 69 = .ok (.aload_n 0, 1) := dc_42 (gB_c lq_cX12_told q2_cX12_told 5 (o := 42) rfl)
theorem dX12_told_70 : decode cX12_told 70 = .ok (.getfield 13, 3) := dc_180 (gB_c lq_cX12_told q2_cX12_told 6 (o := 180) rfl) (gB_c lq_cX12_told q2_cX12_told 7 (o := 0) rfl) (gB_c lq_cX12_told q2_cX12_told 8 (o := 13) rfl) rfl
theorem dX12_told_73 : decode cX12_told 73 = .ok (.iload_n 2, 1) := dc_28 (gB_c lq_cX12_told q2_cX12_told 9 (o := 28) rfl)
theorem dX12_told_74 : decode cX12_told 74 = .ok (.iaload, 1) := dc_46 (gB_c lq_cX12_told q2_cX12_told 10 (o := 46) rfl)
theorem dX12_told_75 : decode cX12_told 75 = .ok (.iastore, 1) := dc_79 (gB_c lq_cX12_told q2_cX12_told 11 (o := 79) rfl)
theorem dX12_told_76 : decode cX12_told 76 = .ok (.iinc 2 1, 3) := dc_132 (gB_c lq_cX12_told q2_cX12_told 12 (o := 132) rfl) (gB_c lq_cX12_told q2_cX12_told 13 (o := 2) rfl) (gB_c lq_cX12_told q2_cX12_told 14 (o := 1) rfl) rfl
theorem dX12_told_79 : decode cX12_told 79 = .ok (.goto (-22), 3) := dc_167 (gB_c lq_cX12_told q2_cX12_told 15 (o := 167) rfl) (gB_c lq_cX12_told q2_cX12_told 16 (o := 255) rfl) (gB_c lq_cX12_told q2_cX12_told 17 (o := 234) rfl) rfl
theorem dX12_told_82 : decode cX12_told 82 = .ok (.bipush (-4), 2) := dc_16 (gB_c lq_cX12_told q2_cX12_told 18 (o := 16) rfl) (gB_c lq_cX12_told q2_cX12_told 19 (o := 252) rfl) rfl
theorem dX12_told_84 : decode cX12_told 84 = .ok (.ireturn, 1) := dc_172 (gB_c lq_cX12_told q2_cX12_told 20 (o := 172) rfl)
theorem dX12_told_85 : decode cX12_told 85 = .ok (.aload_n 0, 1) := dc_42 (gB_c lq_cX12_told q2_cX12_told 21 (o := 42) rfl)
theorem dX12_told_86 : decode cX12_told 86 = .ok (.aload_n 0, 1) := dc_42 (gB_c lq_cX12_told q2_cX12_told 22 (o := 42) rfl)
theorem dX12_told_87 : decode cX12_told 87 = .ok (.iload_n 1, 1) := dc_27 (gB_c lq_cX12_told q2_cX12_told 23 (o := 27) rfl)
theorem dX12_told_88 : decode cX12_told 88 = .ok (.invokevirtual 152, 3) := dc_182 (gB_c lq_cX12_told q2_cX12_told 24 (o := 182) rfl) (gB_c lq_cX12_told q2_cX12_told 25 (o := 0) rfl) (gB_c lq_cX12_told q2_cX12_told 26 (o := 152) rfl) rfl
theorem dX12_told_91 : decode cX12_told 91 = .ok (.invokevirtual 190, 3) := dc_182 (gB_c lq_cX12_told q2_cX12_told 27 (o := 182) rfl) (gB_c lq_cX12_told q2_cX12_told 28 (o := 0) rfl) (gB_c lq_cX12_told q2_cX12_told 29 (o := 190) rfl) rfl
theorem dX12_told_94 : decode cX12_told 94 = .ok (.ireturn, 1) := dc_172 (gB_c lq_cX12_told q2_cX12_told 30 (o := 172) rfl)
abbrev r1_cX12_undo : List Nat := [27, 42, 180, 0, 16, 17, 1, 17, 42, 180, 0, 87, 104, 27, 96, 46, 79, 132, 1, 1, 167, 255, 225, 42, 180, 0, 87, 172]
def a0_cX12_undo : List Nat := [42, 180, 0, 87, 154, 0, 5, 2, 172, 42, 89, 180, 0, 87, 4, 100, 181, 0, 87, 3, 60, 27, 17, 1, 17, 162, 0, 30, 42, 180, 0, 7]
abbrev r0_cX12_undo : List Nat := a0_cX12_undo ++ r1_cX12_undo
theorem lq_cX12_undo : (cX12_undo).data.toList.map UInt8.toNat = r0_cX12_undo := by decide +kernel
theorem q1_cX12_undo : ∀ i, (r0_cX12_undo)[32 + i]? = (r1_cX12_undo)[i]? := chn (A := a0_cX12_undo) (B := r1_cX12_undo) (n := 0) (k := 32) rfl (ch0 (R := r0_cX12_undo))
theorem dX12_undo_0 : decode cX12_undo 0 = .ok (.aload_n 0, 1) := dc_42 (gB_l lq_cX12_undo (p := 0) (o := 42) rfl)
theorem dX12_undo_1 : decode cX12_undo 1 = .ok (.getfield 87, 3) := dc_180 (gB_l lq_cX12_undo (p := 1) (o := 180) rfl) (gB_l lq_cX12_undo (p := 2) (o := 0) rfl) (gB_l lq_cX12_undo (p := 3) (o := 87) rfl) rfl
theorem dX12_undo_4 : decode cX12_undo 4 = .ok (.ifCond .ne 5, 3) := dc_154 (gB_l lq_cX12_undo (p := 4) (o := 154) rfl) (gB_l lq_cX12_undo (p := 5) (o := 0) rfl) (gB_l lq_cX12_undo (p := 6) (o := 5) rfl) rfl
theorem dX12_undo_7 : decode cX12_undo 7 = .ok (.iconst (-1), 1) := dc_2 (gB_l lq_cX12_undo (p := 7) (o := 2) rfl)
theorem dX12_undo_8 : decode cX12_undo 8 = .ok (.ireturn, 1) := dc_172 (gB_l lq_cX12_undo (p := 8) (o := 172) rfl)
theorem dX12_undo_9 : decode cX12_undo 9 = .ok (.aload_n 0, 1) := dc_42 (gB_l lq_cX12_undo (p := 9) (o := 42) rfl)
theorem dX12_undo_10 : decode cX12_undo 10 = .ok (.dup, 1) := dc_89 (gB_l lq_cX12_undo (p := 10) (o := 89) rfl)
theorem dX12_undo_11 : decode cX12_undo 11 = .ok (.getfield 87, 3) := dc_180 (gB_l lq_cX12_undo (p := 11) (o := 180) rfl) (gB_l lq_cX12_undo (p := 12) (o := 0) rfl) (gB_l lq_cX12_undo (p := 13) (o := 87) rfl) rfl
theorem dX12_undo_14 : decode cX12_undo 14 = .ok (.iconst 1, 1) := dc_4 (gB_l lq_cX12_undo (p := 14) (o := 4) rfl)
theorem dX12_undo_15 : decode cX12_undo 15 = .ok (.isub, 1) := dc_100 (gB_l lq_cX12_undo (p := 15) (o := 100) rfl)
theorem dX12_undo_16 : decode cX12_undo 16 = .ok (.putfield 87, 3) := dc_181 (gB_l lq_cX12_undo (p := 16) (o := 181) rfl) (gB_l lq_cX12_undo (p := 17) (o := 0) rfl) (gB_l lq_cX12_undo (p := 18) (o := 87) rfl) rfl
theorem dX12_undo_19 : decode cX12_undo 19 = .ok (.iconst 0, 1) := dc_3 (gB_l lq_cX12_undo (p := 19) (o := 3) rfl)
theorem dX12_undo_20 : decode cX12_undo 20 = .ok (.istore_n 1, 1) := dc_60 (gB_l lq_cX12_undo (p := 20) (o := 60) rfl)
theorem dX12_undo_21 : decode cX12_undo 21 = .ok (.iload_n 1, 1) := dc_27 (gB_l lq_cX12_undo (p := 21) (o := 27) rfl)
theorem dX12_undo_22 : decode cX12_undo 22 = .ok (.sipush 273, 3) := dc_17 (gB_l lq_cX12_undo (p := 22) (o := 17) rfl) (gB_l lq_cX12_undo (p := 23) (o := 1) rfl) (gB_l lq_cX12_undo (p := 24) (o := 17) rfl) rfl
theorem dX12_undo_25 : decode cX12_undo 25 = .ok (.if_icmp .ge 30, 3) := dc_162 (gB_l lq_cX12_undo (p := 25) (o := 162) rfl) (gB_l lq_cX12_undo (p := 26) (o := 0) rfl) (gB_l lq_cX12_undo (p := 27) (o := 30) rfl) rfl
theorem dX12_undo_28 : decode cX12_undo 28 = .ok (.aload_n 0, 1) := dc_42 (gB_l lq_cX12_undo (p := 28) (o := 42) rfl)
theorem dX12_undo_29 : decode cX12_undo 29 = .ok (.getfield 7, 3) := dc_180 (gB_l lq_cX12_undo (p := 29) (o := 180) rfl) (gB_l lq_cX12_undo (p := 30) (o := 0) rfl) (gB_l lq_cX12_undo (p := 31) (o := 7) rfl) rfl
theorem dX12_undo_32 : decode cX12_undo 32 = .ok (.iload_n 1, 1) := dc_27 (gB_c lq_cX12_undo q1_cX12_undo 0 (o := 27) rfl)
theorem dX12_undo_33 : decode cX12_undo 33 = .ok (.aload_n 0, 1) := dc_42 (gB_c lq_cX12_undo q1_cX12_undo 1 (o := 42) rfl)
theorem dX12_undo_34 : decode cX12_undo 34 = .ok (.getfield 16, 3) := dc_180 (gB_c lq_cX12_undo q1_cX12_undo 2 (o := 180) rfl) (gB_c lq_cX12_undo q1_cX12_undo 3 (o := 0) rfl) (gB_c lq_cX12_undo q1_cX12_undo 4 (o := 16) rfl) rfl
theorem dX12_undo_37 : decode cX12_undo 37 = .ok (.sipush 273, 3) := dc_17 (gB_c lq_cX12_undo q1_cX12_undo 5 (o := 17) rfl) (gB_c lq_cX12_undo q1_cX12_undo 6 (o := 1) rfl) (gB_c lq_cX12_undo q1_cX12_undo 7 (o := 17) rfl) rfl
theorem dX12_undo_40 : decode cX12_undo 40 = .ok (.aload_n 0, 1) := dc_42 (gB_c lq_cX12_undo q1_cX12_undo 8 (o := 42) rfl)
theorem dX12_undo_41 : decode cX12_undo 41 = .ok (.getfield 87, 3) := dc_180 (gB_c lq_cX12_undo q1_cX12_undo 9 (o := 180) rfl) (gB_c lq_cX12_undo q1_cX12_undo 10 (o := 0) rfl) (gB_c lq_cX12_undo q1_cX12_undo 11 (o := 87) rfl) rfl
theorem dX12_undo_44 : decode cX12_undo 44 = .ok (.imul, 1) := dc_104 (gB_c lq_cX12_undo q1_cX12_undo 12 (o := 104) rfl)
theorem dX12_undo_45 : decode cX12_undo 45 = .ok (.iload_n 1, 1) := dc_27 (gB_c lq_cX12_undo q1_cX12_undo 13 (o := 27) rfl)
theorem dX12_undo_46 : decode cX12_undo 46 = .ok (.iadd, 1) := dc_96 (gB_c lq_cX12_undo q1_cX12_undo 14 (o := 96) rfl)
theorem dX12_undo_47 : decode cX12_undo 47 = .ok (.iaload, 1) := dc_46 (gB_c lq_cX12_undo q1_cX12_undo 15 (o := 46) rfl)
theorem dX12_undo_48 : decode cX12_undo 48 = .ok (.iastore, 1) := dc_79 (gB_c lq_cX12_undo q1_cX12_undo 16 (o := 79) rfl)
theorem dX12_undo_49 : decode cX12_undo 49 = .ok (.iinc 1 1, 3) := dc_132 (gB_c lq_cX12_undo q1_cX12_undo 17 (o := 132) rfl) (gB_c lq_cX12_undo q1_cX12_undo 18 (o := 1) rfl) (gB_c lq_cX12_undo q1_cX12_undo 19 (o := 1) rfl) rfl
theorem dX12_undo_52 : decode cX12_undo 52 = .ok (.goto (-31), 3) := dc_167 (gB_c lq_cX12_undo q1_cX12_undo 20 (o := 167) rfl) (gB_c lq_cX12_undo q1_cX12_undo 21 (o := 255) rfl) (gB_c lq_cX12_undo q1_cX12_undo 22 (o := 225) rfl) rfl
theorem dX12_undo_55 : decode cX12_undo 55 = .ok (.aload_n 0, 1) := dc_42 (gB_c lq_cX12_undo q1_cX12_undo 23 (o := 42) rfl)
theorem dX12_undo_56 : decode cX12_undo 56 = .ok (.getfield 87, 3) := dc_180 (gB_c lq_cX12_undo q1_cX12_undo 24 (o := 180) rfl) (gB_c lq_cX12_undo q1_cX12_undo 25 (o := 0) rfl) (gB_c lq_cX12_undo q1_cX12_undo 26 (o := 87) rfl) rfl
theorem dX12_undo_59 : decode cX12_undo 59 = .ok (.ireturn, 1) := dc_172 (gB_c lq_cX12_undo q1_cX12_undo 27 (o := 172) rfl)
abbrev r0_cX12_value : List Nat := [42, 27, 182, 0, 67, 153, 0, 10, 28, 184, 0, 245, 154, 0, 6, 16, 254, 172, 42, 27, 182, 0, 248, 42, 27, 28, 182, 0, 251, 172]
theorem lq_cX12_value : (cX12_value).data.toList.map UInt8.toNat = r0_cX12_value := by decide +kernel
theorem dX12_value_0 : decode cX12_value 0 = .ok (.aload_n 0, 1) := dc_42 (gB_l lq_cX12_value (p := 0) (o := 42) rfl)
theorem dX12_value_1 : decode cX12_value 1 = .ok (.iload_n 1, 1) := dc_27 (gB_l lq_cX12_value (p := 1) (o := 27) rfl)
theorem dX12_value_2 : decode cX12_value 2 = .ok (.invokevirtual 67, 3) := dc_182 (gB_l lq_cX12_value (p := 2) (o := 182) rfl) (gB_l lq_cX12_value (p := 3) (o := 0) rfl) (gB_l lq_cX12_value (p := 4) (o := 67) rfl) rfl
theorem dX12_value_5 : decode cX12_value 5 = .ok (.ifCond .eq 10, 3) := dc_153 (gB_l lq_cX12_value (p := 5) (o := 153) rfl) (gB_l lq_cX12_value (p := 6) (o := 0) rfl) (gB_l lq_cX12_value (p := 7) (o := 10) rfl) rfl
theorem dX12_value_8 : decode cX12_value 8 = .ok (.iload_n 2, 1) := dc_28 (gB_l lq_cX12_value (p := 8) (o := 28) rfl)
theorem dX12_value_9 : decode cX12_value 9 = .ok (.invokestatic 245, 3) := dc_184 (gB_l lq_cX12_value (p := 9) (o := 184) rfl) (gB_l lq_cX12_value (p := 10) (o := 0) rfl) (gB_l lq_cX12_value (p := 11) (o := 245) rfl) rfl
theorem dX12_value_12 : decode cX12_value 12 = .ok (.ifCond .ne 6, 3) := dc_154 (gB_l lq_cX12_value (p := 12) (o := 154) rfl) (gB_l lq_cX12_value (p := 13) (o := 0) rfl) (gB_l lq_cX12_value (p := 14) (o := 6) rfl) rfl
theorem dX12_value_15 : decode cX12_value 15 = .ok (.bipush (-2), 2) := dc_16 (gB_l lq_cX12_value (p := 15) (o := 16) rfl) (gB_l lq_cX12_value (p := 16) (o := 254) rfl) rfl
theorem dX12_value_17 : decode cX12_value 17 = .ok (.ireturn, 1) := dc_172 (gB_l lq_cX12_value (p := 17) (o := 172) rfl)
theorem dX12_value_18 : decode cX12_value 18 = .ok (.aload_n 0, 1) := dc_42 (gB_l lq_cX12_value (p := 18) (o := 42) rfl)
theorem dX12_value_19 : decode cX12_value 19 = .ok (.iload_n 1, 1) := dc_27 (gB_l lq_cX12_value (p := 19) (o := 27) rfl)
theorem dX12_value_20 : decode cX12_value 20 = .ok (.invokevirtual 248, 3) := dc_182 (gB_l lq_cX12_value (p := 20) (o := 182) rfl) (gB_l lq_cX12_value (p := 21) (o := 0) rfl) (gB_l lq_cX12_value (p := 22) (o := 248) rfl) rfl
theorem dX12_value_23 : decode cX12_value 23 = .ok (.aload_n 0, 1) := dc_42 (gB_l lq_cX12_value (p := 23) (o := 42) rfl)
theorem dX12_value_24 : decode cX12_value 24 = .ok (.iload_n 1, 1) := dc_27 (gB_l lq_cX12_value (p := 24) (o := 27) rfl)
theorem dX12_value_25 : decode cX12_value 25 = .ok (.iload_n 2, 1) := dc_28 (gB_l lq_cX12_value (p := 25) (o := 28) rfl)
theorem dX12_value_26 : decode cX12_value 26 = .ok (.invokevirtual 251, 3) := dc_182 (gB_l lq_cX12_value (p := 26) (o := 182) rfl) (gB_l lq_cX12_value (p := 27) (o := 0) rfl) (gB_l lq_cX12_value (p := 28) (o := 251) rfl) rfl
theorem dX12_value_29 : decode cX12_value 29 = .ok (.ireturn, 1) := dc_172 (gB_l lq_cX12_value (p := 29) (o := 172) rfl)
abbrev r2_cX12_valueOf : List Nat := [132, 5, 1, 167, 255, 208, 29, 172]
def a1_cX12_valueOf : List Nat := [27, 28, 21, 4, 42, 180, 0, 26, 21, 5, 46, 182, 0, 238, 184, 0, 242, 62, 21, 4, 4, 42, 180, 0, 26, 21, 5, 46, 120, 128, 54, 4]
abbrev r1_cX12_valueOf : List Nat := a1_cX12_valueOf ++ r2_cX12_valueOf
def a0_cX12_valueOf : List Nat := [28, 5, 160, 0, 9, 42, 27, 182, 0, 235, 172, 3, 62, 3, 54, 4, 3, 54, 5, 21, 5, 42, 27, 182, 0, 63, 162, 0, 44, 28, 29, 42]
abbrev r0_cX12_valueOf : List Nat := a0_cX12_valueOf ++ r1_cX12_valueOf
theorem lq_cX12_valueOf : (cX12_valueOf).data.toList.map UInt8.toNat = r0_cX12_valueOf := by decide +kernel
theorem q1_cX12_valueOf : ∀ i, (r0_cX12_valueOf)[32 + i]? = (r1_cX12_valueOf)[i]? := chn (A := a0_cX12_valueOf) (B := r1_cX12_valueOf) (n := 0) (k := 32) rfl (ch0 (R := r0_cX12_valueOf))
theorem q2_cX12_valueOf : ∀ i, (r0_cX12_valueOf)[64 + i]? = (r2_cX12_valueOf)[i]? := chn (A := a1_cX12_valueOf) (B := r2_cX12_valueOf) (n := 32) (k := 32) rfl q1_cX12_valueOf
theorem dX12_valueOf_0 : decode cX12_valueOf 0 = .ok (.iload_n 2, 1) := dc_28 (gB_l lq_cX12_valueOf (p := 0) (o := 28) rfl)
theorem dX12_valueOf_1 : decode cX12_valueOf 1 = .ok (.iconst 2, 1) := dc_5 (gB_l lq_cX12_valueOf (p := 1) (o := 5) rfl)
theorem dX12_valueOf_2 : decode cX12_valueOf 2 = .ok (.if_icmp .ne 9, 3) := dc_160 (gB_l lq_cX12_valueOf (p := 2) (o := 160) rfl) (gB_l lq_cX12_valueOf (p := 3) (o := 0) rfl) (gB_l lq_cX12_valueOf (p := 4) (o := 9) rfl) rfl
theorem dX12_valueOf_5 : decode cX12_valueOf 5 = .ok (.aload_n 0, 1) := dc_42 (gB_l lq_cX12_valueOf (p := 5) (o := 42) rfl)
theorem dX12_valueOf_6 : decode cX12_valueOf 6 = .ok (.iload_n 1, 1) := dc_27 (gB_l lq_cX12_valueOf (p := 6) (o := 27) rfl)
theorem dX12_valueOf_7 : decode cX12_valueOf 7 = .ok (.invokevirtual 235, 3) := dc_182 (gB_l lq_cX12_valueOf (p := 7) (o := 182) rfl) (gB_l lq_cX12_valueOf (p := 8) (o := 0) rfl) (gB_l lq_cX12_valueOf (p := 9) (o := 235) rfl) rfl
theorem dX12_valueOf_10 : decode cX12_valueOf 10 = .ok (.ireturn, 1) := dc_172 (gB_l lq_cX12_valueOf (p := 10) (o := 172) rfl)
theorem dX12_valueOf_11 : decode cX12_valueOf 11 = .ok (.iconst 0, 1) := dc_3 (gB_l lq_cX12_valueOf (p := 11) (o := 3) rfl)
theorem dX12_valueOf_12 : decode cX12_valueOf 12 = .ok (.istore_n 3, 1) := dc_62 (gB_l lq_cX12_valueOf (p := 12) (o := 62) rfl)
theorem dX12_valueOf_13 : decode cX12_valueOf 13 = .ok (.iconst 0, 1) := dc_3 (gB_l lq_cX12_valueOf (p := 13) (o := 3) rfl)
theorem dX12_valueOf_14 : decode cX12_valueOf 14 = .ok (.istore 4, 2) := dc_54 (gB_l lq_cX12_valueOf (p := 14) (o := 54) rfl) (gB_l lq_cX12_valueOf (p := 15) (o := 4) rfl)
theorem dX12_valueOf_16 : decode cX12_valueOf 16 = .ok (.iconst 0, 1) := dc_3 (gB_l lq_cX12_valueOf (p := 16) (o := 3) rfl)
theorem dX12_valueOf_17 : decode cX12_valueOf 17 = .ok (.istore 5, 2) := dc_54 (gB_l lq_cX12_valueOf (p := 17) (o := 54) rfl) (gB_l lq_cX12_valueOf (p := 18) (o := 5) rfl)
theorem dX12_valueOf_19 : decode cX12_valueOf 19 = .ok (.iload 5, 2) := dc_21 (gB_l lq_cX12_valueOf (p := 19) (o := 21) rfl) (gB_l lq_cX12_valueOf (p := 20) (o := 5) rfl)
theorem dX12_valueOf_21 : decode cX12_valueOf 21 = .ok (.aload_n 0, 1) := dc_42 (gB_l lq_cX12_valueOf (p := 21) (o := 42) rfl)
theorem dX12_valueOf_22 : decode cX12_valueOf 22 = .ok (.iload_n 1, 1) := dc_27 (gB_l lq_cX12_valueOf (p := 22) (o := 27) rfl)
theorem dX12_valueOf_23 : decode cX12_valueOf 23 = .ok (.invokevirtual 63, 3) := dc_182 (gB_l lq_cX12_valueOf (p := 23) (o := 182) rfl) (gB_l lq_cX12_valueOf (p := 24) (o := 0) rfl) (gB_l lq_cX12_valueOf (p := 25) (o := 63) rfl) rfl
theorem dX12_valueOf_26 : decode cX12_valueOf 26 = .ok (.if_icmp .ge 44, 3) := dc_162 (gB_l lq_cX12_valueOf (p := 26) (o := 162) rfl) (gB_l lq_cX12_valueOf (p := 27) (o := 0) rfl) (gB_l lq_cX12_valueOf (p := 28) (o := 44) rfl) rfl
theorem dX12_valueOf_29 : decode cX12_valueOf 29 = .ok (.iload_n 2, 1) := dc_28 (gB_l lq_cX12_valueOf (p := 29) (o := 28) rfl)
theorem dX12_valueOf_30 : decode cX12_valueOf 30 = .ok (.iload_n 3, 1) := dc_29 (gB_l lq_cX12_valueOf (p := 30) (o := 29) rfl)
theorem dX12_valueOf_31 : decode cX12_valueOf 31 = .ok (.aload_n 0, 1) := dc_42 (gB_l lq_cX12_valueOf (p := 31) (o := 42) rfl)
theorem dX12_valueOf_32 : decode cX12_valueOf 32 = .ok (.iload_n 1, 1) := dc_27 (gB_c lq_cX12_valueOf q1_cX12_valueOf 0 (o := 27) rfl)
theorem dX12_valueOf_33 : decode cX12_valueOf 33 = .ok (.iload_n 2, 1) := dc_28 (gB_c lq_cX12_valueOf q1_cX12_valueOf 1 (o := 28) rfl)
theorem dX12_valueOf_34 : decode cX12_valueOf 34 = .ok (.iload 4, 2) := dc_21 (gB_c lq_cX12_valueOf q1_cX12_valueOf 2 (o := 21) rfl) (gB_c lq_cX12_valueOf q1_cX12_valueOf 3 (o := 4) rfl)
theorem dX12_valueOf_36 : decode cX12_valueOf 36 = .ok (.aload_n 0, 1) := dc_42 (gB_c lq_cX12_valueOf q1_cX12_valueOf 4 (o := 42) rfl)
theorem dX12_valueOf_37 : decode cX12_valueOf 37 = .ok (.getfield 26, 3) := dc_180 (gB_c lq_cX12_valueOf q1_cX12_valueOf 5 (o := 180) rfl) (gB_c lq_cX12_valueOf q1_cX12_valueOf 6 (o := 0) rfl) (gB_c lq_cX12_valueOf q1_cX12_valueOf 7 (o := 26) rfl) rfl
theorem dX12_valueOf_40 : decode cX12_valueOf 40 = .ok (.iload 5, 2) := dc_21 (gB_c lq_cX12_valueOf q1_cX12_valueOf 8 (o := 21) rfl) (gB_c lq_cX12_valueOf q1_cX12_valueOf 9 (o := 5) rfl)
theorem dX12_valueOf_42 : decode cX12_valueOf 42 = .ok (.iaload, 1) := dc_46 (gB_c lq_cX12_valueOf q1_cX12_valueOf 10 (o := 46) rfl)
theorem dX12_valueOf_43 : decode cX12_valueOf 43 = .ok (.invokevirtual 238, 3) := dc_182 (gB_c lq_cX12_valueOf q1_cX12_valueOf 11 (o := 182) rfl) (gB_c lq_cX12_valueOf q1_cX12_valueOf 12 (o := 0) rfl) (gB_c lq_cX12_valueOf q1_cX12_valueOf 13 (o := 238) rfl) rfl
theorem dX12_valueOf_46 : decode cX12_valueOf 46 = .ok (.invokestatic 242, 3) := dc_184 (gB_c lq_cX12_valueOf q1_cX12_valueOf 14 (o := 184) rfl) (gB_c lq_cX12_valueOf q1_cX12_valueOf 15 (o := 0) rfl) (gB_c lq_cX12_valueOf q1_cX12_valueOf 16 (o := 242) rfl) rfl
theorem dX12_valueOf_49 : decode cX12_valueOf 49 = .ok (.istore_n 3, 1) := dc_62 (gB_c lq_cX12_valueOf q1_cX12_valueOf 17 (o := 62) rfl)
theorem dX12_valueOf_50 : decode cX12_valueOf 50 = .ok (.iload 4, 2) := dc_21 (gB_c lq_cX12_valueOf q1_cX12_valueOf 18 (o := 21) rfl) (gB_c lq_cX12_valueOf q1_cX12_valueOf 19 (o := 4) rfl)
theorem dX12_valueOf_52 : decode cX12_valueOf 52 = .ok (.iconst 1, 1) := dc_4 (gB_c lq_cX12_valueOf q1_cX12_valueOf 20 (o := 4) rfl)
theorem dX12_valueOf_53 : decode cX12_valueOf 53 = .ok (.aload_n 0, 1) := dc_42 (gB_c lq_cX12_valueOf q1_cX12_valueOf 21 (o := 42) rfl)
theorem dX12_valueOf_54 : decode cX12_valueOf 54 = .ok (.getfield 26, 3) := dc_180 (gB_c lq_cX12_valueOf q1_cX12_valueOf 22 (o := 180) rfl) (gB_c lq_cX12_valueOf q1_cX12_valueOf 23 (o := 0) rfl) (gB_c lq_cX12_valueOf q1_cX12_valueOf 24 (o := 26) rfl) rfl
theorem dX12_valueOf_57 : decode cX12_valueOf 57 = .ok (.iload 5, 2) := dc_21 (gB_c lq_cX12_valueOf q1_cX12_valueOf 25 (o := 21) rfl) (gB_c lq_cX12_valueOf q1_cX12_valueOf 26 (o := 5) rfl)
theorem dX12_valueOf_59 : decode cX12_valueOf 59 = .ok (.iaload, 1) := dc_46 (gB_c lq_cX12_valueOf q1_cX12_valueOf 27 (o := 46) rfl)
theorem dX12_valueOf_60 : decode cX12_valueOf 60 = .ok (.ishl, 1) := dc_120 (gB_c lq_cX12_valueOf q1_cX12_valueOf 28 (o := 120) rfl)
theorem dX12_valueOf_61 : decode cX12_valueOf 61 = .ok (.ior, 1) := dc_128 (gB_c lq_cX12_valueOf q1_cX12_valueOf 29 (o := 128) rfl)
theorem dX12_valueOf_62 : decode cX12_valueOf 62 = .ok (.istore 4, 2) := dc_54 (gB_c lq_cX12_valueOf q1_cX12_valueOf 30 (o := 54) rfl) (gB_c lq_cX12_valueOf q1_cX12_valueOf 31 (o := 4) rfl)
theorem dX12_valueOf_64 : decode cX12_valueOf 64 = .ok (.iinc 5 1, 3) := dc_132 (gB_c lq_cX12_valueOf q2_cX12_valueOf 0 (o := 132) rfl) (gB_c lq_cX12_valueOf q2_cX12_valueOf 1 (o := 5) rfl) (gB_c lq_cX12_valueOf q2_cX12_valueOf 2 (o := 1) rfl) rfl
theorem dX12_valueOf_67 : decode cX12_valueOf 67 = .ok (.goto (-48), 3) := dc_167 (gB_c lq_cX12_valueOf q2_cX12_valueOf 3 (o := 167) rfl) (gB_c lq_cX12_valueOf q2_cX12_valueOf 4 (o := 255) rfl) (gB_c lq_cX12_valueOf q2_cX12_valueOf 5 (o := 208) rfl) rfl
theorem dX12_valueOf_70 : decode cX12_valueOf 70 = .ok (.iload_n 3, 1) := dc_29 (gB_c lq_cX12_valueOf q2_cX12_valueOf 6 (o := 29) rfl)
theorem dX12_valueOf_71 : decode cX12_valueOf 71 = .ok (.ireturn, 1) := dc_172 (gB_c lq_cX12_valueOf q2_cX12_valueOf 7 (o := 172) rfl)
abbrev r2_cX12_ways : List Nat := [182, 1, 51, 172]
def a1_cX12_ways : List Nat := [1, 37, 172, 42, 27, 28, 182, 1, 24, 28, 184, 0, 232, 153, 0, 17, 42, 27, 42, 180, 0, 29, 3, 46, 182, 1, 48, 167, 0, 8, 42, 27]
abbrev r1_cX12_ways : List Nat := a1_cX12_ways ++ r2_cX12_ways
def a0_cX12_ways : List Nat := [42, 27, 182, 0, 67, 153, 0, 10, 28, 184, 0, 245, 154, 0, 6, 16, 254, 172, 28, 5, 160, 0, 15, 42, 27, 42, 27, 182, 1, 21, 3, 182]
abbrev r0_cX12_ways : List Nat := a0_cX12_ways ++ r1_cX12_ways
theorem lq_cX12_ways : (cX12_ways).data.toList.map UInt8.toNat = r0_cX12_ways := by decide +kernel
theorem q1_cX12_ways : ∀ i, (r0_cX12_ways)[32 + i]? = (r1_cX12_ways)[i]? := chn (A := a0_cX12_ways) (B := r1_cX12_ways) (n := 0) (k := 32) rfl (ch0 (R := r0_cX12_ways))
theorem q2_cX12_ways : ∀ i, (r0_cX12_ways)[64 + i]? = (r2_cX12_ways)[i]? := chn (A := a1_cX12_ways) (B := r2_cX12_ways) (n := 32) (k := 32) rfl q1_cX12_ways
theorem dX12_ways_0 : decode cX12_ways 0 = .ok (.aload_n 0, 1) := dc_42 (gB_l lq_cX12_ways (p := 0) (o := 42) rfl)
theorem dX12_ways_1 : decode cX12_ways 1 = .ok (.iload_n 1, 1) := dc_27 (gB_l lq_cX12_ways (p := 1) (o := 27) rfl)
theorem dX12_ways_2 : decode cX12_ways 2 = .ok (.invokevirtual 67, 3) := dc_182 (gB_l lq_cX12_ways (p := 2) (o := 182) rfl) (gB_l lq_cX12_ways (p := 3) (o := 0) rfl) (gB_l lq_cX12_ways (p := 4) (o := 67) rfl) rfl
theorem dX12_ways_5 : decode cX12_ways 5 = .ok (.ifCond .eq 10, 3) := dc_153 (gB_l lq_cX12_ways (p := 5) (o := 153) rfl) (gB_l lq_cX12_ways (p := 6) (o := 0) rfl) (gB_l lq_cX12_ways (p := 7) (o := 10) rfl) rfl
theorem dX12_ways_8 : decode cX12_ways 8 = .ok (.iload_n 2, 1) := dc_28 (gB_l lq_cX12_ways (p := 8) (o := 28) rfl)
theorem dX12_ways_9 : decode cX12_ways 9 = .ok (.invokestatic 245, 3) := dc_184 (gB_l lq_cX12_ways (p := 9) (o := 184) rfl) (gB_l lq_cX12_ways (p := 10) (o := 0) rfl) (gB_l lq_cX12_ways (p := 11) (o := 245) rfl) rfl
theorem dX12_ways_12 : decode cX12_ways 12 = .ok (.ifCond .ne 6, 3) := dc_154 (gB_l lq_cX12_ways (p := 12) (o := 154) rfl) (gB_l lq_cX12_ways (p := 13) (o := 0) rfl) (gB_l lq_cX12_ways (p := 14) (o := 6) rfl) rfl
theorem dX12_ways_15 : decode cX12_ways 15 = .ok (.bipush (-2), 2) := dc_16 (gB_l lq_cX12_ways (p := 15) (o := 16) rfl) (gB_l lq_cX12_ways (p := 16) (o := 254) rfl) rfl
theorem dX12_ways_17 : decode cX12_ways 17 = .ok (.ireturn, 1) := dc_172 (gB_l lq_cX12_ways (p := 17) (o := 172) rfl)
theorem dX12_ways_18 : decode cX12_ways 18 = .ok (.iload_n 2, 1) := dc_28 (gB_l lq_cX12_ways (p := 18) (o := 28) rfl)
theorem dX12_ways_19 : decode cX12_ways 19 = .ok (.iconst 2, 1) := dc_5 (gB_l lq_cX12_ways (p := 19) (o := 5) rfl)
theorem dX12_ways_20 : decode cX12_ways 20 = .ok (.if_icmp .ne 15, 3) := dc_160 (gB_l lq_cX12_ways (p := 20) (o := 160) rfl) (gB_l lq_cX12_ways (p := 21) (o := 0) rfl) (gB_l lq_cX12_ways (p := 22) (o := 15) rfl) rfl
theorem dX12_ways_23 : decode cX12_ways 23 = .ok (.aload_n 0, 1) := dc_42 (gB_l lq_cX12_ways (p := 23) (o := 42) rfl)
theorem dX12_ways_24 : decode cX12_ways 24 = .ok (.iload_n 1, 1) := dc_27 (gB_l lq_cX12_ways (p := 24) (o := 27) rfl)
theorem dX12_ways_25 : decode cX12_ways 25 = .ok (.aload_n 0, 1) := dc_42 (gB_l lq_cX12_ways (p := 25) (o := 42) rfl)
theorem dX12_ways_26 : decode cX12_ways 26 = .ok (.iload_n 1, 1) := dc_27 (gB_l lq_cX12_ways (p := 26) (o := 27) rfl)
theorem dX12_ways_27 : decode cX12_ways 27 = .ok (.invokevirtual 277, 3) := dc_182 (gB_l lq_cX12_ways (p := 27) (o := 182) rfl) (gB_l lq_cX12_ways (p := 28) (o := 1) rfl) (gB_l lq_cX12_ways (p := 29) (o := 21) rfl) rfl
theorem dX12_ways_30 : decode cX12_ways 30 = .ok (.iconst 0, 1) := dc_3 (gB_l lq_cX12_ways (p := 30) (o := 3) rfl)
theorem dX12_ways_31 : decode cX12_ways 31 = .ok (.invokevirtual 293, 3) := dc_182 (gB_l lq_cX12_ways (p := 31) (o := 182) rfl) (gB_c lq_cX12_ways q1_cX12_ways 0 (o := 1) rfl) (gB_c lq_cX12_ways q1_cX12_ways 1 (o := 37) rfl) rfl
theorem dX12_ways_34 : decode cX12_ways 34 = .ok (.ireturn, 1) := dc_172 (gB_c lq_cX12_ways q1_cX12_ways 2 (o := 172) rfl)
theorem dX12_ways_35 : decode cX12_ways 35 = .ok (.aload_n 0, 1) := dc_42 (gB_c lq_cX12_ways q1_cX12_ways 3 (o := 42) rfl)
theorem dX12_ways_36 : decode cX12_ways 36 = .ok (.iload_n 1, 1) := dc_27 (gB_c lq_cX12_ways q1_cX12_ways 4 (o := 27) rfl)
theorem dX12_ways_37 : decode cX12_ways 37 = .ok (.iload_n 2, 1) := dc_28 (gB_c lq_cX12_ways q1_cX12_ways 5 (o := 28) rfl)
theorem dX12_ways_38 : decode cX12_ways 38 = .ok (.invokevirtual 280, 3) := dc_182 (gB_c lq_cX12_ways q1_cX12_ways 6 (o := 182) rfl) (gB_c lq_cX12_ways q1_cX12_ways 7 (o := 1) rfl) (gB_c lq_cX12_ways q1_cX12_ways 8 (o := 24) rfl) rfl
theorem dX12_ways_41 : decode cX12_ways 41 = .ok (.iload_n 2, 1) := dc_28 (gB_c lq_cX12_ways q1_cX12_ways 9 (o := 28) rfl)
theorem dX12_ways_42 : decode cX12_ways 42 = .ok (.invokestatic 232, 3) := dc_184 (gB_c lq_cX12_ways q1_cX12_ways 10 (o := 184) rfl) (gB_c lq_cX12_ways q1_cX12_ways 11 (o := 0) rfl) (gB_c lq_cX12_ways q1_cX12_ways 12 (o := 232) rfl) rfl
theorem dX12_ways_45 : decode cX12_ways 45 = .ok (.ifCond .eq 17, 3) := dc_153 (gB_c lq_cX12_ways q1_cX12_ways 13 (o := 153) rfl) (gB_c lq_cX12_ways q1_cX12_ways 14 (o := 0) rfl) (gB_c lq_cX12_ways q1_cX12_ways 15 (o := 17) rfl) rfl
theorem dX12_ways_48 : decode cX12_ways 48 = .ok (.aload_n 0, 1) := dc_42 (gB_c lq_cX12_ways q1_cX12_ways 16 (o := 42) rfl)
theorem dX12_ways_49 : decode cX12_ways 49 = .ok (.iload_n 1, 1) := dc_27 (gB_c lq_cX12_ways q1_cX12_ways 17 (o := 27) rfl)
theorem dX12_ways_50 : decode cX12_ways 50 = .ok (.aload_n 0, 1) := dc_42 (gB_c lq_cX12_ways q1_cX12_ways 18 (o := 42) rfl)
theorem dX12_ways_51 : decode cX12_ways 51 = .ok (.getfield 29, 3) := dc_180 (gB_c lq_cX12_ways q1_cX12_ways 19 (o := 180) rfl) (gB_c lq_cX12_ways q1_cX12_ways 20 (o := 0) rfl) (gB_c lq_cX12_ways q1_cX12_ways 21 (o := 29) rfl) rfl
theorem dX12_ways_54 : decode cX12_ways 54 = .ok (.iconst 0, 1) := dc_3 (gB_c lq_cX12_ways q1_cX12_ways 22 (o := 3) rfl)
theorem dX12_ways_55 : decode cX12_ways 55 = .ok (.iaload, 1) := dc_46 (gB_c lq_cX12_ways q1_cX12_ways 23 (o := 46) rfl)
theorem dX12_ways_56 : decode cX12_ways 56 = .ok (.invokevirtual 304, 3) := dc_182 (gB_c lq_cX12_ways q1_cX12_ways 24 (o := 182) rfl) (gB_c lq_cX12_ways q1_cX12_ways 25 (o := 1) rfl) (gB_c lq_cX12_ways q1_cX12_ways 26 (o := 48) rfl) rfl
theorem dX12_ways_59 : decode cX12_ways 59 = .ok (.goto 8, 3) := dc_167 (gB_c lq_cX12_ways q1_cX12_ways 27 (o := 167) rfl) (gB_c lq_cX12_ways q1_cX12_ways 28 (o := 0) rfl) (gB_c lq_cX12_ways q1_cX12_ways 29 (o := 8) rfl) rfl
theorem dX12_ways_62 : decode cX12_ways 62 = .ok (.aload_n 0, 1) := dc_42 (gB_c lq_cX12_ways q1_cX12_ways 30 (o := 42) rfl)
theorem dX12_ways_63 : decode cX12_ways 63 = .ok (.iload_n 1, 1) := dc_27 (gB_c lq_cX12_ways q1_cX12_ways 31 (o := 27) rfl)
theorem dX12_ways_64 : decode cX12_ways 64 = .ok (.invokevirtual 307, 3) := dc_182 (gB_c lq_cX12_ways q2_cX12_ways 0 (o := 182) rfl) (gB_c lq_cX12_ways q2_cX12_ways 1 (o := 1) rfl) (gB_c lq_cX12_ways q2_cX12_ways 2 (o := 51) rfl) rfl
theorem dX12_ways_67 : decode cX12_ways 67 = .ok (.ireturn, 1) := dc_172 (gB_c lq_cX12_ways q2_cX12_ways 3 (o := 172) rfl)
abbrev r1_cX12_weighs : List Nat := [29, 104, 96, 28, 96, 21, 4, 79, 177]
def a0_cX12_weighs : List Nat := [42, 180, 0, 7, 16, 91, 27, 104, 4, 96, 16, 9, 28, 104, 96, 29, 96, 21, 4, 79, 42, 180, 0, 7, 16, 91, 27, 104, 4, 96, 16, 9]
abbrev r0_cX12_weighs : List Nat := a0_cX12_weighs ++ r1_cX12_weighs
theorem lq_cX12_weighs : (cX12_weighs).data.toList.map UInt8.toNat = r0_cX12_weighs := by decide +kernel
theorem q1_cX12_weighs : ∀ i, (r0_cX12_weighs)[32 + i]? = (r1_cX12_weighs)[i]? := chn (A := a0_cX12_weighs) (B := r1_cX12_weighs) (n := 0) (k := 32) rfl (ch0 (R := r0_cX12_weighs))
theorem dX12_weighs_0 : decode cX12_weighs 0 = .ok (.aload_n 0, 1) := dc_42 (gB_l lq_cX12_weighs (p := 0) (o := 42) rfl)
theorem dX12_weighs_1 : decode cX12_weighs 1 = .ok (.getfield 7, 3) := dc_180 (gB_l lq_cX12_weighs (p := 1) (o := 180) rfl) (gB_l lq_cX12_weighs (p := 2) (o := 0) rfl) (gB_l lq_cX12_weighs (p := 3) (o := 7) rfl) rfl
theorem dX12_weighs_4 : decode cX12_weighs 4 = .ok (.bipush 91, 2) := dc_16 (gB_l lq_cX12_weighs (p := 4) (o := 16) rfl) (gB_l lq_cX12_weighs (p := 5) (o := 91) rfl) rfl
theorem dX12_weighs_6 : decode cX12_weighs 6 = .ok (.iload_n 1, 1) := dc_27 (gB_l lq_cX12_weighs (p := 6) (o := 27) rfl)
theorem dX12_weighs_7 : decode cX12_weighs 7 = .ok (.imul, 1) := dc_104 (gB_l lq_cX12_weighs (p := 7) (o := 104) rfl)
theorem dX12_weighs_8 : decode cX12_weighs 8 = .ok (.iconst 1, 1) := dc_4 (gB_l lq_cX12_weighs (p := 8) (o := 4) rfl)
theorem dX12_weighs_9 : decode cX12_weighs 9 = .ok (.iadd, 1) := dc_96 (gB_l lq_cX12_weighs (p := 9) (o := 96) rfl)
theorem dX12_weighs_10 : decode cX12_weighs 10 = .ok (.bipush 9, 2) := dc_16 (gB_l lq_cX12_weighs (p := 10) (o := 16) rfl) (gB_l lq_cX12_weighs (p := 11) (o := 9) rfl) rfl
theorem dX12_weighs_12 : decode cX12_weighs 12 = .ok (.iload_n 2, 1) := dc_28 (gB_l lq_cX12_weighs (p := 12) (o := 28) rfl)
theorem dX12_weighs_13 : decode cX12_weighs 13 = .ok (.imul, 1) := dc_104 (gB_l lq_cX12_weighs (p := 13) (o := 104) rfl)
theorem dX12_weighs_14 : decode cX12_weighs 14 = .ok (.iadd, 1) := dc_96 (gB_l lq_cX12_weighs (p := 14) (o := 96) rfl)
theorem dX12_weighs_15 : decode cX12_weighs 15 = .ok (.iload_n 3, 1) := dc_29 (gB_l lq_cX12_weighs (p := 15) (o := 29) rfl)
theorem dX12_weighs_16 : decode cX12_weighs 16 = .ok (.iadd, 1) := dc_96 (gB_l lq_cX12_weighs (p := 16) (o := 96) rfl)
theorem dX12_weighs_17 : decode cX12_weighs 17 = .ok (.iload 4, 2) := dc_21 (gB_l lq_cX12_weighs (p := 17) (o := 21) rfl) (gB_l lq_cX12_weighs (p := 18) (o := 4) rfl)
theorem dX12_weighs_19 : decode cX12_weighs 19 = .ok (.iastore, 1) := dc_79 (gB_l lq_cX12_weighs (p := 19) (o := 79) rfl)
theorem dX12_weighs_20 : decode cX12_weighs 20 = .ok (.aload_n 0, 1) := dc_42 (gB_l lq_cX12_weighs (p := 20) (o := 42) rfl)
theorem dX12_weighs_21 : decode cX12_weighs 21 = .ok (.getfield 7, 3) := dc_180 (gB_l lq_cX12_weighs (p := 21) (o := 180) rfl) (gB_l lq_cX12_weighs (p := 22) (o := 0) rfl) (gB_l lq_cX12_weighs (p := 23) (o := 7) rfl) rfl
theorem dX12_weighs_24 : decode cX12_weighs 24 = .ok (.bipush 91, 2) := dc_16 (gB_l lq_cX12_weighs (p := 24) (o := 16) rfl) (gB_l lq_cX12_weighs (p := 25) (o := 91) rfl) rfl
theorem dX12_weighs_26 : decode cX12_weighs 26 = .ok (.iload_n 1, 1) := dc_27 (gB_l lq_cX12_weighs (p := 26) (o := 27) rfl)
theorem dX12_weighs_27 : decode cX12_weighs 27 = .ok (.imul, 1) := dc_104 (gB_l lq_cX12_weighs (p := 27) (o := 104) rfl)
theorem dX12_weighs_28 : decode cX12_weighs 28 = .ok (.iconst 1, 1) := dc_4 (gB_l lq_cX12_weighs (p := 28) (o := 4) rfl)
theorem dX12_weighs_29 : decode cX12_weighs 29 = .ok (.iadd, 1) := dc_96 (gB_l lq_cX12_weighs (p := 29) (o := 96) rfl)
theorem dX12_weighs_30 : decode cX12_weighs 30 = .ok (.bipush 9, 2) := dc_16 (gB_l lq_cX12_weighs (p := 30) (o := 16) rfl) (gB_l lq_cX12_weighs (p := 31) (o := 9) rfl) rfl
theorem dX12_weighs_32 : decode cX12_weighs 32 = .ok (.iload_n 3, 1) := dc_29 (gB_c lq_cX12_weighs q1_cX12_weighs 0 (o := 29) rfl)
theorem dX12_weighs_33 : decode cX12_weighs 33 = .ok (.imul, 1) := dc_104 (gB_c lq_cX12_weighs q1_cX12_weighs 1 (o := 104) rfl)
theorem dX12_weighs_34 : decode cX12_weighs 34 = .ok (.iadd, 1) := dc_96 (gB_c lq_cX12_weighs q1_cX12_weighs 2 (o := 96) rfl)
theorem dX12_weighs_35 : decode cX12_weighs 35 = .ok (.iload_n 2, 1) := dc_28 (gB_c lq_cX12_weighs q1_cX12_weighs 3 (o := 28) rfl)
theorem dX12_weighs_36 : decode cX12_weighs 36 = .ok (.iadd, 1) := dc_96 (gB_c lq_cX12_weighs q1_cX12_weighs 4 (o := 96) rfl)
theorem dX12_weighs_37 : decode cX12_weighs 37 = .ok (.iload 4, 2) := dc_21 (gB_c lq_cX12_weighs q1_cX12_weighs 5 (o := 21) rfl) (gB_c lq_cX12_weighs q1_cX12_weighs 6 (o := 4) rfl)
theorem dX12_weighs_39 : decode cX12_weighs 39 = .ok (.iastore, 1) := dc_79 (gB_c lq_cX12_weighs q1_cX12_weighs 7 (o := 79) rfl)
theorem dX12_weighs_40 : decode cX12_weighs 40 = .ok (.return_, 1) := dc_177 (gB_c lq_cX12_weighs q1_cX12_weighs 8 (o := 177) rfl)
abbrev r0_cX12_weight : List Nat := [42, 180, 0, 7, 16, 91, 27, 104, 4, 96, 16, 9, 28, 104, 96, 29, 96, 46, 172]
theorem lq_cX12_weight : (cX12_weight).data.toList.map UInt8.toNat = r0_cX12_weight := by decide +kernel
theorem dX12_weight_0 : decode cX12_weight 0 = .ok (.aload_n 0, 1) := dc_42 (gB_l lq_cX12_weight (p := 0) (o := 42) rfl)
theorem dX12_weight_1 : decode cX12_weight 1 = .ok (.getfield 7, 3) := dc_180 (gB_l lq_cX12_weight (p := 1) (o := 180) rfl) (gB_l lq_cX12_weight (p := 2) (o := 0) rfl) (gB_l lq_cX12_weight (p := 3) (o := 7) rfl) rfl
theorem dX12_weight_4 : decode cX12_weight 4 = .ok (.bipush 91, 2) := dc_16 (gB_l lq_cX12_weight (p := 4) (o := 16) rfl) (gB_l lq_cX12_weight (p := 5) (o := 91) rfl) rfl
theorem dX12_weight_6 : decode cX12_weight 6 = .ok (.iload_n 1, 1) := dc_27 (gB_l lq_cX12_weight (p := 6) (o := 27) rfl)
theorem dX12_weight_7 : decode cX12_weight 7 = .ok (.imul, 1) := dc_104 (gB_l lq_cX12_weight (p := 7) (o := 104) rfl)
theorem dX12_weight_8 : decode cX12_weight 8 = .ok (.iconst 1, 1) := dc_4 (gB_l lq_cX12_weight (p := 8) (o := 4) rfl)
theorem dX12_weight_9 : decode cX12_weight 9 = .ok (.iadd, 1) := dc_96 (gB_l lq_cX12_weight (p := 9) (o := 96) rfl)
theorem dX12_weight_10 : decode cX12_weight 10 = .ok (.bipush 9, 2) := dc_16 (gB_l lq_cX12_weight (p := 10) (o := 16) rfl) (gB_l lq_cX12_weight (p := 11) (o := 9) rfl) rfl
theorem dX12_weight_12 : decode cX12_weight 12 = .ok (.iload_n 2, 1) := dc_28 (gB_l lq_cX12_weight (p := 12) (o := 28) rfl)
theorem dX12_weight_13 : decode cX12_weight 13 = .ok (.imul, 1) := dc_104 (gB_l lq_cX12_weight (p := 13) (o := 104) rfl)
theorem dX12_weight_14 : decode cX12_weight 14 = .ok (.iadd, 1) := dc_96 (gB_l lq_cX12_weight (p := 14) (o := 96) rfl)
theorem dX12_weight_15 : decode cX12_weight 15 = .ok (.iload_n 3, 1) := dc_29 (gB_l lq_cX12_weight (p := 15) (o := 29) rfl)
theorem dX12_weight_16 : decode cX12_weight 16 = .ok (.iadd, 1) := dc_96 (gB_l lq_cX12_weight (p := 16) (o := 96) rfl)
theorem dX12_weight_17 : decode cX12_weight 17 = .ok (.iaload, 1) := dc_46 (gB_l lq_cX12_weight (p := 17) (o := 46) rfl)
theorem dX12_weight_18 : decode cX12_weight 18 = .ok (.ireturn, 1) := dc_172 (gB_l lq_cX12_weight (p := 18) (o := 172) rfl)
abbrev r1_cX12_weightOf : List Nat := [29, 172]
def a0_cX12_weightOf : List Nat := [3, 62, 3, 54, 4, 21, 4, 42, 27, 182, 0, 63, 162, 0, 20, 29, 42, 27, 28, 21, 4, 182, 0, 76, 96, 62, 132, 4, 1, 167, 255, 232]
abbrev r0_cX12_weightOf : List Nat := a0_cX12_weightOf ++ r1_cX12_weightOf
theorem lq_cX12_weightOf : (cX12_weightOf).data.toList.map UInt8.toNat = r0_cX12_weightOf := by decide +kernel
theorem q1_cX12_weightOf : ∀ i, (r0_cX12_weightOf)[32 + i]? = (r1_cX12_weightOf)[i]? := chn (A := a0_cX12_weightOf) (B := r1_cX12_weightOf) (n := 0) (k := 32) rfl (ch0 (R := r0_cX12_weightOf))
theorem dX12_weightOf_0 : decode cX12_weightOf 0 = .ok (.iconst 0, 1) := dc_3 (gB_l lq_cX12_weightOf (p := 0) (o := 3) rfl)
theorem dX12_weightOf_1 : decode cX12_weightOf 1 = .ok (.istore_n 3, 1) := dc_62 (gB_l lq_cX12_weightOf (p := 1) (o := 62) rfl)
theorem dX12_weightOf_2 : decode cX12_weightOf 2 = .ok (.iconst 0, 1) := dc_3 (gB_l lq_cX12_weightOf (p := 2) (o := 3) rfl)
theorem dX12_weightOf_3 : decode cX12_weightOf 3 = .ok (.istore 4, 2) := dc_54 (gB_l lq_cX12_weightOf (p := 3) (o := 54) rfl) (gB_l lq_cX12_weightOf (p := 4) (o := 4) rfl)
theorem dX12_weightOf_5 : decode cX12_weightOf 5 = .ok (.iload 4, 2) := dc_21 (gB_l lq_cX12_weightOf (p := 5) (o := 21) rfl) (gB_l lq_cX12_weightOf (p := 6) (o := 4) rfl)
theorem dX12_weightOf_7 : decode cX12_weightOf 7 = .ok (.aload_n 0, 1) := dc_42 (gB_l lq_cX12_weightOf (p := 7) (o := 42) rfl)
theorem dX12_weightOf_8 : decode cX12_weightOf 8 = .ok (.iload_n 1, 1) := dc_27 (gB_l lq_cX12_weightOf (p := 8) (o := 27) rfl)
theorem dX12_weightOf_9 : decode cX12_weightOf 9 = .ok (.invokevirtual 63, 3) := dc_182 (gB_l lq_cX12_weightOf (p := 9) (o := 182) rfl) (gB_l lq_cX12_weightOf (p := 10) (o := 0) rfl) (gB_l lq_cX12_weightOf (p := 11) (o := 63) rfl) rfl
theorem dX12_weightOf_12 : decode cX12_weightOf 12 = .ok (.if_icmp .ge 20, 3) := dc_162 (gB_l lq_cX12_weightOf (p := 12) (o := 162) rfl) (gB_l lq_cX12_weightOf (p := 13) (o := 0) rfl) (gB_l lq_cX12_weightOf (p := 14) (o := 20) rfl) rfl
theorem dX12_weightOf_15 : decode cX12_weightOf 15 = .ok (.iload_n 3, 1) := dc_29 (gB_l lq_cX12_weightOf (p := 15) (o := 29) rfl)
theorem dX12_weightOf_16 : decode cX12_weightOf 16 = .ok (.aload_n 0, 1) := dc_42 (gB_l lq_cX12_weightOf (p := 16) (o := 42) rfl)
theorem dX12_weightOf_17 : decode cX12_weightOf 17 = .ok (.iload_n 1, 1) := dc_27 (gB_l lq_cX12_weightOf (p := 17) (o := 27) rfl)
theorem dX12_weightOf_18 : decode cX12_weightOf 18 = .ok (.iload_n 2, 1) := dc_28 (gB_l lq_cX12_weightOf (p := 18) (o := 28) rfl)
theorem dX12_weightOf_19 : decode cX12_weightOf 19 = .ok (.iload 4, 2) := dc_21 (gB_l lq_cX12_weightOf (p := 19) (o := 21) rfl) (gB_l lq_cX12_weightOf (p := 20) (o := 4) rfl)
theorem dX12_weightOf_21 : decode cX12_weightOf 21 = .ok (.invokevirtual 76, 3) := dc_182 (gB_l lq_cX12_weightOf (p := 21) (o := 182) rfl) (gB_l lq_cX12_weightOf (p := 22) (o := 0) rfl) (gB_l lq_cX12_weightOf (p := 23) (o := 76) rfl) rfl
theorem dX12_weightOf_24 : decode cX12_weightOf 24 = .ok (.iadd, 1) := dc_96 (gB_l lq_cX12_weightOf (p := 24) (o := 96) rfl)
theorem dX12_weightOf_25 : decode cX12_weightOf 25 = .ok (.istore_n 3, 1) := dc_62 (gB_l lq_cX12_weightOf (p := 25) (o := 62) rfl)
theorem dX12_weightOf_26 : decode cX12_weightOf 26 = .ok (.iinc 4 1, 3) := dc_132 (gB_l lq_cX12_weightOf (p := 26) (o := 132) rfl) (gB_l lq_cX12_weightOf (p := 27) (o := 4) rfl) (gB_l lq_cX12_weightOf (p := 28) (o := 1) rfl) rfl
theorem dX12_weightOf_29 : decode cX12_weightOf 29 = .ok (.goto (-24), 3) := dc_167 (gB_l lq_cX12_weightOf (p := 29) (o := 167) rfl) (gB_l lq_cX12_weightOf (p := 30) (o := 255) rfl) (gB_l lq_cX12_weightOf (p := 31) (o := 232) rfl) rfl
theorem dX12_weightOf_32 : decode cX12_weightOf 32 = .ok (.iload_n 3, 1) := dc_29 (gB_c lq_cX12_weightOf q1_cX12_weightOf 0 (o := 29) rfl)
theorem dX12_weightOf_33 : decode cX12_weightOf 33 = .ok (.ireturn, 1) := dc_172 (gB_c lq_cX12_weightOf q1_cX12_weightOf 1 (o := 172) rfl)
abbrev r2_cX12_within : List Nat := [184, 0, 118, 182, 1, 48, 172]
def a1_cX12_within : List Nat := [254, 172, 28, 5, 160, 0, 16, 42, 27, 29, 16, 9, 184, 0, 118, 3, 182, 1, 37, 172, 42, 27, 28, 182, 1, 14, 42, 27, 29, 19, 1, 54]
abbrev r1_cX12_within : List Nat := a1_cX12_within ++ r2_cX12_within
def a0_cX12_within : List Nat := [42, 27, 182, 0, 67, 153, 0, 26, 28, 184, 0, 245, 153, 0, 19, 28, 5, 159, 0, 10, 28, 184, 0, 232, 153, 0, 7, 29, 156, 0, 6, 16]
abbrev r0_cX12_within : List Nat := a0_cX12_within ++ r1_cX12_within
theorem lq_cX12_within : (cX12_within).data.toList.map UInt8.toNat = r0_cX12_within := by decide +kernel
theorem q1_cX12_within : ∀ i, (r0_cX12_within)[32 + i]? = (r1_cX12_within)[i]? := chn (A := a0_cX12_within) (B := r1_cX12_within) (n := 0) (k := 32) rfl (ch0 (R := r0_cX12_within))
theorem q2_cX12_within : ∀ i, (r0_cX12_within)[64 + i]? = (r2_cX12_within)[i]? := chn (A := a1_cX12_within) (B := r2_cX12_within) (n := 32) (k := 32) rfl q1_cX12_within
theorem dX12_within_0 : decode cX12_within 0 = .ok (.aload_n 0, 1) := dc_42 (gB_l lq_cX12_within (p := 0) (o := 42) rfl)
theorem dX12_within_1 : decode cX12_within 1 = .ok (.iload_n 1, 1) := dc_27 (gB_l lq_cX12_within (p := 1) (o := 27) rfl)
theorem dX12_within_2 : decode cX12_within 2 = .ok (.invokevirtual 67, 3) := dc_182 (gB_l lq_cX12_within (p := 2) (o := 182) rfl) (gB_l lq_cX12_within (p := 3) (o := 0) rfl) (gB_l lq_cX12_within (p := 4) (o := 67) rfl) rfl
theorem dX12_within_5 : decode cX12_within 5 = .ok (.ifCond .eq 26, 3) := dc_153 (gB_l lq_cX12_within (p := 5) (o := 153) rfl) (gB_l lq_cX12_within (p := 6) (o := 0) rfl) (gB_l lq_cX12_within (p := 7) (o := 26) rfl) rfl
theorem dX12_within_8 : decode cX12_within 8 = .ok (.iload_n 2, 1) := dc_28 (gB_l lq_cX12_within (p := 8) (o := 28) rfl)
theorem dX12_within_9 : decode cX12_within 9 = .ok (.invokestatic 245, 3) := dc_184 (gB_l lq_cX12_within (p := 9) (o := 184) rfl) (gB_l lq_cX12_within (p := 10) (o := 0) rfl) (gB_l lq_cX12_within (p := 11) (o := 245) rfl) rfl
theorem dX12_within_12 : decode cX12_within 12 = .ok (.ifCond .eq 19, 3) := dc_153 (gB_l lq_cX12_within (p := 12) (o := 153) rfl) (gB_l lq_cX12_within (p := 13) (o := 0) rfl) (gB_l lq_cX12_within (p := 14) (o := 19) rfl) rfl
theorem dX12_within_15 : decode cX12_within 15 = .ok (.iload_n 2, 1) := dc_28 (gB_l lq_cX12_within (p := 15) (o := 28) rfl)
theorem dX12_within_16 : decode cX12_within 16 = .ok (.iconst 2, 1) := dc_5 (gB_l lq_cX12_within (p := 16) (o := 5) rfl)
theorem dX12_within_17 : decode cX12_within 17 = .ok (.if_icmp .eq 10, 3) := dc_159 (gB_l lq_cX12_within (p := 17) (o := 159) rfl) (gB_l lq_cX12_within (p := 18) (o := 0) rfl) (gB_l lq_cX12_within (p := 19) (o := 10) rfl) rfl
theorem dX12_within_20 : decode cX12_within 20 = .ok (.iload_n 2, 1) := dc_28 (gB_l lq_cX12_within (p := 20) (o := 28) rfl)
theorem dX12_within_21 : decode cX12_within 21 = .ok (.invokestatic 232, 3) := dc_184 (gB_l lq_cX12_within (p := 21) (o := 184) rfl) (gB_l lq_cX12_within (p := 22) (o := 0) rfl) (gB_l lq_cX12_within (p := 23) (o := 232) rfl) rfl
theorem dX12_within_24 : decode cX12_within 24 = .ok (.ifCond .eq 7, 3) := dc_153 (gB_l lq_cX12_within (p := 24) (o := 153) rfl) (gB_l lq_cX12_within (p := 25) (o := 0) rfl) (gB_l lq_cX12_within (p := 26) (o := 7) rfl) rfl
theorem dX12_within_27 : decode cX12_within 27 = .ok (.iload_n 3, 1) := dc_29 (gB_l lq_cX12_within (p := 27) (o := 29) rfl)
theorem dX12_within_28 : decode cX12_within 28 = .ok (.ifCond .ge 6, 3) := dc_156 (gB_l lq_cX12_within (p := 28) (o := 156) rfl) (gB_l lq_cX12_within (p := 29) (o := 0) rfl) (gB_l lq_cX12_within (p := 30) (o := 6) rfl) rfl
theorem dX12_within_31 : decode cX12_within 31 = .ok (.bipush (-2), 2) := dc_16 (gB_l lq_cX12_within (p := 31) (o := 16) rfl) (gB_c lq_cX12_within q1_cX12_within 0 (o := 254) rfl) rfl
theorem dX12_within_33 : decode cX12_within 33 = .ok (.ireturn, 1) := dc_172 (gB_c lq_cX12_within q1_cX12_within 1 (o := 172) rfl)
theorem dX12_within_34 : decode cX12_within 34 = .ok (.iload_n 2, 1) := dc_28 (gB_c lq_cX12_within q1_cX12_within 2 (o := 28) rfl)
theorem dX12_within_35 : decode cX12_within 35 = .ok (.iconst 2, 1) := dc_5 (gB_c lq_cX12_within q1_cX12_within 3 (o := 5) rfl)
theorem dX12_within_36 : decode cX12_within 36 = .ok (.if_icmp .ne 16, 3) := dc_160 (gB_c lq_cX12_within q1_cX12_within 4 (o := 160) rfl) (gB_c lq_cX12_within q1_cX12_within 5 (o := 0) rfl) (gB_c lq_cX12_within q1_cX12_within 6 (o := 16) rfl) rfl
theorem dX12_within_39 : decode cX12_within 39 = .ok (.aload_n 0, 1) := dc_42 (gB_c lq_cX12_within q1_cX12_within 7 (o := 42) rfl)
theorem dX12_within_40 : decode cX12_within 40 = .ok (.iload_n 1, 1) := dc_27 (gB_c lq_cX12_within q1_cX12_within 8 (o := 27) rfl)
theorem dX12_within_41 : decode cX12_within 41 = .ok (.iload_n 3, 1) := dc_29 (gB_c lq_cX12_within q1_cX12_within 9 (o := 29) rfl)
theorem dX12_within_42 : decode cX12_within 42 = .ok (.bipush 9, 2) := dc_16 (gB_c lq_cX12_within q1_cX12_within 10 (o := 16) rfl) (gB_c lq_cX12_within q1_cX12_within 11 (o := 9) rfl) rfl
theorem dX12_within_44 : decode cX12_within 44 = .ok (.invokestatic 118, 3) := dc_184 (gB_c lq_cX12_within q1_cX12_within 12 (o := 184) rfl) (gB_c lq_cX12_within q1_cX12_within 13 (o := 0) rfl) (gB_c lq_cX12_within q1_cX12_within 14 (o := 118) rfl) rfl
theorem dX12_within_47 : decode cX12_within 47 = .ok (.iconst 0, 1) := dc_3 (gB_c lq_cX12_within q1_cX12_within 15 (o := 3) rfl)
theorem dX12_within_48 : decode cX12_within 48 = .ok (.invokevirtual 293, 3) := dc_182 (gB_c lq_cX12_within q1_cX12_within 16 (o := 182) rfl) (gB_c lq_cX12_within q1_cX12_within 17 (o := 1) rfl) (gB_c lq_cX12_within q1_cX12_within 18 (o := 37) rfl) rfl
theorem dX12_within_51 : decode cX12_within 51 = .ok (.ireturn, 1) := dc_172 (gB_c lq_cX12_within q1_cX12_within 19 (o := 172) rfl)
theorem dX12_within_52 : decode cX12_within 52 = .ok (.aload_n 0, 1) := dc_42 (gB_c lq_cX12_within q1_cX12_within 20 (o := 42) rfl)
theorem dX12_within_53 : decode cX12_within 53 = .ok (.iload_n 1, 1) := dc_27 (gB_c lq_cX12_within q1_cX12_within 21 (o := 27) rfl)
theorem dX12_within_54 : decode cX12_within 54 = .ok (.iload_n 2, 1) := dc_28 (gB_c lq_cX12_within q1_cX12_within 22 (o := 28) rfl)
theorem dX12_within_55 : decode cX12_within 55 = .ok (.invokevirtual 270, 3) := dc_182 (gB_c lq_cX12_within q1_cX12_within 23 (o := 182) rfl) (gB_c lq_cX12_within q1_cX12_within 24 (o := 1) rfl) (gB_c lq_cX12_within q1_cX12_within 25 (o := 14) rfl) rfl
theorem dX12_within_58 : decode cX12_within 58 = .ok (.aload_n 0, 1) := dc_42 (gB_c lq_cX12_within q1_cX12_within 26 (o := 42) rfl)
theorem dX12_within_59 : decode cX12_within 59 = .ok (.iload_n 1, 1) := dc_27 (gB_c lq_cX12_within q1_cX12_within 27 (o := 27) rfl)
theorem dX12_within_60 : decode cX12_within 60 = .ok (.iload_n 3, 1) := dc_29 (gB_c lq_cX12_within q1_cX12_within 28 (o := 29) rfl)
theorem dX12_within_61 : decode cX12_within 61 = .ok (.ldc_w 310, 3) := dc_19 (gB_c lq_cX12_within q1_cX12_within 29 (o := 19) rfl) (gB_c lq_cX12_within q1_cX12_within 30 (o := 1) rfl) (gB_c lq_cX12_within q1_cX12_within 31 (o := 54) rfl) rfl
theorem dX12_within_64 : decode cX12_within 64 = .ok (.invokestatic 118, 3) := dc_184 (gB_c lq_cX12_within q2_cX12_within 0 (o := 184) rfl) (gB_c lq_cX12_within q2_cX12_within 1 (o := 0) rfl) (gB_c lq_cX12_within q2_cX12_within 2 (o := 118) rfl) rfl
theorem dX12_within_67 : decode cX12_within 67 = .ok (.invokevirtual 304, 3) := dc_182 (gB_c lq_cX12_within q2_cX12_within 3 (o := 182) rfl) (gB_c lq_cX12_within q2_cX12_within 4 (o := 1) rfl) (gB_c lq_cX12_within q2_cX12_within 5 (o := 48) rfl) rfl
theorem dX12_within_70 : decode cX12_within 70 = .ok (.ireturn, 1) := dc_172 (gB_c lq_cX12_within q2_cX12_within 6 (o := 172) rfl)
abbrev r3_cX12_worst : List Nat := [255, 218, 29, 172]
def a2_cX12_worst : List Nat := [162, 0, 34, 42, 27, 28, 21, 4, 182, 1, 4, 42, 27, 28, 29, 182, 1, 4, 164, 0, 8, 21, 4, 167, 0, 4, 29, 62, 132, 4, 1, 167]
abbrev r2_cX12_worst : List Nat := a2_cX12_worst ++ r3_cX12_worst
def a1_cX12_worst : List Nat := [254, 154, 0, 6, 16, 254, 172, 28, 184, 0, 254, 153, 0, 7, 3, 167, 0, 4, 4, 62, 29, 4, 96, 54, 4, 21, 4, 42, 27, 182, 0, 63]
abbrev r1_cX12_worst : List Nat := a1_cX12_worst ++ r2_cX12_worst
def a0_cX12_worst : List Nat := [42, 27, 182, 0, 67, 153, 0, 31, 28, 184, 0, 245, 153, 0, 24, 28, 5, 159, 0, 19, 42, 27, 182, 0, 63, 4, 160, 0, 13, 28, 184, 0]
abbrev r0_cX12_worst : List Nat := a0_cX12_worst ++ r1_cX12_worst
theorem lq_cX12_worst : (cX12_worst).data.toList.map UInt8.toNat = r0_cX12_worst := by decide +kernel
theorem q1_cX12_worst : ∀ i, (r0_cX12_worst)[32 + i]? = (r1_cX12_worst)[i]? := chn (A := a0_cX12_worst) (B := r1_cX12_worst) (n := 0) (k := 32) rfl (ch0 (R := r0_cX12_worst))
theorem q2_cX12_worst : ∀ i, (r0_cX12_worst)[64 + i]? = (r2_cX12_worst)[i]? := chn (A := a1_cX12_worst) (B := r2_cX12_worst) (n := 32) (k := 32) rfl q1_cX12_worst
theorem q3_cX12_worst : ∀ i, (r0_cX12_worst)[96 + i]? = (r3_cX12_worst)[i]? := chn (A := a2_cX12_worst) (B := r3_cX12_worst) (n := 64) (k := 32) rfl q2_cX12_worst
theorem dX12_worst_0 : decode cX12_worst 0 = .ok (.aload_n 0, 1) := dc_42 (gB_l lq_cX12_worst (p := 0) (o := 42) rfl)
theorem dX12_worst_1 : decode cX12_worst 1 = .ok (.iload_n 1, 1) := dc_27 (gB_l lq_cX12_worst (p := 1) (o := 27) rfl)
theorem dX12_worst_2 : decode cX12_worst 2 = .ok (.invokevirtual 67, 3) := dc_182 (gB_l lq_cX12_worst (p := 2) (o := 182) rfl) (gB_l lq_cX12_worst (p := 3) (o := 0) rfl) (gB_l lq_cX12_worst (p := 4) (o := 67) rfl) rfl
theorem dX12_worst_5 : decode cX12_worst 5 = .ok (.ifCond .eq 31, 3) := dc_153 (gB_l lq_cX12_worst (p := 5) (o := 153) rfl) (gB_l lq_cX12_worst (p := 6) (o := 0) rfl) (gB_l lq_cX12_worst (p := 7) (o := 31) rfl) rfl
theorem dX12_worst_8 : decode cX12_worst 8 = .ok (.iload_n 2, 1) := dc_28 (gB_l lq_cX12_worst (p := 8) (o := 28) rfl)
theorem dX12_worst_9 : decode cX12_worst 9 = .ok (.invokestatic 245, 3) := dc_184 (gB_l lq_cX12_worst (p := 9) (o := 184) rfl) (gB_l lq_cX12_worst (p := 10) (o := 0) rfl) (gB_l lq_cX12_worst (p := 11) (o := 245) rfl) rfl
theorem dX12_worst_12 : decode cX12_worst 12 = .ok (.ifCond .eq 24, 3) := dc_153 (gB_l lq_cX12_worst (p := 12) (o := 153) rfl) (gB_l lq_cX12_worst (p := 13) (o := 0) rfl) (gB_l lq_cX12_worst (p := 14) (o := 24) rfl) rfl
theorem dX12_worst_15 : decode cX12_worst 15 = .ok (.iload_n 2, 1) := dc_28 (gB_l lq_cX12_worst (p := 15) (o := 28) rfl)
theorem dX12_worst_16 : decode cX12_worst 16 = .ok (.iconst 2, 1) := dc_5 (gB_l lq_cX12_worst (p := 16) (o := 5) rfl)
theorem dX12_worst_17 : decode cX12_worst 17 = .ok (.if_icmp .eq 19, 3) := dc_159 (gB_l lq_cX12_worst (p := 17) (o := 159) rfl) (gB_l lq_cX12_worst (p := 18) (o := 0) rfl) (gB_l lq_cX12_worst (p := 19) (o := 19) rfl) rfl
theorem dX12_worst_20 : decode cX12_worst 20 = .ok (.aload_n 0, 1) := dc_42 (gB_l lq_cX12_worst (p := 20) (o := 42) rfl)
theorem dX12_worst_21 : decode cX12_worst 21 = .ok (.iload_n 1, 1) := dc_27 (gB_l lq_cX12_worst (p := 21) (o := 27) rfl)
theorem dX12_worst_22 : decode cX12_worst 22 = .ok (.invokevirtual 63, 3) := dc_182 (gB_l lq_cX12_worst (p := 22) (o := 182) rfl) (gB_l lq_cX12_worst (p := 23) (o := 0) rfl) (gB_l lq_cX12_worst (p := 24) (o := 63) rfl) rfl
theorem dX12_worst_25 : decode cX12_worst 25 = .ok (.iconst 1, 1) := dc_4 (gB_l lq_cX12_worst (p := 25) (o := 4) rfl)
theorem dX12_worst_26 : decode cX12_worst 26 = .ok (.if_icmp .ne 13, 3) := dc_160 (gB_l lq_cX12_worst (p := 26) (o := 160) rfl) (gB_l lq_cX12_worst (p := 27) (o := 0) rfl) (gB_l lq_cX12_worst (p := 28) (o := 13) rfl) rfl
theorem dX12_worst_29 : decode cX12_worst 29 = .ok (.iload_n 2, 1) := dc_28 (gB_l lq_cX12_worst (p := 29) (o := 28) rfl)
theorem dX12_worst_30 : decode cX12_worst 30 = .ok (.invokestatic 254, 3) := dc_184 (gB_l lq_cX12_worst (p := 30) (o := 184) rfl) (gB_l lq_cX12_worst (p := 31) (o := 0) rfl) (gB_c lq_cX12_worst q1_cX12_worst 0 (o := 254) rfl) rfl
theorem dX12_worst_33 : decode cX12_worst 33 = .ok (.ifCond .ne 6, 3) := dc_154 (gB_c lq_cX12_worst q1_cX12_worst 1 (o := 154) rfl) (gB_c lq_cX12_worst q1_cX12_worst 2 (o := 0) rfl) (gB_c lq_cX12_worst q1_cX12_worst 3 (o := 6) rfl) rfl
theorem dX12_worst_36 : decode cX12_worst 36 = .ok (.bipush (-2), 2) := dc_16 (gB_c lq_cX12_worst q1_cX12_worst 4 (o := 16) rfl) (gB_c lq_cX12_worst q1_cX12_worst 5 (o := 254) rfl) rfl
theorem dX12_worst_38 : decode cX12_worst 38 = .ok (.ireturn, 1) := dc_172 (gB_c lq_cX12_worst q1_cX12_worst 6 (o := 172) rfl)
theorem dX12_worst_39 : decode cX12_worst 39 = .ok (.iload_n 2, 1) := dc_28 (gB_c lq_cX12_worst q1_cX12_worst 7 (o := 28) rfl)
theorem dX12_worst_40 : decode cX12_worst 40 = .ok (.invokestatic 254, 3) := dc_184 (gB_c lq_cX12_worst q1_cX12_worst 8 (o := 184) rfl) (gB_c lq_cX12_worst q1_cX12_worst 9 (o := 0) rfl) (gB_c lq_cX12_worst q1_cX12_worst 10 (o := 254) rfl) rfl
theorem dX12_worst_43 : decode cX12_worst 43 = .ok (.ifCond .eq 7, 3) := dc_153 (gB_c lq_cX12_worst q1_cX12_worst 11 (o := 153) rfl) (gB_c lq_cX12_worst q1_cX12_worst 12 (o := 0) rfl) (gB_c lq_cX12_worst q1_cX12_worst 13 (o := 7) rfl) rfl
theorem dX12_worst_46 : decode cX12_worst 46 = .ok (.iconst 0, 1) := dc_3 (gB_c lq_cX12_worst q1_cX12_worst 14 (o := 3) rfl)
theorem dX12_worst_47 : decode cX12_worst 47 = .ok (.goto 4, 3) := dc_167 (gB_c lq_cX12_worst q1_cX12_worst 15 (o := 167) rfl) (gB_c lq_cX12_worst q1_cX12_worst 16 (o := 0) rfl) (gB_c lq_cX12_worst q1_cX12_worst 17 (o := 4) rfl) rfl
theorem dX12_worst_50 : decode cX12_worst 50 = .ok (.iconst 1, 1) := dc_4 (gB_c lq_cX12_worst q1_cX12_worst 18 (o := 4) rfl)
theorem dX12_worst_51 : decode cX12_worst 51 = .ok (.istore_n 3, 1) := dc_62 (gB_c lq_cX12_worst q1_cX12_worst 19 (o := 62) rfl)
theorem dX12_worst_52 : decode cX12_worst 52 = .ok (.iload_n 3, 1) := dc_29 (gB_c lq_cX12_worst q1_cX12_worst 20 (o := 29) rfl)
theorem dX12_worst_53 : decode cX12_worst 53 = .ok (.iconst 1, 1) := dc_4 (gB_c lq_cX12_worst q1_cX12_worst 21 (o := 4) rfl)
theorem dX12_worst_54 : decode cX12_worst 54 = .ok (.iadd, 1) := dc_96 (gB_c lq_cX12_worst q1_cX12_worst 22 (o := 96) rfl)
theorem dX12_worst_55 : decode cX12_worst 55 = .ok (.istore 4, 2) := dc_54 (gB_c lq_cX12_worst q1_cX12_worst 23 (o := 54) rfl) (gB_c lq_cX12_worst q1_cX12_worst 24 (o := 4) rfl)
theorem dX12_worst_57 : decode cX12_worst 57 = .ok (.iload 4, 2) := dc_21 (gB_c lq_cX12_worst q1_cX12_worst 25 (o := 21) rfl) (gB_c lq_cX12_worst q1_cX12_worst 26 (o := 4) rfl)
theorem dX12_worst_59 : decode cX12_worst 59 = .ok (.aload_n 0, 1) := dc_42 (gB_c lq_cX12_worst q1_cX12_worst 27 (o := 42) rfl)
theorem dX12_worst_60 : decode cX12_worst 60 = .ok (.iload_n 1, 1) := dc_27 (gB_c lq_cX12_worst q1_cX12_worst 28 (o := 27) rfl)
theorem dX12_worst_61 : decode cX12_worst 61 = .ok (.invokevirtual 63, 3) := dc_182 (gB_c lq_cX12_worst q1_cX12_worst 29 (o := 182) rfl) (gB_c lq_cX12_worst q1_cX12_worst 30 (o := 0) rfl) (gB_c lq_cX12_worst q1_cX12_worst 31 (o := 63) rfl) rfl
theorem dX12_worst_64 : decode cX12_worst 64 = .ok (.if_icmp .ge 34, 3) := dc_162 (gB_c lq_cX12_worst q2_cX12_worst 0 (o := 162) rfl) (gB_c lq_cX12_worst q2_cX12_worst 1 (o := 0) rfl) (gB_c lq_cX12_worst q2_cX12_worst 2 (o := 34) rfl) rfl
theorem dX12_worst_67 : decode cX12_worst 67 = .ok (.aload_n 0, 1) := dc_42 (gB_c lq_cX12_worst q2_cX12_worst 3 (o := 42) rfl)
theorem dX12_worst_68 : decode cX12_worst 68 = .ok (.iload_n 1, 1) := dc_27 (gB_c lq_cX12_worst q2_cX12_worst 4 (o := 27) rfl)
theorem dX12_worst_69 : decode cX12_worst 69 = .ok (.iload_n 2, 1) := dc_28 (gB_c lq_cX12_worst q2_cX12_worst 5 (o := 28) rfl)
theorem dX12_worst_70 : decode cX12_worst 70 = .ok (.iload 4, 2) := dc_21 (gB_c lq_cX12_worst q2_cX12_worst 6 (o := 21) rfl) (gB_c lq_cX12_worst q2_cX12_worst 7 (o := 4) rfl)
theorem dX12_worst_72 : decode cX12_worst 72 = .ok (.invokevirtual 260, 3) := dc_182 (gB_c lq_cX12_worst q2_cX12_worst 8 (o := 182) rfl) (gB_c lq_cX12_worst q2_cX12_worst 9 (o := 1) rfl) (gB_c lq_cX12_worst q2_cX12_worst 10 (o := 4) rfl) rfl
theorem dX12_worst_75 : decode cX12_worst 75 = .ok (.aload_n 0, 1) := dc_42 (gB_c lq_cX12_worst q2_cX12_worst 11 (o := 42) rfl)
theorem dX12_worst_76 : decode cX12_worst 76 = .ok (.iload_n 1, 1) := dc_27 (gB_c lq_cX12_worst q2_cX12_worst 12 (o := 27) rfl)
theorem dX12_worst_77 : decode cX12_worst 77 = .ok (.iload_n 2, 1) := dc_28 (gB_c lq_cX12_worst q2_cX12_worst 13 (o := 28) rfl)
theorem dX12_worst_78 : decode cX12_worst 78 = .ok (.iload_n 3, 1) := dc_29 (gB_c lq_cX12_worst q2_cX12_worst 14 (o := 29) rfl)
theorem dX12_worst_79 : decode cX12_worst 79 = .ok (.invokevirtual 260, 3) := dc_182 (gB_c lq_cX12_worst q2_cX12_worst 15 (o := 182) rfl) (gB_c lq_cX12_worst q2_cX12_worst 16 (o := 1) rfl) (gB_c lq_cX12_worst q2_cX12_worst 17 (o := 4) rfl) rfl
theorem dX12_worst_82 : decode cX12_worst 82 = .ok (.if_icmp .le 8, 3) := dc_164 (gB_c lq_cX12_worst q2_cX12_worst 18 (o := 164) rfl) (gB_c lq_cX12_worst q2_cX12_worst 19 (o := 0) rfl) (gB_c lq_cX12_worst q2_cX12_worst 20 (o := 8) rfl) rfl
theorem dX12_worst_85 : decode cX12_worst 85 = .ok (.iload 4, 2) := dc_21 (gB_c lq_cX12_worst q2_cX12_worst 21 (o := 21) rfl) (gB_c lq_cX12_worst q2_cX12_worst 22 (o := 4) rfl)
theorem dX12_worst_87 : decode cX12_worst 87 = .ok (.goto 4, 3) := dc_167 (gB_c lq_cX12_worst q2_cX12_worst 23 (o := 167) rfl) (gB_c lq_cX12_worst q2_cX12_worst 24 (o := 0) rfl) (gB_c lq_cX12_worst q2_cX12_worst 25 (o := 4) rfl) rfl
theorem dX12_worst_90 : decode cX12_worst 90 = .ok (.iload_n 3, 1) := dc_29 (gB_c lq_cX12_worst q2_cX12_worst 26 (o := 29) rfl)
theorem dX12_worst_91 : decode cX12_worst 91 = .ok (.istore_n 3, 1) := dc_62 (gB_c lq_cX12_worst q2_cX12_worst 27 (o := 62) rfl)
theorem dX12_worst_92 : decode cX12_worst 92 = .ok (.iinc 4 1, 3) := dc_132 (gB_c lq_cX12_worst q2_cX12_worst 28 (o := 132) rfl) (gB_c lq_cX12_worst q2_cX12_worst 29 (o := 4) rfl) (gB_c lq_cX12_worst q2_cX12_worst 30 (o := 1) rfl) rfl
theorem dX12_worst_95 : decode cX12_worst 95 = .ok (.goto (-38), 3) := dc_167 (gB_c lq_cX12_worst q2_cX12_worst 31 (o := 167) rfl) (gB_c lq_cX12_worst q3_cX12_worst 0 (o := 255) rfl) (gB_c lq_cX12_worst q3_cX12_worst 1 (o := 218) rfl) rfl
theorem dX12_worst_98 : decode cX12_worst 98 = .ok (.iload_n 3, 1) := dc_29 (gB_c lq_cX12_worst q3_cX12_worst 2 (o := 29) rfl)
theorem dX12_worst_99 : decode cX12_worst 99 = .ok (.ireturn, 1) := dc_172 (gB_c lq_cX12_worst q3_cX12_worst 3 (o := 172) rfl)
abbrev r0_cX1_at : List Nat := [27, 155, 0, 24, 27, 42, 180, 0, 21, 162, 0, 16, 42, 180, 0, 15, 27, 51, 17, 0, 255, 126, 167, 0, 4, 2, 172]
theorem lq_cX1_at : (cX1_at).data.toList.map UInt8.toNat = r0_cX1_at := by decide +kernel
theorem dX1_at_0 : decode cX1_at 0 = .ok (.iload_n 1, 1) := dc_27 (gB_l lq_cX1_at (p := 0) (o := 27) rfl)
theorem dX1_at_1 : decode cX1_at 1 = .ok (.ifCond .lt 24, 3) := dc_155 (gB_l lq_cX1_at (p := 1) (o := 155) rfl) (gB_l lq_cX1_at (p := 2) (o := 0) rfl) (gB_l lq_cX1_at (p := 3) (o := 24) rfl) rfl
theorem dX1_at_4 : decode cX1_at 4 = .ok (.iload_n 1, 1) := dc_27 (gB_l lq_cX1_at (p := 4) (o := 27) rfl)
theorem dX1_at_5 : decode cX1_at 5 = .ok (.aload_n 0, 1) := dc_42 (gB_l lq_cX1_at (p := 5) (o := 42) rfl)
theorem dX1_at_6 : decode cX1_at 6 = .ok (.getfield 21, 3) := dc_180 (gB_l lq_cX1_at (p := 6) (o := 180) rfl) (gB_l lq_cX1_at (p := 7) (o := 0) rfl) (gB_l lq_cX1_at (p := 8) (o := 21) rfl) rfl
theorem dX1_at_9 : decode cX1_at 9 = .ok (.if_icmp .ge 16, 3) := dc_162 (gB_l lq_cX1_at (p := 9) (o := 162) rfl) (gB_l lq_cX1_at (p := 10) (o := 0) rfl) (gB_l lq_cX1_at (p := 11) (o := 16) rfl) rfl
theorem dX1_at_12 : decode cX1_at 12 = .ok (.aload_n 0, 1) := dc_42 (gB_l lq_cX1_at (p := 12) (o := 42) rfl)
theorem dX1_at_13 : decode cX1_at 13 = .ok (.getfield 15, 3) := dc_180 (gB_l lq_cX1_at (p := 13) (o := 180) rfl) (gB_l lq_cX1_at (p := 14) (o := 0) rfl) (gB_l lq_cX1_at (p := 15) (o := 15) rfl) rfl
theorem dX1_at_16 : decode cX1_at 16 = .ok (.iload_n 1, 1) := dc_27 (gB_l lq_cX1_at (p := 16) (o := 27) rfl)
theorem dX1_at_17 : decode cX1_at 17 = .ok (.baload, 1) := dc_51 (gB_l lq_cX1_at (p := 17) (o := 51) rfl)
theorem dX1_at_18 : decode cX1_at 18 = .ok (.sipush 255, 3) := dc_17 (gB_l lq_cX1_at (p := 18) (o := 17) rfl) (gB_l lq_cX1_at (p := 19) (o := 0) rfl) (gB_l lq_cX1_at (p := 20) (o := 255) rfl) rfl
theorem dX1_at_21 : decode cX1_at 21 = .ok (.iand, 1) := dc_126 (gB_l lq_cX1_at (p := 21) (o := 126) rfl)
theorem dX1_at_22 : decode cX1_at 22 = .ok (.goto 4, 3) := dc_167 (gB_l lq_cX1_at (p := 22) (o := 167) rfl) (gB_l lq_cX1_at (p := 23) (o := 0) rfl) (gB_l lq_cX1_at (p := 24) (o := 4) rfl) rfl
theorem dX1_at_25 : decode cX1_at 25 = .ok (.iconst (-1), 1) := dc_2 (gB_l lq_cX1_at (p := 25) (o := 2) rfl)
theorem dX1_at_26 : decode cX1_at 26 = .ok (.ireturn, 1) := dc_172 (gB_l lq_cX1_at (p := 26) (o := 172) rfl)
abbrev r0_cX1_hasRoom : List Nat := [42, 180, 0, 21, 27, 96, 42, 180, 0, 15, 190, 163, 0, 7, 4, 167, 0, 4, 3, 172]
theorem lq_cX1_hasRoom : (cX1_hasRoom).data.toList.map UInt8.toNat = r0_cX1_hasRoom := by decide +kernel
theorem dX1_hasRoom_0 : decode cX1_hasRoom 0 = .ok (.aload_n 0, 1) := dc_42 (gB_l lq_cX1_hasRoom (p := 0) (o := 42) rfl)
theorem dX1_hasRoom_1 : decode cX1_hasRoom 1 = .ok (.getfield 21, 3) := dc_180 (gB_l lq_cX1_hasRoom (p := 1) (o := 180) rfl) (gB_l lq_cX1_hasRoom (p := 2) (o := 0) rfl) (gB_l lq_cX1_hasRoom (p := 3) (o := 21) rfl) rfl
theorem dX1_hasRoom_4 : decode cX1_hasRoom 4 = .ok (.iload_n 1, 1) := dc_27 (gB_l lq_cX1_hasRoom (p := 4) (o := 27) rfl)
theorem dX1_hasRoom_5 : decode cX1_hasRoom 5 = .ok (.iadd, 1) := dc_96 (gB_l lq_cX1_hasRoom (p := 5) (o := 96) rfl)
theorem dX1_hasRoom_6 : decode cX1_hasRoom 6 = .ok (.aload_n 0, 1) := dc_42 (gB_l lq_cX1_hasRoom (p := 6) (o := 42) rfl)
theorem dX1_hasRoom_7 : decode cX1_hasRoom 7 = .ok (.getfield 15, 3) := dc_180 (gB_l lq_cX1_hasRoom (p := 7) (o := 180) rfl) (gB_l lq_cX1_hasRoom (p := 8) (o := 0) rfl) (gB_l lq_cX1_hasRoom (p := 9) (o := 15) rfl) rfl
theorem dX1_hasRoom_10 : decode cX1_hasRoom 10 = .ok (.arraylength, 1) := dc_190 (gB_l lq_cX1_hasRoom (p := 10) (o := 190) rfl)
theorem dX1_hasRoom_11 : decode cX1_hasRoom 11 = .ok (.if_icmp .gt 7, 3) := dc_163 (gB_l lq_cX1_hasRoom (p := 11) (o := 163) rfl) (gB_l lq_cX1_hasRoom (p := 12) (o := 0) rfl) (gB_l lq_cX1_hasRoom (p := 13) (o := 7) rfl) rfl
theorem dX1_hasRoom_14 : decode cX1_hasRoom 14 = .ok (.iconst 1, 1) := dc_4 (gB_l lq_cX1_hasRoom (p := 14) (o := 4) rfl)
theorem dX1_hasRoom_15 : decode cX1_hasRoom 15 = .ok (.goto 4, 3) := dc_167 (gB_l lq_cX1_hasRoom (p := 15) (o := 167) rfl) (gB_l lq_cX1_hasRoom (p := 16) (o := 0) rfl) (gB_l lq_cX1_hasRoom (p := 17) (o := 4) rfl) rfl
theorem dX1_hasRoom_18 : decode cX1_hasRoom 18 = .ok (.iconst 0, 1) := dc_3 (gB_l lq_cX1_hasRoom (p := 18) (o := 3) rfl)
theorem dX1_hasRoom_19 : decode cX1_hasRoom 19 = .ok (.ireturn, 1) := dc_172 (gB_l lq_cX1_hasRoom (p := 19) (o := 172) rfl)
abbrev r0_cX1_init : List Nat := [42, 183, 0, 3, 42, 3, 27, 184, 0, 9, 188, 8, 181, 0, 15, 177]
theorem lq_cX1_init : (cX1_init).data.toList.map UInt8.toNat = r0_cX1_init := by decide +kernel
theorem dX1_init_0 : decode cX1_init 0 = .ok (.aload_n 0, 1) := dc_42 (gB_l lq_cX1_init (p := 0) (o := 42) rfl)
theorem dX1_init_1 : decode cX1_init 1 = .ok (.invokespecial 3, 3) := dc_183 (gB_l lq_cX1_init (p := 1) (o := 183) rfl) (gB_l lq_cX1_init (p := 2) (o := 0) rfl) (gB_l lq_cX1_init (p := 3) (o := 3) rfl) rfl
theorem dX1_init_4 : decode cX1_init 4 = .ok (.aload_n 0, 1) := dc_42 (gB_l lq_cX1_init (p := 4) (o := 42) rfl)
theorem dX1_init_5 : decode cX1_init 5 = .ok (.iconst 0, 1) := dc_3 (gB_l lq_cX1_init (p := 5) (o := 3) rfl)
theorem dX1_init_6 : decode cX1_init 6 = .ok (.iload_n 1, 1) := dc_27 (gB_l lq_cX1_init (p := 6) (o := 27) rfl)
theorem dX1_init_7 : decode cX1_init 7 = .ok (.invokestatic 9, 3) := dc_184 (gB_l lq_cX1_init (p := 7) (o := 184) rfl) (gB_l lq_cX1_init (p := 8) (o := 0) rfl) (gB_l lq_cX1_init (p := 9) (o := 9) rfl) rfl
theorem dX1_init_10 : decode cX1_init 10 = .ok (.newarray .byte, 2) := dn_8 (gB_l lq_cX1_init (p := 10) (o := 188) rfl) (gB_l lq_cX1_init (p := 11) (o := 8) rfl)
theorem dX1_init_12 : decode cX1_init 12 = .ok (.putfield 15, 3) := dc_181 (gB_l lq_cX1_init (p := 12) (o := 181) rfl) (gB_l lq_cX1_init (p := 13) (o := 0) rfl) (gB_l lq_cX1_init (p := 14) (o := 15) rfl) rfl
theorem dX1_init_15 : decode cX1_init 15 = .ok (.return_, 1) := dc_177 (gB_l lq_cX1_init (p := 15) (o := 177) rfl)
abbrev r0_cX1_put : List Nat := [42, 4, 182, 0, 25, 153, 0, 24, 42, 180, 0, 15, 42, 180, 0, 21, 27, 145, 84, 42, 89, 180, 0, 21, 4, 96, 181, 0, 21, 177]
theorem lq_cX1_put : (cX1_put).data.toList.map UInt8.toNat = r0_cX1_put := by decide +kernel
theorem dX1_put_0 : decode cX1_put 0 = .ok (.aload_n 0, 1) := dc_42 (gB_l lq_cX1_put (p := 0) (o := 42) rfl)
theorem dX1_put_1 : decode cX1_put 1 = .ok (.iconst 1, 1) := dc_4 (gB_l lq_cX1_put (p := 1) (o := 4) rfl)
theorem dX1_put_2 : decode cX1_put 2 = .ok (.invokevirtual 25, 3) := dc_182 (gB_l lq_cX1_put (p := 2) (o := 182) rfl) (gB_l lq_cX1_put (p := 3) (o := 0) rfl) (gB_l lq_cX1_put (p := 4) (o := 25) rfl) rfl
theorem dX1_put_5 : decode cX1_put 5 = .ok (.ifCond .eq 24, 3) := dc_153 (gB_l lq_cX1_put (p := 5) (o := 153) rfl) (gB_l lq_cX1_put (p := 6) (o := 0) rfl) (gB_l lq_cX1_put (p := 7) (o := 24) rfl) rfl
theorem dX1_put_8 : decode cX1_put 8 = .ok (.aload_n 0, 1) := dc_42 (gB_l lq_cX1_put (p := 8) (o := 42) rfl)
theorem dX1_put_9 : decode cX1_put 9 = .ok (.getfield 15, 3) := dc_180 (gB_l lq_cX1_put (p := 9) (o := 180) rfl) (gB_l lq_cX1_put (p := 10) (o := 0) rfl) (gB_l lq_cX1_put (p := 11) (o := 15) rfl) rfl
theorem dX1_put_12 : decode cX1_put 12 = .ok (.aload_n 0, 1) := dc_42 (gB_l lq_cX1_put (p := 12) (o := 42) rfl)
theorem dX1_put_13 : decode cX1_put 13 = .ok (.getfield 21, 3) := dc_180 (gB_l lq_cX1_put (p := 13) (o := 180) rfl) (gB_l lq_cX1_put (p := 14) (o := 0) rfl) (gB_l lq_cX1_put (p := 15) (o := 21) rfl) rfl
theorem dX1_put_16 : decode cX1_put 16 = .ok (.iload_n 1, 1) := dc_27 (gB_l lq_cX1_put (p := 16) (o := 27) rfl)
theorem dX1_put_17 : decode cX1_put 17 = .ok (.i2b, 1) := dc_145 (gB_l lq_cX1_put (p := 17) (o := 145) rfl)
theorem dX1_put_18 : decode cX1_put 18 = .ok (.bastore, 1) := dc_84 (gB_l lq_cX1_put (p := 18) (o := 84) rfl)
theorem dX1_put_19 : decode cX1_put 19 = .ok (.aload_n 0, 1) := dc_42 (gB_l lq_cX1_put (p := 19) (o := 42) rfl)
theorem dX1_put_20 : decode cX1_put 20 = .ok (.dup, 1) := dc_89 (gB_l lq_cX1_put (p := 20) (o := 89) rfl)
theorem dX1_put_21 : decode cX1_put 21 = .ok (.getfield 21, 3) := dc_180 (gB_l lq_cX1_put (p := 21) (o := 180) rfl) (gB_l lq_cX1_put (p := 22) (o := 0) rfl) (gB_l lq_cX1_put (p := 23) (o := 21) rfl) rfl
theorem dX1_put_24 : decode cX1_put 24 = .ok (.iconst 1, 1) := dc_4 (gB_l lq_cX1_put (p := 24) (o := 4) rfl)
theorem dX1_put_25 : decode cX1_put 25 = .ok (.iadd, 1) := dc_96 (gB_l lq_cX1_put (p := 25) (o := 96) rfl)
theorem dX1_put_26 : decode cX1_put 26 = .ok (.putfield 21, 3) := dc_181 (gB_l lq_cX1_put (p := 26) (o := 181) rfl) (gB_l lq_cX1_put (p := 27) (o := 0) rfl) (gB_l lq_cX1_put (p := 28) (o := 21) rfl) rfl
theorem dX1_put_29 : decode cX1_put 29 = .ok (.return_, 1) := dc_177 (gB_l lq_cX1_put (p := 29) (o := 177) rfl)
abbrev r0_cX1_putFour : List Nat := [42, 27, 16, 24, 124, 182, 0, 29, 42, 27, 16, 16, 124, 182, 0, 29, 42, 27, 16, 8, 124, 182, 0, 29, 42, 27, 182, 0, 29, 177]
theorem lq_cX1_putFour : (cX1_putFour).data.toList.map UInt8.toNat = r0_cX1_putFour := by decide +kernel
theorem dX1_putFour_0 : decode cX1_putFour 0 = .ok (.aload_n 0, 1) := dc_42 (gB_l lq_cX1_putFour (p := 0) (o := 42) rfl)
theorem dX1_putFour_1 : decode cX1_putFour 1 = .ok (.iload_n 1, 1) := dc_27 (gB_l lq_cX1_putFour (p := 1) (o := 27) rfl)
theorem dX1_putFour_2 : decode cX1_putFour 2 = .ok (.bipush 24, 2) := dc_16 (gB_l lq_cX1_putFour (p := 2) (o := 16) rfl) (gB_l lq_cX1_putFour (p := 3) (o := 24) rfl) rfl
theorem dX1_putFour_4 : decode cX1_putFour 4 = .ok (.iushr, 1) := dc_124 (gB_l lq_cX1_putFour (p := 4) (o := 124) rfl)
theorem dX1_putFour_5 : decode cX1_putFour 5 = .ok (.invokevirtual 29, 3) := dc_182 (gB_l lq_cX1_putFour (p := 5) (o := 182) rfl) (gB_l lq_cX1_putFour (p := 6) (o := 0) rfl) (gB_l lq_cX1_putFour (p := 7) (o := 29) rfl) rfl
theorem dX1_putFour_8 : decode cX1_putFour 8 = .ok (.aload_n 0, 1) := dc_42 (gB_l lq_cX1_putFour (p := 8) (o := 42) rfl)
theorem dX1_putFour_9 : decode cX1_putFour 9 = .ok (.iload_n 1, 1) := dc_27 (gB_l lq_cX1_putFour (p := 9) (o := 27) rfl)
theorem dX1_putFour_10 : decode cX1_putFour 10 = .ok (.bipush 16, 2) := dc_16 (gB_l lq_cX1_putFour (p := 10) (o := 16) rfl) (gB_l lq_cX1_putFour (p := 11) (o := 16) rfl) rfl
theorem dX1_putFour_12 : decode cX1_putFour 12 = .ok (.iushr, 1) := dc_124 (gB_l lq_cX1_putFour (p := 12) (o := 124) rfl)
theorem dX1_putFour_13 : decode cX1_putFour 13 = .ok (.invokevirtual 29, 3) := dc_182 (gB_l lq_cX1_putFour (p := 13) (o := 182) rfl) (gB_l lq_cX1_putFour (p := 14) (o := 0) rfl) (gB_l lq_cX1_putFour (p := 15) (o := 29) rfl) rfl
theorem dX1_putFour_16 : decode cX1_putFour 16 = .ok (.aload_n 0, 1) := dc_42 (gB_l lq_cX1_putFour (p := 16) (o := 42) rfl)
theorem dX1_putFour_17 : decode cX1_putFour 17 = .ok (.iload_n 1, 1) := dc_27 (gB_l lq_cX1_putFour (p := 17) (o := 27) rfl)
theorem dX1_putFour_18 : decode cX1_putFour 18 = .ok (.bipush 8, 2) := dc_16 (gB_l lq_cX1_putFour (p := 18) (o := 16) rfl) (gB_l lq_cX1_putFour (p := 19) (o := 8) rfl) rfl
theorem dX1_putFour_20 : decode cX1_putFour 20 = .ok (.iushr, 1) := dc_124 (gB_l lq_cX1_putFour (p := 20) (o := 124) rfl)
theorem dX1_putFour_21 : decode cX1_putFour 21 = .ok (.invokevirtual 29, 3) := dc_182 (gB_l lq_cX1_putFour (p := 21) (o := 182) rfl) (gB_l lq_cX1_putFour (p := 22) (o := 0) rfl) (gB_l lq_cX1_putFour (p := 23) (o := 29) rfl) rfl
theorem dX1_putFour_24 : decode cX1_putFour 24 = .ok (.aload_n 0, 1) := dc_42 (gB_l lq_cX1_putFour (p := 24) (o := 42) rfl)
theorem dX1_putFour_25 : decode cX1_putFour 25 = .ok (.iload_n 1, 1) := dc_27 (gB_l lq_cX1_putFour (p := 25) (o := 27) rfl)
theorem dX1_putFour_26 : decode cX1_putFour 26 = .ok (.invokevirtual 29, 3) := dc_182 (gB_l lq_cX1_putFour (p := 26) (o := 182) rfl) (gB_l lq_cX1_putFour (p := 27) (o := 0) rfl) (gB_l lq_cX1_putFour (p := 28) (o := 29) rfl) rfl
theorem dX1_putFour_29 : decode cX1_putFour 29 = .ok (.return_, 1) := dc_177 (gB_l lq_cX1_putFour (p := 29) (o := 177) rfl)
abbrev r1_cX1_putNumber : List Nat := [108, 16, 10, 112, 96, 182, 0, 29, 42, 16, 48, 27, 16, 10, 112, 96, 182, 0, 29, 177]
def a0_cX1_putNumber : List Nat := [27, 16, 100, 161, 0, 17, 42, 16, 48, 27, 16, 100, 108, 16, 10, 112, 96, 182, 0, 29, 27, 16, 10, 161, 0, 17, 42, 16, 48, 27, 16, 10]
abbrev r0_cX1_putNumber : List Nat := a0_cX1_putNumber ++ r1_cX1_putNumber
theorem lq_cX1_putNumber : (cX1_putNumber).data.toList.map UInt8.toNat = r0_cX1_putNumber := by decide +kernel
theorem q1_cX1_putNumber : ∀ i, (r0_cX1_putNumber)[32 + i]? = (r1_cX1_putNumber)[i]? := chn (A := a0_cX1_putNumber) (B := r1_cX1_putNumber) (n := 0) (k := 32) rfl (ch0 (R := r0_cX1_putNumber))
theorem dX1_putNumber_0 : decode cX1_putNumber 0 = .ok (.iload_n 1, 1) := dc_27 (gB_l lq_cX1_putNumber (p := 0) (o := 27) rfl)
theorem dX1_putNumber_1 : decode cX1_putNumber 1 = .ok (.bipush 100, 2) := dc_16 (gB_l lq_cX1_putNumber (p := 1) (o := 16) rfl) (gB_l lq_cX1_putNumber (p := 2) (o := 100) rfl) rfl
theorem dX1_putNumber_3 : decode cX1_putNumber 3 = .ok (.if_icmp .lt 17, 3) := dc_161 (gB_l lq_cX1_putNumber (p := 3) (o := 161) rfl) (gB_l lq_cX1_putNumber (p := 4) (o := 0) rfl) (gB_l lq_cX1_putNumber (p := 5) (o := 17) rfl) rfl
theorem dX1_putNumber_6 : decode cX1_putNumber 6 = .ok (.aload_n 0, 1) := dc_42 (gB_l lq_cX1_putNumber (p := 6) (o := 42) rfl)
theorem dX1_putNumber_7 : decode cX1_putNumber 7 = .ok (.bipush 48, 2) := dc_16 (gB_l lq_cX1_putNumber (p := 7) (o := 16) rfl) (gB_l lq_cX1_putNumber (p := 8) (o := 48) rfl) rfl
theorem dX1_putNumber_9 : decode cX1_putNumber 9 = .ok (.iload_n 1, 1) := dc_27 (gB_l lq_cX1_putNumber (p := 9) (o := 27) rfl)
theorem dX1_putNumber_10 : decode cX1_putNumber 10 = .ok (.bipush 100, 2) := dc_16 (gB_l lq_cX1_putNumber (p := 10) (o := 16) rfl) (gB_l lq_cX1_putNumber (p := 11) (o := 100) rfl) rfl
theorem dX1_putNumber_12 : decode cX1_putNumber 12 = .ok (.idiv, 1) := dc_108 (gB_l lq_cX1_putNumber (p := 12) (o := 108) rfl)
theorem dX1_putNumber_13 : decode cX1_putNumber 13 = .ok (.bipush 10, 2) := dc_16 (gB_l lq_cX1_putNumber (p := 13) (o := 16) rfl) (gB_l lq_cX1_putNumber (p := 14) (o := 10) rfl) rfl
theorem dX1_putNumber_15 : decode cX1_putNumber 15 = .ok (.irem, 1) := dc_112 (gB_l lq_cX1_putNumber (p := 15) (o := 112) rfl)
theorem dX1_putNumber_16 : decode cX1_putNumber 16 = .ok (.iadd, 1) := dc_96 (gB_l lq_cX1_putNumber (p := 16) (o := 96) rfl)
theorem dX1_putNumber_17 : decode cX1_putNumber 17 = .ok (.invokevirtual 29, 3) := dc_182 (gB_l lq_cX1_putNumber (p := 17) (o := 182) rfl) (gB_l lq_cX1_putNumber (p := 18) (o := 0) rfl) (gB_l lq_cX1_putNumber (p := 19) (o := 29) rfl) rfl
theorem dX1_putNumber_20 : decode cX1_putNumber 20 = .ok (.iload_n 1, 1) := dc_27 (gB_l lq_cX1_putNumber (p := 20) (o := 27) rfl)
theorem dX1_putNumber_21 : decode cX1_putNumber 21 = .ok (.bipush 10, 2) := dc_16 (gB_l lq_cX1_putNumber (p := 21) (o := 16) rfl) (gB_l lq_cX1_putNumber (p := 22) (o := 10) rfl) rfl
theorem dX1_putNumber_23 : decode cX1_putNumber 23 = .ok (.if_icmp .lt 17, 3) := dc_161 (gB_l lq_cX1_putNumber (p := 23) (o := 161) rfl) (gB_l lq_cX1_putNumber (p := 24) (o := 0) rfl) (gB_l lq_cX1_putNumber (p := 25) (o := 17) rfl) rfl
theorem dX1_putNumber_26 : decode cX1_putNumber 26 = .ok (.aload_n 0, 1) := dc_42 (gB_l lq_cX1_putNumber (p := 26) (o := 42) rfl)
theorem dX1_putNumber_27 : decode cX1_putNumber 27 = .ok (.bipush 48, 2) := dc_16 (gB_l lq_cX1_putNumber (p := 27) (o := 16) rfl) (gB_l lq_cX1_putNumber (p := 28) (o := 48) rfl) rfl
theorem dX1_putNumber_29 : decode cX1_putNumber 29 = .ok (.iload_n 1, 1) := dc_27 (gB_l lq_cX1_putNumber (p := 29) (o := 27) rfl)
theorem dX1_putNumber_30 : decode cX1_putNumber 30 = .ok (.bipush 10, 2) := dc_16 (gB_l lq_cX1_putNumber (p := 30) (o := 16) rfl) (gB_l lq_cX1_putNumber (p := 31) (o := 10) rfl) rfl
theorem dX1_putNumber_32 : decode cX1_putNumber 32 = .ok (.idiv, 1) := dc_108 (gB_c lq_cX1_putNumber q1_cX1_putNumber 0 (o := 108) rfl)
theorem dX1_putNumber_33 : decode cX1_putNumber 33 = .ok (.bipush 10, 2) := dc_16 (gB_c lq_cX1_putNumber q1_cX1_putNumber 1 (o := 16) rfl) (gB_c lq_cX1_putNumber q1_cX1_putNumber 2 (o := 10) rfl) rfl
theorem dX1_putNumber_35 : decode cX1_putNumber 35 = .ok (.irem, 1) := dc_112 (gB_c lq_cX1_putNumber q1_cX1_putNumber 3 (o := 112) rfl)
theorem dX1_putNumber_36 : decode cX1_putNumber 36 = .ok (.iadd, 1) := dc_96 (gB_c lq_cX1_putNumber q1_cX1_putNumber 4 (o := 96) rfl)
theorem dX1_putNumber_37 : decode cX1_putNumber 37 = .ok (.invokevirtual 29, 3) := dc_182 (gB_c lq_cX1_putNumber q1_cX1_putNumber 5 (o := 182) rfl) (gB_c lq_cX1_putNumber q1_cX1_putNumber 6 (o := 0) rfl) (gB_c lq_cX1_putNumber q1_cX1_putNumber 7 (o := 29) rfl) rfl
theorem dX1_putNumber_40 : decode cX1_putNumber 40 = .ok (.aload_n 0, 1) := dc_42 (gB_c lq_cX1_putNumber q1_cX1_putNumber 8 (o := 42) rfl)
theorem dX1_putNumber_41 : decode cX1_putNumber 41 = .ok (.bipush 48, 2) := dc_16 (gB_c lq_cX1_putNumber q1_cX1_putNumber 9 (o := 16) rfl) (gB_c lq_cX1_putNumber q1_cX1_putNumber 10 (o := 48) rfl) rfl
theorem dX1_putNumber_43 : decode cX1_putNumber 43 = .ok (.iload_n 1, 1) := dc_27 (gB_c lq_cX1_putNumber q1_cX1_putNumber 11 (o := 27) rfl)
theorem dX1_putNumber_44 : decode cX1_putNumber 44 = .ok (.bipush 10, 2) := dc_16 (gB_c lq_cX1_putNumber q1_cX1_putNumber 12 (o := 16) rfl) (gB_c lq_cX1_putNumber q1_cX1_putNumber 13 (o := 10) rfl) rfl
theorem dX1_putNumber_46 : decode cX1_putNumber 46 = .ok (.irem, 1) := dc_112 (gB_c lq_cX1_putNumber q1_cX1_putNumber 14 (o := 112) rfl)
theorem dX1_putNumber_47 : decode cX1_putNumber 47 = .ok (.iadd, 1) := dc_96 (gB_c lq_cX1_putNumber q1_cX1_putNumber 15 (o := 96) rfl)
theorem dX1_putNumber_48 : decode cX1_putNumber 48 = .ok (.invokevirtual 29, 3) := dc_182 (gB_c lq_cX1_putNumber q1_cX1_putNumber 16 (o := 182) rfl) (gB_c lq_cX1_putNumber q1_cX1_putNumber 17 (o := 0) rfl) (gB_c lq_cX1_putNumber q1_cX1_putNumber 18 (o := 29) rfl) rfl
theorem dX1_putNumber_51 : decode cX1_putNumber 51 = .ok (.return_, 1) := dc_177 (gB_c lq_cX1_putNumber q1_cX1_putNumber 19 (o := 177) rfl)
abbrev r0_cX1_putText : List Nat := [3, 61, 28, 43, 182, 0, 33, 162, 0, 18, 42, 43, 28, 182, 0, 39, 182, 0, 29, 132, 2, 1, 167, 255, 236, 177]
theorem lq_cX1_putText : (cX1_putText).data.toList.map UInt8.toNat = r0_cX1_putText := by decide +kernel
theorem dX1_putText_0 : decode cX1_putText 0 = .ok (.iconst 0, 1) := dc_3 (gB_l lq_cX1_putText (p := 0) (o := 3) rfl)
theorem dX1_putText_1 : decode cX1_putText 1 = .ok (.istore_n 2, 1) := dc_61 (gB_l lq_cX1_putText (p := 1) (o := 61) rfl)
theorem dX1_putText_2 : decode cX1_putText 2 = .ok (.iload_n 2, 1) := dc_28 (gB_l lq_cX1_putText (p := 2) (o := 28) rfl)
theorem dX1_putText_3 : decode cX1_putText 3 = .ok (.aload_n 1, 1) := dc_43 (gB_l lq_cX1_putText (p := 3) (o := 43) rfl)
theorem dX1_putText_4 : decode cX1_putText 4 = .ok (.invokevirtual 33, 3) := dc_182 (gB_l lq_cX1_putText (p := 4) (o := 182) rfl) (gB_l lq_cX1_putText (p := 5) (o := 0) rfl) (gB_l lq_cX1_putText (p := 6) (o := 33) rfl) rfl
theorem dX1_putText_7 : decode cX1_putText 7 = .ok (.if_icmp .ge 18, 3) := dc_162 (gB_l lq_cX1_putText (p := 7) (o := 162) rfl) (gB_l lq_cX1_putText (p := 8) (o := 0) rfl) (gB_l lq_cX1_putText (p := 9) (o := 18) rfl) rfl
theorem dX1_putText_10 : decode cX1_putText 10 = .ok (.aload_n 0, 1) := dc_42 (gB_l lq_cX1_putText (p := 10) (o := 42) rfl)
theorem dX1_putText_11 : decode cX1_putText 11 = .ok (.aload_n 1, 1) := dc_43 (gB_l lq_cX1_putText (p := 11) (o := 43) rfl)
theorem dX1_putText_12 : decode cX1_putText 12 = .ok (.iload_n 2, 1) := dc_28 (gB_l lq_cX1_putText (p := 12) (o := 28) rfl)
theorem dX1_putText_13 : decode cX1_putText 13 = .ok (.invokevirtual 39, 3) := dc_182 (gB_l lq_cX1_putText (p := 13) (o := 182) rfl) (gB_l lq_cX1_putText (p := 14) (o := 0) rfl) (gB_l lq_cX1_putText (p := 15) (o := 39) rfl) rfl
theorem dX1_putText_16 : decode cX1_putText 16 = .ok (.invokevirtual 29, 3) := dc_182 (gB_l lq_cX1_putText (p := 16) (o := 182) rfl) (gB_l lq_cX1_putText (p := 17) (o := 0) rfl) (gB_l lq_cX1_putText (p := 18) (o := 29) rfl) rfl
theorem dX1_putText_19 : decode cX1_putText 19 = .ok (.iinc 2 1, 3) := dc_132 (gB_l lq_cX1_putText (p := 19) (o := 132) rfl) (gB_l lq_cX1_putText (p := 20) (o := 2) rfl) (gB_l lq_cX1_putText (p := 21) (o := 1) rfl) rfl
theorem dX1_putText_22 : decode cX1_putText 22 = .ok (.goto (-20), 3) := dc_167 (gB_l lq_cX1_putText (p := 22) (o := 167) rfl) (gB_l lq_cX1_putText (p := 23) (o := 255) rfl) (gB_l lq_cX1_putText (p := 24) (o := 236) rfl) rfl
theorem dX1_putText_25 : decode cX1_putText 25 = .ok (.return_, 1) := dc_177 (gB_l lq_cX1_putText (p := 25) (o := 177) rfl)
abbrev r0_cX2_init : List Nat := [42, 183, 0, 3, 42, 16, 9, 188, 10, 181, 0, 9, 177]
theorem lq_cX2_init : (cX2_init).data.toList.map UInt8.toNat = r0_cX2_init := by decide +kernel
theorem dX2_init_0 : decode cX2_init 0 = .ok (.aload_n 0, 1) := dc_42 (gB_l lq_cX2_init (p := 0) (o := 42) rfl)
theorem dX2_init_1 : decode cX2_init 1 = .ok (.invokespecial 3, 3) := dc_183 (gB_l lq_cX2_init (p := 1) (o := 183) rfl) (gB_l lq_cX2_init (p := 2) (o := 0) rfl) (gB_l lq_cX2_init (p := 3) (o := 3) rfl) rfl
theorem dX2_init_4 : decode cX2_init 4 = .ok (.aload_n 0, 1) := dc_42 (gB_l lq_cX2_init (p := 4) (o := 42) rfl)
theorem dX2_init_5 : decode cX2_init 5 = .ok (.bipush 9, 2) := dc_16 (gB_l lq_cX2_init (p := 5) (o := 16) rfl) (gB_l lq_cX2_init (p := 6) (o := 9) rfl) rfl
theorem dX2_init_7 : decode cX2_init 7 = .ok (.newarray .int, 2) := dn_10 (gB_l lq_cX2_init (p := 7) (o := 188) rfl) (gB_l lq_cX2_init (p := 8) (o := 10) rfl)
theorem dX2_init_9 : decode cX2_init 9 = .ok (.putfield 9, 3) := dc_181 (gB_l lq_cX2_init (p := 9) (o := 181) rfl) (gB_l lq_cX2_init (p := 10) (o := 0) rfl) (gB_l lq_cX2_init (p := 11) (o := 9) rfl) rfl
theorem dX2_init_12 : decode cX2_init 12 = .ok (.return_, 1) := dc_177 (gB_l lq_cX2_init (p := 12) (o := 177) rfl)
abbrev r1_cX3_init : List Nat := [42, 180, 0, 11, 27, 187, 0, 9, 89, 183, 0, 24, 83, 132, 1, 1, 167, 255, 234, 177]
def a0_cX3_init : List Nat := [42, 183, 0, 3, 42, 16, 7, 189, 0, 9, 181, 0, 11, 42, 187, 0, 17, 89, 183, 0, 19, 181, 0, 20, 3, 60, 27, 16, 7, 162, 0, 22]
abbrev r0_cX3_init : List Nat := a0_cX3_init ++ r1_cX3_init
theorem lq_cX3_init : (cX3_init).data.toList.map UInt8.toNat = r0_cX3_init := by decide +kernel
theorem q1_cX3_init : ∀ i, (r0_cX3_init)[32 + i]? = (r1_cX3_init)[i]? := chn (A := a0_cX3_init) (B := r1_cX3_init) (n := 0) (k := 32) rfl (ch0 (R := r0_cX3_init))
theorem dX3_init_0 : decode cX3_init 0 = .ok (.aload_n 0, 1) := dc_42 (gB_l lq_cX3_init (p := 0) (o := 42) rfl)
theorem dX3_init_1 : decode cX3_init 1 = .ok (.invokespecial 3, 3) := dc_183 (gB_l lq_cX3_init (p := 1) (o := 183) rfl) (gB_l lq_cX3_init (p := 2) (o := 0) rfl) (gB_l lq_cX3_init (p := 3) (o := 3) rfl) rfl
theorem dX3_init_4 : decode cX3_init 4 = .ok (.aload_n 0, 1) := dc_42 (gB_l lq_cX3_init (p := 4) (o := 42) rfl)
theorem dX3_init_5 : decode cX3_init 5 = .ok (.bipush 7, 2) := dc_16 (gB_l lq_cX3_init (p := 5) (o := 16) rfl) (gB_l lq_cX3_init (p := 6) (o := 7) rfl) rfl
theorem dX3_init_7 : decode cX3_init 7 = .ok (.anewarray 9, 3) := dc_189 (gB_l lq_cX3_init (p := 7) (o := 189) rfl) (gB_l lq_cX3_init (p := 8) (o := 0) rfl) (gB_l lq_cX3_init (p := 9) (o := 9) rfl) rfl
theorem dX3_init_10 : decode cX3_init 10 = .ok (.putfield 11, 3) := dc_181 (gB_l lq_cX3_init (p := 10) (o := 181) rfl) (gB_l lq_cX3_init (p := 11) (o := 0) rfl) (gB_l lq_cX3_init (p := 12) (o := 11) rfl) rfl
theorem dX3_init_13 : decode cX3_init 13 = .ok (.aload_n 0, 1) := dc_42 (gB_l lq_cX3_init (p := 13) (o := 42) rfl)
theorem dX3_init_14 : decode cX3_init 14 = .ok (.new 17, 3) := dc_187 (gB_l lq_cX3_init (p := 14) (o := 187) rfl) (gB_l lq_cX3_init (p := 15) (o := 0) rfl) (gB_l lq_cX3_init (p := 16) (o := 17) rfl) rfl
theorem dX3_init_17 : decode cX3_init 17 = .ok (.dup, 1) := dc_89 (gB_l lq_cX3_init (p := 17) (o := 89) rfl)
theorem dX3_init_18 : decode cX3_init 18 = .ok (.invokespecial 19, 3) := dc_183 (gB_l lq_cX3_init (p := 18) (o := 183) rfl) (gB_l lq_cX3_init (p := 19) (o := 0) rfl) (gB_l lq_cX3_init (p := 20) (o := 19) rfl) rfl
theorem dX3_init_21 : decode cX3_init 21 = .ok (.putfield 20, 3) := dc_181 (gB_l lq_cX3_init (p := 21) (o := 181) rfl) (gB_l lq_cX3_init (p := 22) (o := 0) rfl) (gB_l lq_cX3_init (p := 23) (o := 20) rfl) rfl
theorem dX3_init_24 : decode cX3_init 24 = .ok (.iconst 0, 1) := dc_3 (gB_l lq_cX3_init (p := 24) (o := 3) rfl)
theorem dX3_init_25 : decode cX3_init 25 = .ok (.istore_n 1, 1) := dc_60 (gB_l lq_cX3_init (p := 25) (o := 60) rfl)
theorem dX3_init_26 : decode cX3_init 26 = .ok (.iload_n 1, 1) := dc_27 (gB_l lq_cX3_init (p := 26) (o := 27) rfl)
theorem dX3_init_27 : decode cX3_init 27 = .ok (.bipush 7, 2) := dc_16 (gB_l lq_cX3_init (p := 27) (o := 16) rfl) (gB_l lq_cX3_init (p := 28) (o := 7) rfl) rfl
theorem dX3_init_29 : decode cX3_init 29 = .ok (.if_icmp .ge 22, 3) := dc_162 (gB_l lq_cX3_init (p := 29) (o := 162) rfl) (gB_l lq_cX3_init (p := 30) (o := 0) rfl) (gB_l lq_cX3_init (p := 31) (o := 22) rfl) rfl
theorem dX3_init_32 : decode cX3_init 32 = .ok (.aload_n 0, 1) := dc_42 (gB_c lq_cX3_init q1_cX3_init 0 (o := 42) rfl)
theorem dX3_init_33 : decode cX3_init 33 = .ok (.getfield 11, 3) := dc_180 (gB_c lq_cX3_init q1_cX3_init 1 (o := 180) rfl) (gB_c lq_cX3_init q1_cX3_init 2 (o := 0) rfl) (gB_c lq_cX3_init q1_cX3_init 3 (o := 11) rfl) rfl
theorem dX3_init_36 : decode cX3_init 36 = .ok (.iload_n 1, 1) := dc_27 (gB_c lq_cX3_init q1_cX3_init 4 (o := 27) rfl)
theorem dX3_init_37 : decode cX3_init 37 = .ok (.new 9, 3) := dc_187 (gB_c lq_cX3_init q1_cX3_init 5 (o := 187) rfl) (gB_c lq_cX3_init q1_cX3_init 6 (o := 0) rfl) (gB_c lq_cX3_init q1_cX3_init 7 (o := 9) rfl) rfl
theorem dX3_init_40 : decode cX3_init 40 = .ok (.dup, 1) := dc_89 (gB_c lq_cX3_init q1_cX3_init 8 (o := 89) rfl)
theorem dX3_init_41 : decode cX3_init 41 = .ok (.invokespecial 24, 3) := dc_183 (gB_c lq_cX3_init q1_cX3_init 9 (o := 183) rfl) (gB_c lq_cX3_init q1_cX3_init 10 (o := 0) rfl) (gB_c lq_cX3_init q1_cX3_init 11 (o := 24) rfl) rfl
theorem dX3_init_44 : decode cX3_init 44 = .ok (.aastore, 1) := dc_83 (gB_c lq_cX3_init q1_cX3_init 12 (o := 83) rfl)
theorem dX3_init_45 : decode cX3_init 45 = .ok (.iinc 1 1, 3) := dc_132 (gB_c lq_cX3_init q1_cX3_init 13 (o := 132) rfl) (gB_c lq_cX3_init q1_cX3_init 14 (o := 1) rfl) (gB_c lq_cX3_init q1_cX3_init 15 (o := 1) rfl) rfl
theorem dX3_init_48 : decode cX3_init 48 = .ok (.goto (-22), 3) := dc_167 (gB_c lq_cX3_init q1_cX3_init 16 (o := 167) rfl) (gB_c lq_cX3_init q1_cX3_init 17 (o := 255) rfl) (gB_c lq_cX3_init q1_cX3_init 18 (o := 234) rfl) rfl
theorem dX3_init_51 : decode cX3_init 51 = .ok (.return_, 1) := dc_177 (gB_c lq_cX3_init q1_cX3_init 19 (o := 177) rfl)
abbrev r1_cX3_turnTo : List Nat := [28, 50, 3, 181, 0, 33, 132, 2, 1, 167, 255, 237, 177]
def a0_cX3_turnTo : List Nat := [42, 180, 0, 20, 43, 182, 0, 25, 153, 0, 4, 177, 42, 180, 0, 20, 43, 182, 0, 29, 3, 61, 28, 16, 7, 162, 0, 19, 42, 180, 0, 11]
abbrev r0_cX3_turnTo : List Nat := a0_cX3_turnTo ++ r1_cX3_turnTo
theorem lq_cX3_turnTo : (cX3_turnTo).data.toList.map UInt8.toNat = r0_cX3_turnTo := by decide +kernel
theorem q1_cX3_turnTo : ∀ i, (r0_cX3_turnTo)[32 + i]? = (r1_cX3_turnTo)[i]? := chn (A := a0_cX3_turnTo) (B := r1_cX3_turnTo) (n := 0) (k := 32) rfl (ch0 (R := r0_cX3_turnTo))
theorem dX3_turnTo_0 : decode cX3_turnTo 0 = .ok (.aload_n 0, 1) := dc_42 (gB_l lq_cX3_turnTo (p := 0) (o := 42) rfl)
theorem dX3_turnTo_1 : decode cX3_turnTo 1 = .ok (.getfield 20, 3) := dc_180 (gB_l lq_cX3_turnTo (p := 1) (o := 180) rfl) (gB_l lq_cX3_turnTo (p := 2) (o := 0) rfl) (gB_l lq_cX3_turnTo (p := 3) (o := 20) rfl) rfl
theorem dX3_turnTo_4 : decode cX3_turnTo 4 = .ok (.aload_n 1, 1) := dc_43 (gB_l lq_cX3_turnTo (p := 4) (o := 43) rfl)
theorem dX3_turnTo_5 : decode cX3_turnTo 5 = .ok (.invokevirtual 25, 3) := dc_182 (gB_l lq_cX3_turnTo (p := 5) (o := 182) rfl) (gB_l lq_cX3_turnTo (p := 6) (o := 0) rfl) (gB_l lq_cX3_turnTo (p := 7) (o := 25) rfl) rfl
theorem dX3_turnTo_8 : decode cX3_turnTo 8 = .ok (.ifCond .eq 4, 3) := dc_153 (gB_l lq_cX3_turnTo (p := 8) (o := 153) rfl) (gB_l lq_cX3_turnTo (p := 9) (o := 0) rfl) (gB_l lq_cX3_turnTo (p := 10) (o := 4) rfl) rfl
theorem dX3_turnTo_11 : decode cX3_turnTo 11 = .ok (.return_, 1) := dc_177 (gB_l lq_cX3_turnTo (p := 11) (o := 177) rfl)
theorem dX3_turnTo_12 : decode cX3_turnTo 12 = .ok (.aload_n 0, 1) := dc_42 (gB_l lq_cX3_turnTo (p := 12) (o := 42) rfl)
theorem dX3_turnTo_13 : decode cX3_turnTo 13 = .ok (.getfield 20, 3) := dc_180 (gB_l lq_cX3_turnTo (p := 13) (o := 180) rfl) (gB_l lq_cX3_turnTo (p := 14) (o := 0) rfl) (gB_l lq_cX3_turnTo (p := 15) (o := 20) rfl) rfl
theorem dX3_turnTo_16 : decode cX3_turnTo 16 = .ok (.aload_n 1, 1) := dc_43 (gB_l lq_cX3_turnTo (p := 16) (o := 43) rfl)
theorem dX3_turnTo_17 : decode cX3_turnTo 17 = .ok (.invokevirtual 29, 3) := dc_182 (gB_l lq_cX3_turnTo (p := 17) (o := 182) rfl) (gB_l lq_cX3_turnTo (p := 18) (o := 0) rfl) (gB_l lq_cX3_turnTo (p := 19) (o := 29) rfl) rfl
theorem dX3_turnTo_20 : decode cX3_turnTo 20 = .ok (.iconst 0, 1) := dc_3 (gB_l lq_cX3_turnTo (p := 20) (o := 3) rfl)
theorem dX3_turnTo_21 : decode cX3_turnTo 21 = .ok (.istore_n 2, 1) := dc_61 (gB_l lq_cX3_turnTo (p := 21) (o := 61) rfl)
theorem dX3_turnTo_22 : decode cX3_turnTo 22 = .ok (.iload_n 2, 1) := dc_28 (gB_l lq_cX3_turnTo (p := 22) (o := 28) rfl)
theorem dX3_turnTo_23 : decode cX3_turnTo 23 = .ok (.bipush 7, 2) := dc_16 (gB_l lq_cX3_turnTo (p := 23) (o := 16) rfl) (gB_l lq_cX3_turnTo (p := 24) (o := 7) rfl) rfl
theorem dX3_turnTo_25 : decode cX3_turnTo 25 = .ok (.if_icmp .ge 19, 3) := dc_162 (gB_l lq_cX3_turnTo (p := 25) (o := 162) rfl) (gB_l lq_cX3_turnTo (p := 26) (o := 0) rfl) (gB_l lq_cX3_turnTo (p := 27) (o := 19) rfl) rfl
theorem dX3_turnTo_28 : decode cX3_turnTo 28 = .ok (.aload_n 0, 1) := dc_42 (gB_l lq_cX3_turnTo (p := 28) (o := 42) rfl)
theorem dX3_turnTo_29 : decode cX3_turnTo 29 = .ok (.getfield 11, 3) := dc_180 (gB_l lq_cX3_turnTo (p := 29) (o := 180) rfl) (gB_l lq_cX3_turnTo (p := 30) (o := 0) rfl) (gB_l lq_cX3_turnTo (p := 31) (o := 11) rfl) rfl
theorem dX3_turnTo_32 : decode cX3_turnTo 32 = .ok (.iload_n 2, 1) := dc_28 (gB_c lq_cX3_turnTo q1_cX3_turnTo 0 (o := 28) rfl)
theorem dX3_turnTo_33 : decode cX3_turnTo 33 = .ok (.aaload, 1) := dc_50 (gB_c lq_cX3_turnTo q1_cX3_turnTo 1 (o := 50) rfl)
theorem dX3_turnTo_34 : decode cX3_turnTo 34 = .ok (.iconst 0, 1) := dc_3 (gB_c lq_cX3_turnTo q1_cX3_turnTo 2 (o := 3) rfl)
theorem dX3_turnTo_35 : decode cX3_turnTo 35 = .ok (.putfield 33, 3) := dc_181 (gB_c lq_cX3_turnTo q1_cX3_turnTo 3 (o := 181) rfl) (gB_c lq_cX3_turnTo q1_cX3_turnTo 4 (o := 0) rfl) (gB_c lq_cX3_turnTo q1_cX3_turnTo 5 (o := 33) rfl) rfl
theorem dX3_turnTo_38 : decode cX3_turnTo 38 = .ok (.iinc 2 1, 3) := dc_132 (gB_c lq_cX3_turnTo q1_cX3_turnTo 6 (o := 132) rfl) (gB_c lq_cX3_turnTo q1_cX3_turnTo 7 (o := 2) rfl) (gB_c lq_cX3_turnTo q1_cX3_turnTo 8 (o := 1) rfl) rfl
theorem dX3_turnTo_41 : decode cX3_turnTo 41 = .ok (.goto (-19), 3) := dc_167 (gB_c lq_cX3_turnTo q1_cX3_turnTo 9 (o := 167) rfl) (gB_c lq_cX3_turnTo q1_cX3_turnTo 10 (o := 255) rfl) (gB_c lq_cX3_turnTo q1_cX3_turnTo 11 (o := 237) rfl) rfl
theorem dX3_turnTo_44 : decode cX3_turnTo 44 = .ok (.return_, 1) := dc_177 (gB_c lq_cX3_turnTo q1_cX3_turnTo 12 (o := 177) rfl)
abbrev r1_cX4_init : List Nat := [17, 27, 187, 0, 15, 89, 183, 0, 21, 83, 132, 1, 1, 167, 255, 234, 177]
def a0_cX4_init : List Nat := [42, 183, 0, 3, 42, 16, 10, 188, 10, 181, 0, 9, 42, 16, 10, 189, 0, 15, 181, 0, 17, 3, 60, 27, 16, 10, 162, 0, 22, 42, 180, 0]
abbrev r0_cX4_init : List Nat := a0_cX4_init ++ r1_cX4_init
theorem lq_cX4_init : (cX4_init).data.toList.map UInt8.toNat = r0_cX4_init := by decide +kernel
theorem q1_cX4_init : ∀ i, (r0_cX4_init)[32 + i]? = (r1_cX4_init)[i]? := chn (A := a0_cX4_init) (B := r1_cX4_init) (n := 0) (k := 32) rfl (ch0 (R := r0_cX4_init))
theorem dX4_init_0 : decode cX4_init 0 = .ok (.aload_n 0, 1) := dc_42 (gB_l lq_cX4_init (p := 0) (o := 42) rfl)
theorem dX4_init_1 : decode cX4_init 1 = .ok (.invokespecial 3, 3) := dc_183 (gB_l lq_cX4_init (p := 1) (o := 183) rfl) (gB_l lq_cX4_init (p := 2) (o := 0) rfl) (gB_l lq_cX4_init (p := 3) (o := 3) rfl) rfl
theorem dX4_init_4 : decode cX4_init 4 = .ok (.aload_n 0, 1) := dc_42 (gB_l lq_cX4_init (p := 4) (o := 42) rfl)
theorem dX4_init_5 : decode cX4_init 5 = .ok (.bipush 10, 2) := dc_16 (gB_l lq_cX4_init (p := 5) (o := 16) rfl) (gB_l lq_cX4_init (p := 6) (o := 10) rfl) rfl
theorem dX4_init_7 : decode cX4_init 7 = .ok (.newarray .int, 2) := dn_10 (gB_l lq_cX4_init (p := 7) (o := 188) rfl) (gB_l lq_cX4_init (p := 8) (o := 10) rfl)
theorem dX4_init_9 : decode cX4_init 9 = .ok (.putfield 9, 3) := dc_181 (gB_l lq_cX4_init (p := 9) (o := 181) rfl) (gB_l lq_cX4_init (p := 10) (o := 0) rfl) (gB_l lq_cX4_init (p := 11) (o := 9) rfl) rfl
theorem dX4_init_12 : decode cX4_init 12 = .ok (.aload_n 0, 1) := dc_42 (gB_l lq_cX4_init (p := 12) (o := 42) rfl)
theorem dX4_init_13 : decode cX4_init 13 = .ok (.bipush 10, 2) := dc_16 (gB_l lq_cX4_init (p := 13) (o := 16) rfl) (gB_l lq_cX4_init (p := 14) (o := 10) rfl) rfl
theorem dX4_init_15 : decode cX4_init 15 = .ok (.anewarray 15, 3) := dc_189 (gB_l lq_cX4_init (p := 15) (o := 189) rfl) (gB_l lq_cX4_init (p := 16) (o := 0) rfl) (gB_l lq_cX4_init (p := 17) (o := 15) rfl) rfl
theorem dX4_init_18 : decode cX4_init 18 = .ok (.putfield 17, 3) := dc_181 (gB_l lq_cX4_init (p := 18) (o := 181) rfl) (gB_l lq_cX4_init (p := 19) (o := 0) rfl) (gB_l lq_cX4_init (p := 20) (o := 17) rfl) rfl
theorem dX4_init_21 : decode cX4_init 21 = .ok (.iconst 0, 1) := dc_3 (gB_l lq_cX4_init (p := 21) (o := 3) rfl)
theorem dX4_init_22 : decode cX4_init 22 = .ok (.istore_n 1, 1) := dc_60 (gB_l lq_cX4_init (p := 22) (o := 60) rfl)
theorem dX4_init_23 : decode cX4_init 23 = .ok (.iload_n 1, 1) := dc_27 (gB_l lq_cX4_init (p := 23) (o := 27) rfl)
theorem dX4_init_24 : decode cX4_init 24 = .ok (.bipush 10, 2) := dc_16 (gB_l lq_cX4_init (p := 24) (o := 16) rfl) (gB_l lq_cX4_init (p := 25) (o := 10) rfl) rfl
theorem dX4_init_26 : decode cX4_init 26 = .ok (.if_icmp .ge 22, 3) := dc_162 (gB_l lq_cX4_init (p := 26) (o := 162) rfl) (gB_l lq_cX4_init (p := 27) (o := 0) rfl) (gB_l lq_cX4_init (p := 28) (o := 22) rfl) rfl
theorem dX4_init_29 : decode cX4_init 29 = .ok (.aload_n 0, 1) := dc_42 (gB_l lq_cX4_init (p := 29) (o := 42) rfl)
theorem dX4_init_30 : decode cX4_init 30 = .ok (.getfield 17, 3) := dc_180 (gB_l lq_cX4_init (p := 30) (o := 180) rfl) (gB_l lq_cX4_init (p := 31) (o := 0) rfl) (gB_c lq_cX4_init q1_cX4_init 0 (o := 17) rfl) rfl
theorem dX4_init_33 : decode cX4_init 33 = .ok (.iload_n 1, 1) := dc_27 (gB_c lq_cX4_init q1_cX4_init 1 (o := 27) rfl)
theorem dX4_init_34 : decode cX4_init 34 = .ok (.new 15, 3) := dc_187 (gB_c lq_cX4_init q1_cX4_init 2 (o := 187) rfl) (gB_c lq_cX4_init q1_cX4_init 3 (o := 0) rfl) (gB_c lq_cX4_init q1_cX4_init 4 (o := 15) rfl) rfl
theorem dX4_init_37 : decode cX4_init 37 = .ok (.dup, 1) := dc_89 (gB_c lq_cX4_init q1_cX4_init 5 (o := 89) rfl)
theorem dX4_init_38 : decode cX4_init 38 = .ok (.invokespecial 21, 3) := dc_183 (gB_c lq_cX4_init q1_cX4_init 6 (o := 183) rfl) (gB_c lq_cX4_init q1_cX4_init 7 (o := 0) rfl) (gB_c lq_cX4_init q1_cX4_init 8 (o := 21) rfl) rfl
theorem dX4_init_41 : decode cX4_init 41 = .ok (.aastore, 1) := dc_83 (gB_c lq_cX4_init q1_cX4_init 9 (o := 83) rfl)
theorem dX4_init_42 : decode cX4_init 42 = .ok (.iinc 1 1, 3) := dc_132 (gB_c lq_cX4_init q1_cX4_init 10 (o := 132) rfl) (gB_c lq_cX4_init q1_cX4_init 11 (o := 1) rfl) (gB_c lq_cX4_init q1_cX4_init 12 (o := 1) rfl) rfl
theorem dX4_init_45 : decode cX4_init 45 = .ok (.goto (-22), 3) := dc_167 (gB_c lq_cX4_init q1_cX4_init 13 (o := 167) rfl) (gB_c lq_cX4_init q1_cX4_init 14 (o := 255) rfl) (gB_c lq_cX4_init q1_cX4_init 15 (o := 234) rfl) rfl
theorem dX4_init_48 : decode cX4_init 48 = .ok (.return_, 1) := dc_177 (gB_c lq_cX4_init q1_cX4_init 16 (o := 177) rfl)
abbrev r1_cX4_remember : List Nat := [112, 181, 0, 22, 42, 16, 10, 42, 180, 0, 30, 4, 96, 184, 0, 33, 181, 0, 30, 177]
def a0_cX4_remember : List Nat := [42, 180, 0, 9, 42, 180, 0, 22, 27, 79, 42, 180, 0, 17, 42, 180, 0, 22, 50, 44, 182, 0, 26, 42, 42, 180, 0, 22, 4, 96, 16, 10]
abbrev r0_cX4_remember : List Nat := a0_cX4_remember ++ r1_cX4_remember
theorem lq_cX4_remember : (cX4_remember).data.toList.map UInt8.toNat = r0_cX4_remember := by decide +kernel
theorem q1_cX4_remember : ∀ i, (r0_cX4_remember)[32 + i]? = (r1_cX4_remember)[i]? := chn (A := a0_cX4_remember) (B := r1_cX4_remember) (n := 0) (k := 32) rfl (ch0 (R := r0_cX4_remember))
theorem dX4_remember_0 : decode cX4_remember 0 = .ok (.aload_n 0, 1) := dc_42 (gB_l lq_cX4_remember (p := 0) (o := 42) rfl)
theorem dX4_remember_1 : decode cX4_remember 1 = .ok (.getfield 9, 3) := dc_180 (gB_l lq_cX4_remember (p := 1) (o := 180) rfl) (gB_l lq_cX4_remember (p := 2) (o := 0) rfl) (gB_l lq_cX4_remember (p := 3) (o := 9) rfl) rfl
theorem dX4_remember_4 : decode cX4_remember 4 = .ok (.aload_n 0, 1) := dc_42 (gB_l lq_cX4_remember (p := 4) (o := 42) rfl)
theorem dX4_remember_5 : decode cX4_remember 5 = .ok (.getfield 22, 3) := dc_180 (gB_l lq_cX4_remember (p := 5) (o := 180) rfl) (gB_l lq_cX4_remember (p := 6) (o := 0) rfl) (gB_l lq_cX4_remember (p := 7) (o := 22) rfl) rfl
theorem dX4_remember_8 : decode cX4_remember 8 = .ok (.iload_n 1, 1) := dc_27 (gB_l lq_cX4_remember (p := 8) (o := 27) rfl)
theorem dX4_remember_9 : decode cX4_remember 9 = .ok (.iastore, 1) := dc_79 (gB_l lq_cX4_remember (p := 9) (o := 79) rfl)
theorem dX4_remember_10 : decode cX4_remember 10 = .ok (.aload_n 0, 1) := dc_42 (gB_l lq_cX4_remember (p := 10) (o := 42) rfl)
theorem dX4_remember_11 : decode cX4_remember 11 = .ok (.getfield 17, 3) := dc_180 (gB_l lq_cX4_remember (p := 11) (o := 180) rfl) (gB_l lq_cX4_remember (p := 12) (o := 0) rfl) (gB_l lq_cX4_remember (p := 13) (o := 17) rfl) rfl
theorem dX4_remember_14 : decode cX4_remember 14 = .ok (.aload_n 0, 1) := dc_42 (gB_l lq_cX4_remember (p := 14) (o := 42) rfl)
theorem dX4_remember_15 : decode cX4_remember 15 = .ok (.getfield 22, 3) := dc_180 (gB_l lq_cX4_remember (p := 15) (o := 180) rfl) (gB_l lq_cX4_remember (p := 16) (o := 0) rfl) (gB_l lq_cX4_remember (p := 17) (o := 22) rfl) rfl
theorem dX4_remember_18 : decode cX4_remember 18 = .ok (.aaload, 1) := dc_50 (gB_l lq_cX4_remember (p := 18) (o := 50) rfl)
theorem dX4_remember_19 : decode cX4_remember 19 = .ok (.aload_n 2, 1) := dc_44 (gB_l lq_cX4_remember (p := 19) (o := 44) rfl)
theorem dX4_remember_20 : decode cX4_remember 20 = .ok (.invokevirtual 26, 3) := dc_182 (gB_l lq_cX4_remember (p := 20) (o := 182) rfl) (gB_l lq_cX4_remember (p := 21) (o := 0) rfl) (gB_l lq_cX4_remember (p := 22) (o := 26) rfl) rfl
theorem dX4_remember_23 : decode cX4_remember 23 = .ok (.aload_n 0, 1) := dc_42 (gB_l lq_cX4_remember (p := 23) (o := 42) rfl)
theorem dX4_remember_24 : decode cX4_remember 24 = .ok (.aload_n 0, 1) := dc_42 (gB_l lq_cX4_remember (p := 24) (o := 42) rfl)
theorem dX4_remember_25 : decode cX4_remember 25 = .ok (.getfield 22, 3) := dc_180 (gB_l lq_cX4_remember (p := 25) (o := 180) rfl) (gB_l lq_cX4_remember (p := 26) (o := 0) rfl) (gB_l lq_cX4_remember (p := 27) (o := 22) rfl) rfl
theorem dX4_remember_28 : decode cX4_remember 28 = .ok (.iconst 1, 1) := dc_4 (gB_l lq_cX4_remember (p := 28) (o := 4) rfl)
theorem dX4_remember_29 : decode cX4_remember 29 = .ok (.iadd, 1) := dc_96 (gB_l lq_cX4_remember (p := 29) (o := 96) rfl)
theorem dX4_remember_30 : decode cX4_remember 30 = .ok (.bipush 10, 2) := dc_16 (gB_l lq_cX4_remember (p := 30) (o := 16) rfl) (gB_l lq_cX4_remember (p := 31) (o := 10) rfl) rfl
theorem dX4_remember_32 : decode cX4_remember 32 = .ok (.irem, 1) := dc_112 (gB_c lq_cX4_remember q1_cX4_remember 0 (o := 112) rfl)
theorem dX4_remember_33 : decode cX4_remember 33 = .ok (.putfield 22, 3) := dc_181 (gB_c lq_cX4_remember q1_cX4_remember 1 (o := 181) rfl) (gB_c lq_cX4_remember q1_cX4_remember 2 (o := 0) rfl) (gB_c lq_cX4_remember q1_cX4_remember 3 (o := 22) rfl) rfl
theorem dX4_remember_36 : decode cX4_remember 36 = .ok (.aload_n 0, 1) := dc_42 (gB_c lq_cX4_remember q1_cX4_remember 4 (o := 42) rfl)
theorem dX4_remember_37 : decode cX4_remember 37 = .ok (.bipush 10, 2) := dc_16 (gB_c lq_cX4_remember q1_cX4_remember 5 (o := 16) rfl) (gB_c lq_cX4_remember q1_cX4_remember 6 (o := 10) rfl) rfl
theorem dX4_remember_39 : decode cX4_remember 39 = .ok (.aload_n 0, 1) := dc_42 (gB_c lq_cX4_remember q1_cX4_remember 7 (o := 42) rfl)
theorem dX4_remember_40 : decode cX4_remember 40 = .ok (.getfield 30, 3) := dc_180 (gB_c lq_cX4_remember q1_cX4_remember 8 (o := 180) rfl) (gB_c lq_cX4_remember q1_cX4_remember 9 (o := 0) rfl) (gB_c lq_cX4_remember q1_cX4_remember 10 (o := 30) rfl) rfl
theorem dX4_remember_43 : decode cX4_remember 43 = .ok (.iconst 1, 1) := dc_4 (gB_c lq_cX4_remember q1_cX4_remember 11 (o := 4) rfl)
theorem dX4_remember_44 : decode cX4_remember 44 = .ok (.iadd, 1) := dc_96 (gB_c lq_cX4_remember q1_cX4_remember 12 (o := 96) rfl)
theorem dX4_remember_45 : decode cX4_remember 45 = .ok (.invokestatic 33, 3) := dc_184 (gB_c lq_cX4_remember q1_cX4_remember 13 (o := 184) rfl) (gB_c lq_cX4_remember q1_cX4_remember 14 (o := 0) rfl) (gB_c lq_cX4_remember q1_cX4_remember 15 (o := 33) rfl) rfl
theorem dX4_remember_48 : decode cX4_remember 48 = .ok (.putfield 30, 3) := dc_181 (gB_c lq_cX4_remember q1_cX4_remember 16 (o := 181) rfl) (gB_c lq_cX4_remember q1_cX4_remember 17 (o := 0) rfl) (gB_c lq_cX4_remember q1_cX4_remember 18 (o := 30) rfl) rfl
theorem dX4_remember_51 : decode cX4_remember 51 = .ok (.return_, 1) := dc_177 (gB_c lq_cX4_remember q1_cX4_remember 19 (o := 177) rfl)
abbrev r1_cX4_takeBack : List Nat := [180, 0, 22, 46, 50, 42, 180, 0, 17, 42, 180, 0, 22, 50, 182, 0, 26, 177]
def a0_cX4_takeBack : List Nat := [42, 42, 180, 0, 22, 16, 10, 96, 4, 100, 16, 10, 112, 181, 0, 22, 42, 89, 180, 0, 30, 4, 100, 181, 0, 30, 43, 42, 180, 0, 9, 42]
abbrev r0_cX4_takeBack : List Nat := a0_cX4_takeBack ++ r1_cX4_takeBack
theorem lq_cX4_takeBack : (cX4_takeBack).data.toList.map UInt8.toNat = r0_cX4_takeBack := by decide +kernel
theorem q1_cX4_takeBack : ∀ i, (r0_cX4_takeBack)[32 + i]? = (r1_cX4_takeBack)[i]? := chn (A := a0_cX4_takeBack) (B := r1_cX4_takeBack) (n := 0) (k := 32) rfl (ch0 (R := r0_cX4_takeBack))
theorem dX4_takeBack_0 : decode cX4_takeBack 0 = .ok (.aload_n 0, 1) := dc_42 (gB_l lq_cX4_takeBack (p := 0) (o := 42) rfl)
theorem dX4_takeBack_1 : decode cX4_takeBack 1 = .ok (.aload_n 0, 1) := dc_42 (gB_l lq_cX4_takeBack (p := 1) (o := 42) rfl)
theorem dX4_takeBack_2 : decode cX4_takeBack 2 = .ok (.getfield 22, 3) := dc_180 (gB_l lq_cX4_takeBack (p := 2) (o := 180) rfl) (gB_l lq_cX4_takeBack (p := 3) (o := 0) rfl) (gB_l lq_cX4_takeBack (p := 4) (o := 22) rfl) rfl
theorem dX4_takeBack_5 : decode cX4_takeBack 5 = .ok (.bipush 10, 2) := dc_16 (gB_l lq_cX4_takeBack (p := 5) (o := 16) rfl) (gB_l lq_cX4_takeBack (p := 6) (o := 10) rfl) rfl
theorem dX4_takeBack_7 : decode cX4_takeBack 7 = .ok (.iadd, 1) := dc_96 (gB_l lq_cX4_takeBack (p := 7) (o := 96) rfl)
theorem dX4_takeBack_8 : decode cX4_takeBack 8 = .ok (.iconst 1, 1) := dc_4 (gB_l lq_cX4_takeBack (p := 8) (o := 4) rfl)
theorem dX4_takeBack_9 : decode cX4_takeBack 9 = .ok (.isub, 1) := dc_100 (gB_l lq_cX4_takeBack (p := 9) (o := 100) rfl)
theorem dX4_takeBack_10 : decode cX4_takeBack 10 = .ok (.bipush 10, 2) := dc_16 (gB_l lq_cX4_takeBack (p := 10) (o := 16) rfl) (gB_l lq_cX4_takeBack (p := 11) (o := 10) rfl) rfl
theorem dX4_takeBack_12 : decode cX4_takeBack 12 = .ok (.irem, 1) := dc_112 (gB_l lq_cX4_takeBack (p := 12) (o := 112) rfl)
theorem dX4_takeBack_13 : decode cX4_takeBack 13 = .ok (.putfield 22, 3) := dc_181 (gB_l lq_cX4_takeBack (p := 13) (o := 181) rfl) (gB_l lq_cX4_takeBack (p := 14) (o := 0) rfl) (gB_l lq_cX4_takeBack (p := 15) (o := 22) rfl) rfl
theorem dX4_takeBack_16 : decode cX4_takeBack 16 = .ok (.aload_n 0, 1) := dc_42 (gB_l lq_cX4_takeBack (p := 16) (o := 42) rfl)
theorem dX4_takeBack_17 : decode cX4_takeBack 17 = .ok (.dup, 1) := dc_89 (gB_l lq_cX4_takeBack (p := 17) (o := 89) rfl)
theorem dX4_takeBack_18 : decode cX4_takeBack 18 = .ok (.getfield 30, 3) := dc_180 (gB_l lq_cX4_takeBack (p := 18) (o := 180) rfl) (gB_l lq_cX4_takeBack (p := 19) (o := 0) rfl) (gB_l lq_cX4_takeBack (p := 20) (o := 30) rfl) rfl
theorem dX4_takeBack_21 : decode cX4_takeBack 21 = .ok (.iconst 1, 1) := dc_4 (gB_l lq_cX4_takeBack (p := 21) (o := 4) rfl)
theorem dX4_takeBack_22 : decode cX4_takeBack 22 = .ok (.isub, 1) := dc_100 (gB_l lq_cX4_takeBack (p := 22) (o := 100) rfl)
theorem dX4_takeBack_23 : decode cX4_takeBack 23 = .ok (.putfield 30, 3) := dc_181 (gB_l lq_cX4_takeBack (p := 23) (o := 181) rfl) (gB_l lq_cX4_takeBack (p := 24) (o := 0) rfl) (gB_l lq_cX4_takeBack (p := 25) (o := 30) rfl) rfl
theorem dX4_takeBack_26 : decode cX4_takeBack 26 = .ok (.aload_n 1, 1) := dc_43 (gB_l lq_cX4_takeBack (p := 26) (o := 43) rfl)
theorem dX4_takeBack_27 : decode cX4_takeBack 27 = .ok (.aload_n 0, 1) := dc_42 (gB_l lq_cX4_takeBack (p := 27) (o := 42) rfl)
theorem dX4_takeBack_28 : decode cX4_takeBack 28 = .ok (.getfield 9, 3) := dc_180 (gB_l lq_cX4_takeBack (p := 28) (o := 180) rfl) (gB_l lq_cX4_takeBack (p := 29) (o := 0) rfl) (gB_l lq_cX4_takeBack (p := 30) (o := 9) rfl) rfl
theorem dX4_takeBack_31 : decode cX4_takeBack 31 = .ok (.aload_n 0, 1) := dc_42 (gB_l lq_cX4_takeBack (p := 31) (o := 42) rfl)
theorem dX4_takeBack_32 : decode cX4_takeBack 32 = .ok (.getfield 22, 3) := dc_180 (gB_c lq_cX4_takeBack q1_cX4_takeBack 0 (o := 180) rfl) (gB_c lq_cX4_takeBack q1_cX4_takeBack 1 (o := 0) rfl) (gB_c lq_cX4_takeBack q1_cX4_takeBack 2 (o := 22) rfl) rfl
theorem dX4_takeBack_35 : decode cX4_takeBack 35 = .ok (.iaload, 1) := dc_46 (gB_c lq_cX4_takeBack q1_cX4_takeBack 3 (o := 46) rfl)
theorem dX4_takeBack_36 : decode cX4_takeBack 36 = .ok (.aaload, 1) := dc_50 (gB_c lq_cX4_takeBack q1_cX4_takeBack 4 (o := 50) rfl)
theorem dX4_takeBack_37 : decode cX4_takeBack 37 = .ok (.aload_n 0, 1) := dc_42 (gB_c lq_cX4_takeBack q1_cX4_takeBack 5 (o := 42) rfl)
theorem dX4_takeBack_38 : decode cX4_takeBack 38 = .ok (.getfield 17, 3) := dc_180 (gB_c lq_cX4_takeBack q1_cX4_takeBack 6 (o := 180) rfl) (gB_c lq_cX4_takeBack q1_cX4_takeBack 7 (o := 0) rfl) (gB_c lq_cX4_takeBack q1_cX4_takeBack 8 (o := 17) rfl) rfl
theorem dX4_takeBack_41 : decode cX4_takeBack 41 = .ok (.aload_n 0, 1) := dc_42 (gB_c lq_cX4_takeBack q1_cX4_takeBack 9 (o := 42) rfl)
theorem dX4_takeBack_42 : decode cX4_takeBack 42 = .ok (.getfield 22, 3) := dc_180 (gB_c lq_cX4_takeBack q1_cX4_takeBack 10 (o := 180) rfl) (gB_c lq_cX4_takeBack q1_cX4_takeBack 11 (o := 0) rfl) (gB_c lq_cX4_takeBack q1_cX4_takeBack 12 (o := 22) rfl) rfl
theorem dX4_takeBack_45 : decode cX4_takeBack 45 = .ok (.aaload, 1) := dc_50 (gB_c lq_cX4_takeBack q1_cX4_takeBack 13 (o := 50) rfl)
theorem dX4_takeBack_46 : decode cX4_takeBack 46 = .ok (.invokevirtual 26, 3) := dc_182 (gB_c lq_cX4_takeBack q1_cX4_takeBack 14 (o := 182) rfl) (gB_c lq_cX4_takeBack q1_cX4_takeBack 15 (o := 0) rfl) (gB_c lq_cX4_takeBack q1_cX4_takeBack 16 (o := 26) rfl) rfl
theorem dX4_takeBack_49 : decode cX4_takeBack 49 = .ok (.return_, 1) := dc_177 (gB_c lq_cX4_takeBack q1_cX4_takeBack 17 (o := 177) rfl)
abbrev r0_cX5_aheadOf : List Nat := [3, 61, 3, 62, 29, 27, 162, 0, 20, 28, 4, 42, 180, 0, 15, 29, 46, 120, 128, 61, 132, 3, 1, 167, 255, 237, 28, 172]
theorem lq_cX5_aheadOf : (cX5_aheadOf).data.toList.map UInt8.toNat = r0_cX5_aheadOf := by decide +kernel
theorem dX5_aheadOf_0 : decode cX5_aheadOf 0 = .ok (.iconst 0, 1) := dc_3 (gB_l lq_cX5_aheadOf (p := 0) (o := 3) rfl)
theorem dX5_aheadOf_1 : decode cX5_aheadOf 1 = .ok (.istore_n 2, 1) := dc_61 (gB_l lq_cX5_aheadOf (p := 1) (o := 61) rfl)
theorem dX5_aheadOf_2 : decode cX5_aheadOf 2 = .ok (.iconst 0, 1) := dc_3 (gB_l lq_cX5_aheadOf (p := 2) (o := 3) rfl)
theorem dX5_aheadOf_3 : decode cX5_aheadOf 3 = .ok (.istore_n 3, 1) := dc_62 (gB_l lq_cX5_aheadOf (p := 3) (o := 62) rfl)
theorem dX5_aheadOf_4 : decode cX5_aheadOf 4 = .ok (.iload_n 3, 1) := dc_29 (gB_l lq_cX5_aheadOf (p := 4) (o := 29) rfl)
theorem dX5_aheadOf_5 : decode cX5_aheadOf 5 = .ok (.iload_n 1, 1) := dc_27 (gB_l lq_cX5_aheadOf (p := 5) (o := 27) rfl)
theorem dX5_aheadOf_6 : decode cX5_aheadOf 6 = .ok (.if_icmp .ge 20, 3) := dc_162 (gB_l lq_cX5_aheadOf (p := 6) (o := 162) rfl) (gB_l lq_cX5_aheadOf (p := 7) (o := 0) rfl) (gB_l lq_cX5_aheadOf (p := 8) (o := 20) rfl) rfl
theorem dX5_aheadOf_9 : decode cX5_aheadOf 9 = .ok (.iload_n 2, 1) := dc_28 (gB_l lq_cX5_aheadOf (p := 9) (o := 28) rfl)
theorem dX5_aheadOf_10 : decode cX5_aheadOf 10 = .ok (.iconst 1, 1) := dc_4 (gB_l lq_cX5_aheadOf (p := 10) (o := 4) rfl)
theorem dX5_aheadOf_11 : decode cX5_aheadOf 11 = .ok (.aload_n 0, 1) := dc_42 (gB_l lq_cX5_aheadOf (p := 11) (o := 42) rfl)
theorem dX5_aheadOf_12 : decode cX5_aheadOf 12 = .ok (.getfield 15, 3) := dc_180 (gB_l lq_cX5_aheadOf (p := 12) (o := 180) rfl) (gB_l lq_cX5_aheadOf (p := 13) (o := 0) rfl) (gB_l lq_cX5_aheadOf (p := 14) (o := 15) rfl) rfl
theorem dX5_aheadOf_15 : decode cX5_aheadOf 15 = .ok (.iload_n 3, 1) := dc_29 (gB_l lq_cX5_aheadOf (p := 15) (o := 29) rfl)
theorem dX5_aheadOf_16 : decode cX5_aheadOf 16 = .ok (.iaload, 1) := dc_46 (gB_l lq_cX5_aheadOf (p := 16) (o := 46) rfl)
theorem dX5_aheadOf_17 : decode cX5_aheadOf 17 = .ok (.ishl, 1) := dc_120 (gB_l lq_cX5_aheadOf (p := 17) (o := 120) rfl)
theorem dX5_aheadOf_18 : decode cX5_aheadOf 18 = .ok (.ior, 1) := dc_128 (gB_l lq_cX5_aheadOf (p := 18) (o := 128) rfl)
theorem dX5_aheadOf_19 : decode cX5_aheadOf 19 = .ok (.istore_n 2, 1) := dc_61 (gB_l lq_cX5_aheadOf (p := 19) (o := 61) rfl)
theorem dX5_aheadOf_20 : decode cX5_aheadOf 20 = .ok (.iinc 3 1, 3) := dc_132 (gB_l lq_cX5_aheadOf (p := 20) (o := 132) rfl) (gB_l lq_cX5_aheadOf (p := 21) (o := 3) rfl) (gB_l lq_cX5_aheadOf (p := 22) (o := 1) rfl) rfl
theorem dX5_aheadOf_23 : decode cX5_aheadOf 23 = .ok (.goto (-19), 3) := dc_167 (gB_l lq_cX5_aheadOf (p := 23) (o := 167) rfl) (gB_l lq_cX5_aheadOf (p := 24) (o := 255) rfl) (gB_l lq_cX5_aheadOf (p := 25) (o := 237) rfl) rfl
theorem dX5_aheadOf_26 : decode cX5_aheadOf 26 = .ok (.iload_n 2, 1) := dc_28 (gB_l lq_cX5_aheadOf (p := 26) (o := 28) rfl)
theorem dX5_aheadOf_27 : decode cX5_aheadOf 27 = .ok (.ireturn, 1) := dc_172 (gB_l lq_cX5_aheadOf (p := 27) (o := 172) rfl)
abbrev r0_cX5_allBits : List Nat := [4, 42, 180, 0, 21, 120, 4, 100, 172]
theorem lq_cX5_allBits : (cX5_allBits).data.toList.map UInt8.toNat = r0_cX5_allBits := by decide +kernel
theorem dX5_allBits_0 : decode cX5_allBits 0 = .ok (.iconst 1, 1) := dc_4 (gB_l lq_cX5_allBits (p := 0) (o := 4) rfl)
theorem dX5_allBits_1 : decode cX5_allBits 1 = .ok (.aload_n 0, 1) := dc_42 (gB_l lq_cX5_allBits (p := 1) (o := 42) rfl)
theorem dX5_allBits_2 : decode cX5_allBits 2 = .ok (.getfield 21, 3) := dc_180 (gB_l lq_cX5_allBits (p := 2) (o := 180) rfl) (gB_l lq_cX5_allBits (p := 3) (o := 0) rfl) (gB_l lq_cX5_allBits (p := 4) (o := 21) rfl) rfl
theorem dX5_allBits_5 : decode cX5_allBits 5 = .ok (.ishl, 1) := dc_120 (gB_l lq_cX5_allBits (p := 5) (o := 120) rfl)
theorem dX5_allBits_6 : decode cX5_allBits 6 = .ok (.iconst 1, 1) := dc_4 (gB_l lq_cX5_allBits (p := 6) (o := 4) rfl)
theorem dX5_allBits_7 : decode cX5_allBits 7 = .ok (.isub, 1) := dc_100 (gB_l lq_cX5_allBits (p := 7) (o := 100) rfl)
theorem dX5_allBits_8 : decode cX5_allBits 8 = .ok (.ireturn, 1) := dc_172 (gB_l lq_cX5_allBits (p := 8) (o := 172) rfl)
abbrev r1_cX5_begin : List Nat := [0, 16, 42, 180, 0, 15, 28, 28, 79, 132, 2, 1, 167, 255, 240, 177]
def a0_cX5_begin : List Nat := [42, 27, 181, 0, 21, 42, 3, 181, 0, 25, 42, 180, 0, 9, 3, 184, 0, 28, 42, 180, 0, 18, 3, 184, 0, 28, 3, 61, 28, 16, 9, 162]
abbrev r0_cX5_begin : List Nat := a0_cX5_begin ++ r1_cX5_begin
theorem lq_cX5_begin : (cX5_begin).data.toList.map UInt8.toNat = r0_cX5_begin := by decide +kernel
theorem q1_cX5_begin : ∀ i, (r0_cX5_begin)[32 + i]? = (r1_cX5_begin)[i]? := chn (A := a0_cX5_begin) (B := r1_cX5_begin) (n := 0) (k := 32) rfl (ch0 (R := r0_cX5_begin))
theorem dX5_begin_0 : decode cX5_begin 0 = .ok (.aload_n 0, 1) := dc_42 (gB_l lq_cX5_begin (p := 0) (o := 42) rfl)
theorem dX5_begin_1 : decode cX5_begin 1 = .ok (.iload_n 1, 1) := dc_27 (gB_l lq_cX5_begin (p := 1) (o := 27) rfl)
theorem dX5_begin_2 : decode cX5_begin 2 = .ok (.putfield 21, 3) := dc_181 (gB_l lq_cX5_begin (p := 2) (o := 181) rfl) (gB_l lq_cX5_begin (p := 3) (o := 0) rfl) (gB_l lq_cX5_begin (p := 4) (o := 21) rfl) rfl
theorem dX5_begin_5 : decode cX5_begin 5 = .ok (.aload_n 0, 1) := dc_42 (gB_l lq_cX5_begin (p := 5) (o := 42) rfl)
theorem dX5_begin_6 : decode cX5_begin 6 = .ok (.iconst 0, 1) := dc_3 (gB_l lq_cX5_begin (p := 6) (o := 3) rfl)
theorem dX5_begin_7 : decode cX5_begin 7 = .ok (.putfield 25, 3) := dc_181 (gB_l lq_cX5_begin (p := 7) (o := 181) rfl) (gB_l lq_cX5_begin (p := 8) (o := 0) rfl) (gB_l lq_cX5_begin (p := 9) (o := 25) rfl) rfl
theorem dX5_begin_10 : decode cX5_begin 10 = .ok (.aload_n 0, 1) := dc_42 (gB_l lq_cX5_begin (p := 10) (o := 42) rfl)
theorem dX5_begin_11 : decode cX5_begin 11 = .ok (.getfield 9, 3) := dc_180 (gB_l lq_cX5_begin (p := 11) (o := 180) rfl) (gB_l lq_cX5_begin (p := 12) (o := 0) rfl) (gB_l lq_cX5_begin (p := 13) (o := 9) rfl) rfl
theorem dX5_begin_14 : decode cX5_begin 14 = .ok (.iconst 0, 1) := dc_3 (gB_l lq_cX5_begin (p := 14) (o := 3) rfl)
theorem dX5_begin_15 : decode cX5_begin 15 = .ok (.invokestatic 28, 3) := dc_184 (gB_l lq_cX5_begin (p := 15) (o := 184) rfl) (gB_l lq_cX5_begin (p := 16) (o := 0) rfl) (gB_l lq_cX5_begin (p := 17) (o := 28) rfl) rfl
theorem dX5_begin_18 : decode cX5_begin 18 = .ok (.aload_n 0, 1) := dc_42 (gB_l lq_cX5_begin (p := 18) (o := 42) rfl)
theorem dX5_begin_19 : decode cX5_begin 19 = .ok (.getfield 18, 3) := dc_180 (gB_l lq_cX5_begin (p := 19) (o := 180) rfl) (gB_l lq_cX5_begin (p := 20) (o := 0) rfl) (gB_l lq_cX5_begin (p := 21) (o := 18) rfl) rfl
theorem dX5_begin_22 : decode cX5_begin 22 = .ok (.iconst 0, 1) := dc_3 (gB_l lq_cX5_begin (p := 22) (o := 3) rfl)
theorem dX5_begin_23 : decode cX5_begin 23 = .ok (.invokestatic 28, 3) := dc_184 (gB_l lq_cX5_begin (p := 23) (o := 184) rfl) (gB_l lq_cX5_begin (p := 24) (o := 0) rfl) (gB_l lq_cX5_begin (p := 25) (o := 28) rfl) rfl
theorem dX5_begin_26 : decode cX5_begin 26 = .ok (.iconst 0, 1) := dc_3 (gB_l lq_cX5_begin (p := 26) (o := 3) rfl)
theorem dX5_begin_27 : decode cX5_begin 27 = .ok (.istore_n 2, 1) := dc_61 (gB_l lq_cX5_begin (p := 27) (o := 61) rfl)
theorem dX5_begin_28 : decode cX5_begin 28 = .ok (.iload_n 2, 1) := dc_28 (gB_l lq_cX5_begin (p := 28) (o := 28) rfl)
theorem dX5_begin_29 : decode cX5_begin 29 = .ok (.bipush 9, 2) := dc_16 (gB_l lq_cX5_begin (p := 29) (o := 16) rfl) (gB_l lq_cX5_begin (p := 30) (o := 9) rfl) rfl
theorem dX5_begin_31 : decode cX5_begin 31 = .ok (.if_icmp .ge 16, 3) := dc_162 (gB_l lq_cX5_begin (p := 31) (o := 162) rfl) (gB_c lq_cX5_begin q1_cX5_begin 0 (o := 0) rfl) (gB_c lq_cX5_begin q1_cX5_begin 1 (o := 16) rfl) rfl
theorem dX5_begin_34 : decode cX5_begin 34 = .ok (.aload_n 0, 1) := dc_42 (gB_c lq_cX5_begin q1_cX5_begin 2 (o := 42) rfl)
theorem dX5_begin_35 : decode cX5_begin 35 = .ok (.getfield 15, 3) := dc_180 (gB_c lq_cX5_begin q1_cX5_begin 3 (o := 180) rfl) (gB_c lq_cX5_begin q1_cX5_begin 4 (o := 0) rfl) (gB_c lq_cX5_begin q1_cX5_begin 5 (o := 15) rfl) rfl
theorem dX5_begin_38 : decode cX5_begin 38 = .ok (.iload_n 2, 1) := dc_28 (gB_c lq_cX5_begin q1_cX5_begin 6 (o := 28) rfl)
theorem dX5_begin_39 : decode cX5_begin 39 = .ok (.iload_n 2, 1) := dc_28 (gB_c lq_cX5_begin q1_cX5_begin 7 (o := 28) rfl)
theorem dX5_begin_40 : decode cX5_begin 40 = .ok (.iastore, 1) := dc_79 (gB_c lq_cX5_begin q1_cX5_begin 8 (o := 79) rfl)
theorem dX5_begin_41 : decode cX5_begin 41 = .ok (.iinc 2 1, 3) := dc_132 (gB_c lq_cX5_begin q1_cX5_begin 9 (o := 132) rfl) (gB_c lq_cX5_begin q1_cX5_begin 10 (o := 2) rfl) (gB_c lq_cX5_begin q1_cX5_begin 11 (o := 1) rfl) rfl
theorem dX5_begin_44 : decode cX5_begin 44 = .ok (.goto (-16), 3) := dc_167 (gB_c lq_cX5_begin q1_cX5_begin 12 (o := 167) rfl) (gB_c lq_cX5_begin q1_cX5_begin 13 (o := 255) rfl) (gB_c lq_cX5_begin q1_cX5_begin 14 (o := 240) rfl) rfl
theorem dX5_begin_47 : decode cX5_begin 47 = .ok (.return_, 1) := dc_177 (gB_c lq_cX5_begin q1_cX5_begin 15 (o := 177) rfl)
abbrev r0_cX5_changeOver : List Nat := [42, 180, 0, 15, 27, 46, 62, 42, 180, 0, 15, 27, 42, 180, 0, 15, 28, 46, 79, 42, 180, 0, 15, 28, 29, 79, 177]
theorem lq_cX5_changeOver : (cX5_changeOver).data.toList.map UInt8.toNat = r0_cX5_changeOver := by decide +kernel
theorem dX5_changeOver_0 : decode cX5_changeOver 0 = .ok (.aload_n 0, 1) := dc_42 (gB_l lq_cX5_changeOver (p := 0) (o := 42) rfl)
theorem dX5_changeOver_1 : decode cX5_changeOver 1 = .ok (.getfield 15, 3) := dc_180 (gB_l lq_cX5_changeOver (p := 1) (o := 180) rfl) (gB_l lq_cX5_changeOver (p := 2) (o := 0) rfl) (gB_l lq_cX5_changeOver (p := 3) (o := 15) rfl) rfl
theorem dX5_changeOver_4 : decode cX5_changeOver 4 = .ok (.iload_n 1, 1) := dc_27 (gB_l lq_cX5_changeOver (p := 4) (o := 27) rfl)
theorem dX5_changeOver_5 : decode cX5_changeOver 5 = .ok (.iaload, 1) := dc_46 (gB_l lq_cX5_changeOver (p := 5) (o := 46) rfl)
theorem dX5_changeOver_6 : decode cX5_changeOver 6 = .ok (.istore_n 3, 1) := dc_62 (gB_l lq_cX5_changeOver (p := 6) (o := 62) rfl)
theorem dX5_changeOver_7 : decode cX5_changeOver 7 = .ok (.aload_n 0, 1) := dc_42 (gB_l lq_cX5_changeOver (p := 7) (o := 42) rfl)
theorem dX5_changeOver_8 : decode cX5_changeOver 8 = .ok (.getfield 15, 3) := dc_180 (gB_l lq_cX5_changeOver (p := 8) (o := 180) rfl) (gB_l lq_cX5_changeOver (p := 9) (o := 0) rfl) (gB_l lq_cX5_changeOver (p := 10) (o := 15) rfl) rfl
theorem dX5_changeOver_11 : decode cX5_changeOver 11 = .ok (.iload_n 1, 1) := dc_27 (gB_l lq_cX5_changeOver (p := 11) (o := 27) rfl)
theorem dX5_changeOver_12 : decode cX5_changeOver 12 = .ok (.aload_n 0, 1) := dc_42 (gB_l lq_cX5_changeOver (p := 12) (o := 42) rfl)
theorem dX5_changeOver_13 : decode cX5_changeOver 13 = .ok (.getfield 15, 3) := dc_180 (gB_l lq_cX5_changeOver (p := 13) (o := 180) rfl) (gB_l lq_cX5_changeOver (p := 14) (o := 0) rfl) (gB_l lq_cX5_changeOver (p := 15) (o := 15) rfl) rfl
theorem dX5_changeOver_16 : decode cX5_changeOver 16 = .ok (.iload_n 2, 1) := dc_28 (gB_l lq_cX5_changeOver (p := 16) (o := 28) rfl)
theorem dX5_changeOver_17 : decode cX5_changeOver 17 = .ok (.iaload, 1) := dc_46 (gB_l lq_cX5_changeOver (p := 17) (o := 46) rfl)
theorem dX5_changeOver_18 : decode cX5_changeOver 18 = .ok (.iastore, 1) := dc_79 (gB_l lq_cX5_changeOver (p := 18) (o := 79) rfl)
theorem dX5_changeOver_19 : decode cX5_changeOver 19 = .ok (.aload_n 0, 1) := dc_42 (gB_l lq_cX5_changeOver (p := 19) (o := 42) rfl)
theorem dX5_changeOver_20 : decode cX5_changeOver 20 = .ok (.getfield 15, 3) := dc_180 (gB_l lq_cX5_changeOver (p := 20) (o := 180) rfl) (gB_l lq_cX5_changeOver (p := 21) (o := 0) rfl) (gB_l lq_cX5_changeOver (p := 22) (o := 15) rfl) rfl
theorem dX5_changeOver_23 : decode cX5_changeOver 23 = .ok (.iload_n 2, 1) := dc_28 (gB_l lq_cX5_changeOver (p := 23) (o := 28) rfl)
theorem dX5_changeOver_24 : decode cX5_changeOver 24 = .ok (.iload_n 3, 1) := dc_29 (gB_l lq_cX5_changeOver (p := 24) (o := 29) rfl)
theorem dX5_changeOver_25 : decode cX5_changeOver 25 = .ok (.iastore, 1) := dc_79 (gB_l lq_cX5_changeOver (p := 25) (o := 79) rfl)
theorem dX5_changeOver_26 : decode cX5_changeOver 26 = .ok (.return_, 1) := dc_177 (gB_l lq_cX5_changeOver (p := 26) (o := 177) rfl)
abbrev r1_cX5_copyFrom : List Nat := [180, 0, 15, 3, 42, 180, 0, 15, 3, 16, 9, 184, 0, 34, 43, 180, 0, 18, 3, 42, 180, 0, 18, 3, 16, 81, 184, 0, 34, 177]
def a0_cX5_copyFrom : List Nat := [42, 43, 180, 0, 21, 181, 0, 21, 42, 43, 180, 0, 25, 181, 0, 25, 43, 180, 0, 9, 3, 42, 180, 0, 9, 3, 16, 9, 184, 0, 34, 43]
abbrev r0_cX5_copyFrom : List Nat := a0_cX5_copyFrom ++ r1_cX5_copyFrom
theorem lq_cX5_copyFrom : (cX5_copyFrom).data.toList.map UInt8.toNat = r0_cX5_copyFrom := by decide +kernel
theorem q1_cX5_copyFrom : ∀ i, (r0_cX5_copyFrom)[32 + i]? = (r1_cX5_copyFrom)[i]? := chn (A := a0_cX5_copyFrom) (B := r1_cX5_copyFrom) (n := 0) (k := 32) rfl (ch0 (R := r0_cX5_copyFrom))
theorem dX5_copyFrom_0 : decode cX5_copyFrom 0 = .ok (.aload_n 0, 1) := dc_42 (gB_l lq_cX5_copyFrom (p := 0) (o := 42) rfl)
theorem dX5_copyFrom_1 : decode cX5_copyFrom 1 = .ok (.aload_n 1, 1) := dc_43 (gB_l lq_cX5_copyFrom (p := 1) (o := 43) rfl)
theorem dX5_copyFrom_2 : decode cX5_copyFrom 2 = .ok (.getfield 21, 3) := dc_180 (gB_l lq_cX5_copyFrom (p := 2) (o := 180) rfl) (gB_l lq_cX5_copyFrom (p := 3) (o := 0) rfl) (gB_l lq_cX5_copyFrom (p := 4) (o := 21) rfl) rfl
theorem dX5_copyFrom_5 : decode cX5_copyFrom 5 = .ok (.putfield 21, 3) := dc_181 (gB_l lq_cX5_copyFrom (p := 5) (o := 181) rfl) (gB_l lq_cX5_copyFrom (p := 6) (o := 0) rfl) (gB_l lq_cX5_copyFrom (p := 7) (o := 21) rfl) rfl
theorem dX5_copyFrom_8 : decode cX5_copyFrom 8 = .ok (.aload_n 0, 1) := dc_42 (gB_l lq_cX5_copyFrom (p := 8) (o := 42) rfl)
theorem dX5_copyFrom_9 : decode cX5_copyFrom 9 = .ok (.aload_n 1, 1) := dc_43 (gB_l lq_cX5_copyFrom (p := 9) (o := 43) rfl)
theorem dX5_copyFrom_10 : decode cX5_copyFrom 10 = .ok (.getfield 25, 3) := dc_180 (gB_l lq_cX5_copyFrom (p := 10) (o := 180) rfl) (gB_l lq_cX5_copyFrom (p := 11) (o := 0) rfl) (gB_l lq_cX5_copyFrom (p := 12) (o := 25) rfl) rfl
theorem dX5_copyFrom_13 : decode cX5_copyFrom 13 = .ok (.putfield 25, 3) := dc_181 (gB_l lq_cX5_copyFrom (p := 13) (o := 181) rfl) (gB_l lq_cX5_copyFrom (p := 14) (o := 0) rfl) (gB_l lq_cX5_copyFrom (p := 15) (o := 25) rfl) rfl
theorem dX5_copyFrom_16 : decode cX5_copyFrom 16 = .ok (.aload_n 1, 1) := dc_43 (gB_l lq_cX5_copyFrom (p := 16) (o := 43) rfl)
theorem dX5_copyFrom_17 : decode cX5_copyFrom 17 = .ok (.getfield 9, 3) := dc_180 (gB_l lq_cX5_copyFrom (p := 17) (o := 180) rfl) (gB_l lq_cX5_copyFrom (p := 18) (o := 0) rfl) (gB_l lq_cX5_copyFrom (p := 19) (o := 9) rfl) rfl
theorem dX5_copyFrom_20 : decode cX5_copyFrom 20 = .ok (.iconst 0, 1) := dc_3 (gB_l lq_cX5_copyFrom (p := 20) (o := 3) rfl)
theorem dX5_copyFrom_21 : decode cX5_copyFrom 21 = .ok (.aload_n 0, 1) := dc_42 (gB_l lq_cX5_copyFrom (p := 21) (o := 42) rfl)
theorem dX5_copyFrom_22 : decode cX5_copyFrom 22 = .ok (.getfield 9, 3) := dc_180 (gB_l lq_cX5_copyFrom (p := 22) (o := 180) rfl) (gB_l lq_cX5_copyFrom (p := 23) (o := 0) rfl) (gB_l lq_cX5_copyFrom (p := 24) (o := 9) rfl) rfl
theorem dX5_copyFrom_25 : decode cX5_copyFrom 25 = .ok (.iconst 0, 1) := dc_3 (gB_l lq_cX5_copyFrom (p := 25) (o := 3) rfl)
theorem dX5_copyFrom_26 : decode cX5_copyFrom 26 = .ok (.bipush 9, 2) := dc_16 (gB_l lq_cX5_copyFrom (p := 26) (o := 16) rfl) (gB_l lq_cX5_copyFrom (p := 27) (o := 9) rfl) rfl
theorem dX5_copyFrom_28 : decode cX5_copyFrom 28 = .ok (.invokestatic 34, 3) := dc_184 (gB_l lq_cX5_copyFrom (p := 28) (o := 184) rfl) (gB_l lq_cX5_copyFrom (p := 29) (o := 0) rfl) (gB_l lq_cX5_copyFrom (p := 30) (o := 34) rfl) rfl
theorem dX5_copyFrom_31 : decode cX5_copyFrom 31 = .ok (.aload_n 1, 1) := dc_43 (gB_l lq_cX5_copyFrom (p := 31) (o := 43) rfl)
theorem dX5_copyFrom_32 : decode cX5_copyFrom 32 = .ok (.getfield 15, 3) := dc_180 (gB_c lq_cX5_copyFrom q1_cX5_copyFrom 0 (o := 180) rfl) (gB_c lq_cX5_copyFrom q1_cX5_copyFrom 1 (o := 0) rfl) (gB_c lq_cX5_copyFrom q1_cX5_copyFrom 2 (o := 15) rfl) rfl
theorem dX5_copyFrom_35 : decode cX5_copyFrom 35 = .ok (.iconst 0, 1) := dc_3 (gB_c lq_cX5_copyFrom q1_cX5_copyFrom 3 (o := 3) rfl)
theorem dX5_copyFrom_36 : decode cX5_copyFrom 36 = .ok (.aload_n 0, 1) := dc_42 (gB_c lq_cX5_copyFrom q1_cX5_copyFrom 4 (o := 42) rfl)
theorem dX5_copyFrom_37 : decode cX5_copyFrom 37 = .ok (.getfield 15, 3) := dc_180 (gB_c lq_cX5_copyFrom q1_cX5_copyFrom 5 (o := 180) rfl) (gB_c lq_cX5_copyFrom q1_cX5_copyFrom 6 (o := 0) rfl) (gB_c lq_cX5_copyFrom q1_cX5_copyFrom 7 (o := 15) rfl) rfl
theorem dX5_copyFrom_40 : decode cX5_copyFrom 40 = .ok (.iconst 0, 1) := dc_3 (gB_c lq_cX5_copyFrom q1_cX5_copyFrom 8 (o := 3) rfl)
theorem dX5_copyFrom_41 : decode cX5_copyFrom 41 = .ok (.bipush 9, 2) := dc_16 (gB_c lq_cX5_copyFrom q1_cX5_copyFrom 9 (o := 16) rfl) (gB_c lq_cX5_copyFrom q1_cX5_copyFrom 10 (o := 9) rfl) rfl
theorem dX5_copyFrom_43 : decode cX5_copyFrom 43 = .ok (.invokestatic 34, 3) := dc_184 (gB_c lq_cX5_copyFrom q1_cX5_copyFrom 11 (o := 184) rfl) (gB_c lq_cX5_copyFrom q1_cX5_copyFrom 12 (o := 0) rfl) (gB_c lq_cX5_copyFrom q1_cX5_copyFrom 13 (o := 34) rfl) rfl
theorem dX5_copyFrom_46 : decode cX5_copyFrom 46 = .ok (.aload_n 1, 1) := dc_43 (gB_c lq_cX5_copyFrom q1_cX5_copyFrom 14 (o := 43) rfl)
theorem dX5_copyFrom_47 : decode cX5_copyFrom 47 = .ok (.getfield 18, 3) := dc_180 (gB_c lq_cX5_copyFrom q1_cX5_copyFrom 15 (o := 180) rfl) (gB_c lq_cX5_copyFrom q1_cX5_copyFrom 16 (o := 0) rfl) (gB_c lq_cX5_copyFrom q1_cX5_copyFrom 17 (o := 18) rfl) rfl
theorem dX5_copyFrom_50 : decode cX5_copyFrom 50 = .ok (.iconst 0, 1) := dc_3 (gB_c lq_cX5_copyFrom q1_cX5_copyFrom 18 (o := 3) rfl)
theorem dX5_copyFrom_51 : decode cX5_copyFrom 51 = .ok (.aload_n 0, 1) := dc_42 (gB_c lq_cX5_copyFrom q1_cX5_copyFrom 19 (o := 42) rfl)
theorem dX5_copyFrom_52 : decode cX5_copyFrom 52 = .ok (.getfield 18, 3) := dc_180 (gB_c lq_cX5_copyFrom q1_cX5_copyFrom 20 (o := 180) rfl) (gB_c lq_cX5_copyFrom q1_cX5_copyFrom 21 (o := 0) rfl) (gB_c lq_cX5_copyFrom q1_cX5_copyFrom 22 (o := 18) rfl) rfl
theorem dX5_copyFrom_55 : decode cX5_copyFrom 55 = .ok (.iconst 0, 1) := dc_3 (gB_c lq_cX5_copyFrom q1_cX5_copyFrom 23 (o := 3) rfl)
theorem dX5_copyFrom_56 : decode cX5_copyFrom 56 = .ok (.bipush 81, 2) := dc_16 (gB_c lq_cX5_copyFrom q1_cX5_copyFrom 24 (o := 16) rfl) (gB_c lq_cX5_copyFrom q1_cX5_copyFrom 25 (o := 81) rfl) rfl
theorem dX5_copyFrom_58 : decode cX5_copyFrom 58 = .ok (.invokestatic 34, 3) := dc_184 (gB_c lq_cX5_copyFrom q1_cX5_copyFrom 26 (o := 184) rfl) (gB_c lq_cX5_copyFrom q1_cX5_copyFrom 27 (o := 0) rfl) (gB_c lq_cX5_copyFrom q1_cX5_copyFrom 28 (o := 34) rfl) rfl
theorem dX5_copyFrom_61 : decode cX5_copyFrom 61 = .ok (.return_, 1) := dc_177 (gB_c lq_cX5_copyFrom q1_cX5_copyFrom 29 (o := 177) rfl)
abbrev r2_cX5_drawTogether : List Nat := [96, 54, 6, 42, 29, 21, 5, 16, 9, 21, 6, 184, 0, 66, 182, 0, 74, 132, 5, 1, 167, 255, 188, 42, 21, 4, 182, 0, 78, 177]
def a1_cX5_drawTogether : List Nat := [5, 21, 4, 159, 0, 46, 42, 21, 4, 21, 5, 182, 0, 40, 158, 0, 35, 42, 29, 21, 5, 182, 0, 40, 42, 21, 4, 21, 5, 182, 0, 40]
abbrev r1_cX5_drawTogether : List Nat := a1_cX5_drawTogether ++ r2_cX5_drawTogether
def a0_cX5_drawTogether : List Nat := [27, 28, 184, 0, 66, 62, 27, 28, 184, 0, 71, 54, 4, 3, 54, 5, 21, 5, 42, 180, 0, 21, 162, 0, 65, 21, 5, 29, 159, 0, 53, 21]
abbrev r0_cX5_drawTogether : List Nat := a0_cX5_drawTogether ++ r1_cX5_drawTogether
theorem lq_cX5_drawTogether : (cX5_drawTogether).data.toList.map UInt8.toNat = r0_cX5_drawTogether := by decide +kernel
theorem q1_cX5_drawTogether : ∀ i, (r0_cX5_drawTogether)[32 + i]? = (r1_cX5_drawTogether)[i]? := chn (A := a0_cX5_drawTogether) (B := r1_cX5_drawTogether) (n := 0) (k := 32) rfl (ch0 (R := r0_cX5_drawTogether))
theorem q2_cX5_drawTogether : ∀ i, (r0_cX5_drawTogether)[64 + i]? = (r2_cX5_drawTogether)[i]? := chn (A := a1_cX5_drawTogether) (B := r2_cX5_drawTogether) (n := 32) (k := 32) rfl q1_cX5_drawTogether
theorem dX5_drawTogether_0 : decode cX5_drawTogether 0 = .ok (.iload_n 1, 1) := dc_27 (gB_l lq_cX5_drawTogether (p := 0) (o := 27) rfl)
theorem dX5_drawTogether_1 : decode cX5_drawTogether 1 = .ok (.iload_n 2, 1) := dc_28 (gB_l lq_cX5_drawTogether (p := 1) (o := 28) rfl)
theorem dX5_drawTogether_2 : decode cX5_drawTogether 2 = .ok (.invokestatic 66, 3) := dc_184 (gB_l lq_cX5_drawTogether (p := 2) (o := 184) rfl) (gB_l lq_cX5_drawTogether (p := 3) (o := 0) rfl) (gB_l lq_cX5_drawTogether (p := 4) (o := 66) rfl) rfl
theorem dX5_drawTogether_5 : decode cX5_drawTogether 5 = .ok (.istore_n 3, 1) := dc_62 (gB_l lq_cX5_drawTogether (p := 5) (o := 62) rfl)
theorem dX5_drawTogether_6 : decode cX5_drawTogether 6 = .ok (.iload_n 1, 1) := dc_27 (gB_l lq_cX5_drawTogether (p := 6) (o := 27) rfl)
theorem dX5_drawTogether_7 : decode cX5_drawTogether 7 = .ok (.iload_n 2, 1) := dc_28 (gB_l lq_cX5_drawTogether (p := 7) (o := 28) rfl)
theorem dX5_drawTogether_8 : decode cX5_drawTogether 8 = .ok (.invokestatic 71, 3) := dc_184 (gB_l lq_cX5_drawTogether (p := 8) (o := 184) rfl) (gB_l lq_cX5_drawTogether (p := 9) (o := 0) rfl) (gB_l lq_cX5_drawTogether (p := 10) (o := 71) rfl) rfl
theorem dX5_drawTogether_11 : decode cX5_drawTogether 11 = .ok (.istore 4, 2) := dc_54 (gB_l lq_cX5_drawTogether (p := 11) (o := 54) rfl) (gB_l lq_cX5_drawTogether (p := 12) (o := 4) rfl)
theorem dX5_drawTogether_13 : decode cX5_drawTogether 13 = .ok (.iconst 0, 1) := dc_3 (gB_l lq_cX5_drawTogether (p := 13) (o := 3) rfl)
theorem dX5_drawTogether_14 : decode cX5_drawTogether 14 = .ok (.istore 5, 2) := dc_54 (gB_l lq_cX5_drawTogether (p := 14) (o := 54) rfl) (gB_l lq_cX5_drawTogether (p := 15) (o := 5) rfl)
theorem dX5_drawTogether_16 : decode cX5_drawTogether 16 = .ok (.iload 5, 2) := dc_21 (gB_l lq_cX5_drawTogether (p := 16) (o := 21) rfl) (gB_l lq_cX5_drawTogether (p := 17) (o := 5) rfl)
theorem dX5_drawTogether_18 : decode cX5_drawTogether 18 = .ok (.aload_n 0, 1) := dc_42 (gB_l lq_cX5_drawTogether (p := 18) (o := 42) rfl)
theorem dX5_drawTogether_19 : decode cX5_drawTogether 19 = .ok (.getfield 21, 3) := dc_180 (gB_l lq_cX5_drawTogether (p := 19) (o := 180) rfl) (gB_l lq_cX5_drawTogether (p := 20) (o := 0) rfl) (gB_l lq_cX5_drawTogether (p := 21) (o := 21) rfl) rfl
theorem dX5_drawTogether_22 : decode cX5_drawTogether 22 = .ok (.if_icmp .ge 65, 3) := dc_162 (gB_l lq_cX5_drawTogether (p := 22) (o := 162) rfl) (gB_l lq_cX5_drawTogether (p := 23) (o := 0) rfl) (gB_l lq_cX5_drawTogether (p := 24) (o := 65) rfl) rfl
theorem dX5_drawTogether_25 : decode cX5_drawTogether 25 = .ok (.iload 5, 2) := dc_21 (gB_l lq_cX5_drawTogether (p := 25) (o := 21) rfl) (gB_l lq_cX5_drawTogether (p := 26) (o := 5) rfl)
theorem dX5_drawTogether_27 : decode cX5_drawTogether 27 = .ok (.iload_n 3, 1) := dc_29 (gB_l lq_cX5_drawTogether (p := 27) (o := 29) rfl)
theorem dX5_drawTogether_28 : decode cX5_drawTogether 28 = .ok (.if_icmp .eq 53, 3) := dc_159 (gB_l lq_cX5_drawTogether (p := 28) (o := 159) rfl) (gB_l lq_cX5_drawTogether (p := 29) (o := 0) rfl) (gB_l lq_cX5_drawTogether (p := 30) (o := 53) rfl) rfl
theorem dX5_drawTogether_31 : decode cX5_drawTogether 31 = .ok (.iload 5, 2) := dc_21 (gB_l lq_cX5_drawTogether (p := 31) (o := 21) rfl) (gB_c lq_cX5_drawTogether q1_cX5_drawTogether 0 (o := 5) rfl)
theorem dX5_drawTogether_33 : decode cX5_drawTogether 33 = .ok (.iload 4, 2) := dc_21 (gB_c lq_cX5_drawTogether q1_cX5_drawTogether 1 (o := 21) rfl) (gB_c lq_cX5_drawTogether q1_cX5_drawTogether 2 (o := 4) rfl)
theorem dX5_drawTogether_35 : decode cX5_drawTogether 35 = .ok (.if_icmp .eq 46, 3) := dc_159 (gB_c lq_cX5_drawTogether q1_cX5_drawTogether 3 (o := 159) rfl) (gB_c lq_cX5_drawTogether q1_cX5_drawTogether 4 (o := 0) rfl) (gB_c lq_cX5_drawTogether q1_cX5_drawTogether 5 (o := 46) rfl) rfl
theorem dX5_drawTogether_38 : decode cX5_drawTogether 38 = .ok (.aload_n 0, 1) := dc_42 (gB_c lq_cX5_drawTogether q1_cX5_drawTogether 6 (o := 42) rfl)
theorem dX5_drawTogether_39 : decode cX5_drawTogether 39 = .ok (.iload 4, 2) := dc_21 (gB_c lq_cX5_drawTogether q1_cX5_drawTogether 7 (o := 21) rfl) (gB_c lq_cX5_drawTogether q1_cX5_drawTogether 8 (o := 4) rfl)
theorem dX5_drawTogether_41 : decode cX5_drawTogether 41 = .ok (.iload 5, 2) := dc_21 (gB_c lq_cX5_drawTogether q1_cX5_drawTogether 9 (o := 21) rfl) (gB_c lq_cX5_drawTogether q1_cX5_drawTogether 10 (o := 5) rfl)
theorem dX5_drawTogether_43 : decode cX5_drawTogether 43 = .ok (.invokevirtual 40, 3) := dc_182 (gB_c lq_cX5_drawTogether q1_cX5_drawTogether 11 (o := 182) rfl) (gB_c lq_cX5_drawTogether q1_cX5_drawTogether 12 (o := 0) rfl) (gB_c lq_cX5_drawTogether q1_cX5_drawTogether 13 (o := 40) rfl) rfl
theorem dX5_drawTogether_46 : decode cX5_drawTogether 46 = .ok (.ifCond .le 35, 3) := dc_158 (gB_c lq_cX5_drawTogether q1_cX5_drawTogether 14 (o := 158) rfl) (gB_c lq_cX5_drawTogether q1_cX5_drawTogether 15 (o := 0) rfl) (gB_c lq_cX5_drawTogether q1_cX5_drawTogether 16 (o := 35) rfl) rfl
theorem dX5_drawTogether_49 : decode cX5_drawTogether 49 = .ok (.aload_n 0, 1) := dc_42 (gB_c lq_cX5_drawTogether q1_cX5_drawTogether 17 (o := 42) rfl)
theorem dX5_drawTogether_50 : decode cX5_drawTogether 50 = .ok (.iload_n 3, 1) := dc_29 (gB_c lq_cX5_drawTogether q1_cX5_drawTogether 18 (o := 29) rfl)
theorem dX5_drawTogether_51 : decode cX5_drawTogether 51 = .ok (.iload 5, 2) := dc_21 (gB_c lq_cX5_drawTogether q1_cX5_drawTogether 19 (o := 21) rfl) (gB_c lq_cX5_drawTogether q1_cX5_drawTogether 20 (o := 5) rfl)
theorem dX5_drawTogether_53 : decode cX5_drawTogether 53 = .ok (.invokevirtual 40, 3) := dc_182 (gB_c lq_cX5_drawTogether q1_cX5_drawTogether 21 (o := 182) rfl) (gB_c lq_cX5_drawTogether q1_cX5_drawTogether 22 (o := 0) rfl) (gB_c lq_cX5_drawTogether q1_cX5_drawTogether 23 (o := 40) rfl) rfl
theorem dX5_drawTogether_56 : decode cX5_drawTogether 56 = .ok (.aload_n 0, 1) := dc_42 (gB_c lq_cX5_drawTogether q1_cX5_drawTogether 24 (o := 42) rfl)
theorem dX5_drawTogether_57 : decode cX5_drawTogether 57 = .ok (.iload 4, 2) := dc_21 (gB_c lq_cX5_drawTogether q1_cX5_drawTogether 25 (o := 21) rfl) (gB_c lq_cX5_drawTogether q1_cX5_drawTogether 26 (o := 4) rfl)
theorem dX5_drawTogether_59 : decode cX5_drawTogether 59 = .ok (.iload 5, 2) := dc_21 (gB_c lq_cX5_drawTogether q1_cX5_drawTogether 27 (o := 21) rfl) (gB_c lq_cX5_drawTogether q1_cX5_drawTogether 28 (o := 5) rfl)
theorem dX5_drawTogether_61 : decode cX5_drawTogether 61 = .ok (.invokevirtual 40, 3) := dc_182 (gB_c lq_cX5_drawTogether q1_cX5_drawTogether 29 (o := 182) rfl) (gB_c lq_cX5_drawTogether q1_cX5_drawTogether 30 (o := 0) rfl) (gB_c lq_cX5_drawTogether q1_cX5_drawTogether 31 (o := 40) rfl) rfl
theorem dX5_drawTogether_64 : decode cX5_drawTogether 64 = .ok (.iadd, 1) := dc_96 (gB_c lq_cX5_drawTogether q2_cX5_drawTogether 0 (o := 96) rfl)
theorem dX5_drawTogether_65 : decode cX5_drawTogether 65 = .ok (.istore 6, 2) := dc_54 (gB_c lq_cX5_drawTogether q2_cX5_drawTogether 1 (o := 54) rfl) (gB_c lq_cX5_drawTogether q2_cX5_drawTogether 2 (o := 6) rfl)
theorem dX5_drawTogether_67 : decode cX5_drawTogether 67 = .ok (.aload_n 0, 1) := dc_42 (gB_c lq_cX5_drawTogether q2_cX5_drawTogether 3 (o := 42) rfl)
theorem dX5_drawTogether_68 : decode cX5_drawTogether 68 = .ok (.iload_n 3, 1) := dc_29 (gB_c lq_cX5_drawTogether q2_cX5_drawTogether 4 (o := 29) rfl)
theorem dX5_drawTogether_69 : decode cX5_drawTogether 69 = .ok (.iload 5, 2) := dc_21 (gB_c lq_cX5_drawTogether q2_cX5_drawTogether 5 (o := 21) rfl) (gB_c lq_cX5_drawTogether q2_cX5_drawTogether 6 (o := 5) rfl)
theorem dX5_drawTogether_71 : decode cX5_drawTogether 71 = .ok (.bipush 9, 2) := dc_16 (gB_c lq_cX5_drawTogether q2_cX5_drawTogether 7 (o := 16) rfl) (gB_c lq_cX5_drawTogether q2_cX5_drawTogether 8 (o := 9) rfl) rfl
theorem dX5_drawTogether_73 : decode cX5_drawTogether 73 = .ok (.iload 6, 2) := dc_21 (gB_c lq_cX5_drawTogether q2_cX5_drawTogether 9 (o := 21) rfl) (gB_c lq_cX5_drawTogether q2_cX5_drawTogether 10 (o := 6) rfl)
theorem dX5_drawTogether_75 : decode cX5_drawTogether 75 = .ok (.invokestatic 66, 3) := dc_184 (gB_c lq_cX5_drawTogether q2_cX5_drawTogether 11 (o := 184) rfl) (gB_c lq_cX5_drawTogether q2_cX5_drawTogether 12 (o := 0) rfl) (gB_c lq_cX5_drawTogether q2_cX5_drawTogether 13 (o := 66) rfl) rfl
theorem dX5_drawTogether_78 : decode cX5_drawTogether 78 = .ok (.invokevirtual 74, 3) := dc_182 (gB_c lq_cX5_drawTogether q2_cX5_drawTogether 14 (o := 182) rfl) (gB_c lq_cX5_drawTogether q2_cX5_drawTogether 15 (o := 0) rfl) (gB_c lq_cX5_drawTogether q2_cX5_drawTogether 16 (o := 74) rfl) rfl
theorem dX5_drawTogether_81 : decode cX5_drawTogether 81 = .ok (.iinc 5 1, 3) := dc_132 (gB_c lq_cX5_drawTogether q2_cX5_drawTogether 17 (o := 132) rfl) (gB_c lq_cX5_drawTogether q2_cX5_drawTogether 18 (o := 5) rfl) (gB_c lq_cX5_drawTogether q2_cX5_drawTogether 19 (o := 1) rfl) rfl
theorem dX5_drawTogether_84 : decode cX5_drawTogether 84 = .ok (.goto (-68), 3) := dc_167 (gB_c lq_cX5_drawTogether q2_cX5_drawTogether 20 (o := 167) rfl) (gB_c lq_cX5_drawTogether q2_cX5_drawTogether 21 (o := 255) rfl) (gB_c lq_cX5_drawTogether q2_cX5_drawTogether 22 (o := 188) rfl) rfl
theorem dX5_drawTogether_87 : decode cX5_drawTogether 87 = .ok (.aload_n 0, 1) := dc_42 (gB_c lq_cX5_drawTogether q2_cX5_drawTogether 23 (o := 42) rfl)
theorem dX5_drawTogether_88 : decode cX5_drawTogether 88 = .ok (.iload 4, 2) := dc_21 (gB_c lq_cX5_drawTogether q2_cX5_drawTogether 24 (o := 21) rfl) (gB_c lq_cX5_drawTogether q2_cX5_drawTogether 25 (o := 4) rfl)
theorem dX5_drawTogether_90 : decode cX5_drawTogether 90 = .ok (.invokevirtual 78, 3) := dc_182 (gB_c lq_cX5_drawTogether q2_cX5_drawTogether 26 (o := 182) rfl) (gB_c lq_cX5_drawTogether q2_cX5_drawTogether 27 (o := 0) rfl) (gB_c lq_cX5_drawTogether q2_cX5_drawTogether 28 (o := 78) rfl) rfl
theorem dX5_drawTogether_93 : decode cX5_drawTogether 93 = .ok (.return_, 1) := dc_177 (gB_c lq_cX5_drawTogether q2_cX5_drawTogether 29 (o := 177) rfl)
abbrev r0_cX5_has : List Nat := [27, 155, 0, 15, 27, 42, 180, 0, 21, 162, 0, 7, 4, 167, 0, 4, 3, 172]
theorem lq_cX5_has : (cX5_has).data.toList.map UInt8.toNat = r0_cX5_has := by decide +kernel
theorem dX5_has_0 : decode cX5_has 0 = .ok (.iload_n 1, 1) := dc_27 (gB_l lq_cX5_has (p := 0) (o := 27) rfl)
theorem dX5_has_1 : decode cX5_has 1 = .ok (.ifCond .lt 15, 3) := dc_155 (gB_l lq_cX5_has (p := 1) (o := 155) rfl) (gB_l lq_cX5_has (p := 2) (o := 0) rfl) (gB_l lq_cX5_has (p := 3) (o := 15) rfl) rfl
theorem dX5_has_4 : decode cX5_has 4 = .ok (.iload_n 1, 1) := dc_27 (gB_l lq_cX5_has (p := 4) (o := 27) rfl)
theorem dX5_has_5 : decode cX5_has 5 = .ok (.aload_n 0, 1) := dc_42 (gB_l lq_cX5_has (p := 5) (o := 42) rfl)
theorem dX5_has_6 : decode cX5_has 6 = .ok (.getfield 21, 3) := dc_180 (gB_l lq_cX5_has (p := 6) (o := 180) rfl) (gB_l lq_cX5_has (p := 7) (o := 0) rfl) (gB_l lq_cX5_has (p := 8) (o := 21) rfl) rfl
theorem dX5_has_9 : decode cX5_has 9 = .ok (.if_icmp .ge 7, 3) := dc_162 (gB_l lq_cX5_has (p := 9) (o := 162) rfl) (gB_l lq_cX5_has (p := 10) (o := 0) rfl) (gB_l lq_cX5_has (p := 11) (o := 7) rfl) rfl
theorem dX5_has_12 : decode cX5_has 12 = .ok (.iconst 1, 1) := dc_4 (gB_l lq_cX5_has (p := 12) (o := 4) rfl)
theorem dX5_has_13 : decode cX5_has 13 = .ok (.goto 4, 3) := dc_167 (gB_l lq_cX5_has (p := 13) (o := 167) rfl) (gB_l lq_cX5_has (p := 14) (o := 0) rfl) (gB_l lq_cX5_has (p := 15) (o := 4) rfl) rfl
theorem dX5_has_16 : decode cX5_has 16 = .ok (.iconst 0, 1) := dc_3 (gB_l lq_cX5_has (p := 16) (o := 3) rfl)
theorem dX5_has_17 : decode cX5_has 17 = .ok (.ireturn, 1) := dc_172 (gB_l lq_cX5_has (p := 17) (o := 172) rfl)
abbrev r0_cX5_hasTwo : List Nat := [42, 27, 182, 0, 52, 153, 0, 20, 42, 28, 182, 0, 52, 153, 0, 12, 27, 28, 159, 0, 7, 4, 167, 0, 4, 3, 172]
theorem lq_cX5_hasTwo : (cX5_hasTwo).data.toList.map UInt8.toNat = r0_cX5_hasTwo := by decide +kernel
theorem dX5_hasTwo_0 : decode cX5_hasTwo 0 = .ok (.aload_n 0, 1) := dc_42 (gB_l lq_cX5_hasTwo (p := 0) (o := 42) rfl)
theorem dX5_hasTwo_1 : decode cX5_hasTwo 1 = .ok (.iload_n 1, 1) := dc_27 (gB_l lq_cX5_hasTwo (p := 1) (o := 27) rfl)
theorem dX5_hasTwo_2 : decode cX5_hasTwo 2 = .ok (.invokevirtual 52, 3) := dc_182 (gB_l lq_cX5_hasTwo (p := 2) (o := 182) rfl) (gB_l lq_cX5_hasTwo (p := 3) (o := 0) rfl) (gB_l lq_cX5_hasTwo (p := 4) (o := 52) rfl) rfl
theorem dX5_hasTwo_5 : decode cX5_hasTwo 5 = .ok (.ifCond .eq 20, 3) := dc_153 (gB_l lq_cX5_hasTwo (p := 5) (o := 153) rfl) (gB_l lq_cX5_hasTwo (p := 6) (o := 0) rfl) (gB_l lq_cX5_hasTwo (p := 7) (o := 20) rfl) rfl
theorem dX5_hasTwo_8 : decode cX5_hasTwo 8 = .ok (.aload_n 0, 1) := dc_42 (gB_l lq_cX5_hasTwo (p := 8) (o := 42) rfl)
theorem dX5_hasTwo_9 : decode cX5_hasTwo 9 = .ok (.iload_n 2, 1) := dc_28 (gB_l lq_cX5_hasTwo (p := 9) (o := 28) rfl)
theorem dX5_hasTwo_10 : decode cX5_hasTwo 10 = .ok (.invokevirtual 52, 3) := dc_182 (gB_l lq_cX5_hasTwo (p := 10) (o := 182) rfl) (gB_l lq_cX5_hasTwo (p := 11) (o := 0) rfl) (gB_l lq_cX5_hasTwo (p := 12) (o := 52) rfl) rfl
theorem dX5_hasTwo_13 : decode cX5_hasTwo 13 = .ok (.ifCond .eq 12, 3) := dc_153 (gB_l lq_cX5_hasTwo (p := 13) (o := 153) rfl) (gB_l lq_cX5_hasTwo (p := 14) (o := 0) rfl) (gB_l lq_cX5_hasTwo (p := 15) (o := 12) rfl) rfl
theorem dX5_hasTwo_16 : decode cX5_hasTwo 16 = .ok (.iload_n 1, 1) := dc_27 (gB_l lq_cX5_hasTwo (p := 16) (o := 27) rfl)
theorem dX5_hasTwo_17 : decode cX5_hasTwo 17 = .ok (.iload_n 2, 1) := dc_28 (gB_l lq_cX5_hasTwo (p := 17) (o := 28) rfl)
theorem dX5_hasTwo_18 : decode cX5_hasTwo 18 = .ok (.if_icmp .eq 7, 3) := dc_159 (gB_l lq_cX5_hasTwo (p := 18) (o := 159) rfl) (gB_l lq_cX5_hasTwo (p := 19) (o := 0) rfl) (gB_l lq_cX5_hasTwo (p := 20) (o := 7) rfl) rfl
theorem dX5_hasTwo_21 : decode cX5_hasTwo 21 = .ok (.iconst 1, 1) := dc_4 (gB_l lq_cX5_hasTwo (p := 21) (o := 4) rfl)
theorem dX5_hasTwo_22 : decode cX5_hasTwo 22 = .ok (.goto 4, 3) := dc_167 (gB_l lq_cX5_hasTwo (p := 22) (o := 167) rfl) (gB_l lq_cX5_hasTwo (p := 23) (o := 0) rfl) (gB_l lq_cX5_hasTwo (p := 24) (o := 4) rfl) rfl
theorem dX5_hasTwo_25 : decode cX5_hasTwo 25 = .ok (.iconst 0, 1) := dc_3 (gB_l lq_cX5_hasTwo (p := 25) (o := 3) rfl)
theorem dX5_hasTwo_26 : decode cX5_hasTwo 26 = .ok (.ireturn, 1) := dc_172 (gB_l lq_cX5_hasTwo (p := 26) (o := 172) rfl)
abbrev r0_cX5_init : List Nat := [42, 183, 0, 3, 42, 16, 9, 188, 10, 181, 0, 9, 42, 16, 9, 188, 10, 181, 0, 15, 42, 16, 81, 188, 10, 181, 0, 18, 177]
theorem lq_cX5_init : (cX5_init).data.toList.map UInt8.toNat = r0_cX5_init := by decide +kernel
theorem dX5_init_0 : decode cX5_init 0 = .ok (.aload_n 0, 1) := dc_42 (gB_l lq_cX5_init (p := 0) (o := 42) rfl)
theorem dX5_init_1 : decode cX5_init 1 = .ok (.invokespecial 3, 3) := dc_183 (gB_l lq_cX5_init (p := 1) (o := 183) rfl) (gB_l lq_cX5_init (p := 2) (o := 0) rfl) (gB_l lq_cX5_init (p := 3) (o := 3) rfl) rfl
theorem dX5_init_4 : decode cX5_init 4 = .ok (.aload_n 0, 1) := dc_42 (gB_l lq_cX5_init (p := 4) (o := 42) rfl)
theorem dX5_init_5 : decode cX5_init 5 = .ok (.bipush 9, 2) := dc_16 (gB_l lq_cX5_init (p := 5) (o := 16) rfl) (gB_l lq_cX5_init (p := 6) (o := 9) rfl) rfl
theorem dX5_init_7 : decode cX5_init 7 = .ok (.newarray .int, 2) := dn_10 (gB_l lq_cX5_init (p := 7) (o := 188) rfl) (gB_l lq_cX5_init (p := 8) (o := 10) rfl)
theorem dX5_init_9 : decode cX5_init 9 = .ok (.putfield 9, 3) := dc_181 (gB_l lq_cX5_init (p := 9) (o := 181) rfl) (gB_l lq_cX5_init (p := 10) (o := 0) rfl) (gB_l lq_cX5_init (p := 11) (o := 9) rfl) rfl
theorem dX5_init_12 : decode cX5_init 12 = .ok (.aload_n 0, 1) := dc_42 (gB_l lq_cX5_init (p := 12) (o := 42) rfl)
theorem dX5_init_13 : decode cX5_init 13 = .ok (.bipush 9, 2) := dc_16 (gB_l lq_cX5_init (p := 13) (o := 16) rfl) (gB_l lq_cX5_init (p := 14) (o := 9) rfl) rfl
theorem dX5_init_15 : decode cX5_init 15 = .ok (.newarray .int, 2) := dn_10 (gB_l lq_cX5_init (p := 15) (o := 188) rfl) (gB_l lq_cX5_init (p := 16) (o := 10) rfl)
theorem dX5_init_17 : decode cX5_init 17 = .ok (.putfield 15, 3) := dc_181 (gB_l lq_cX5_init (p := 17) (o := 181) rfl) (gB_l lq_cX5_init (p := 18) (o := 0) rfl) (gB_l lq_cX5_init (p := 19) (o := 15) rfl) rfl
theorem dX5_init_20 : decode cX5_init 20 = .ok (.aload_n 0, 1) := dc_42 (gB_l lq_cX5_init (p := 20) (o := 42) rfl)
theorem dX5_init_21 : decode cX5_init 21 = .ok (.bipush 81, 2) := dc_16 (gB_l lq_cX5_init (p := 21) (o := 16) rfl) (gB_l lq_cX5_init (p := 22) (o := 81) rfl) rfl
theorem dX5_init_23 : decode cX5_init 23 = .ok (.newarray .int, 2) := dn_10 (gB_l lq_cX5_init (p := 23) (o := 188) rfl) (gB_l lq_cX5_init (p := 24) (o := 10) rfl)
theorem dX5_init_25 : decode cX5_init 25 = .ok (.putfield 18, 3) := dc_181 (gB_l lq_cX5_init (p := 25) (o := 181) rfl) (gB_l lq_cX5_init (p := 26) (o := 0) rfl) (gB_l lq_cX5_init (p := 27) (o := 18) rfl) rfl
theorem dX5_init_28 : decode cX5_init 28 = .ok (.return_, 1) := dc_177 (gB_l lq_cX5_init (p := 28) (o := 177) rfl)
abbrev r0_cX5_lineCount : List Nat := [42, 180, 0, 9, 27, 46, 184, 0, 56, 172]
theorem lq_cX5_lineCount : (cX5_lineCount).data.toList.map UInt8.toNat = r0_cX5_lineCount := by decide +kernel
theorem dX5_lineCount_0 : decode cX5_lineCount 0 = .ok (.aload_n 0, 1) := dc_42 (gB_l lq_cX5_lineCount (p := 0) (o := 42) rfl)
theorem dX5_lineCount_1 : decode cX5_lineCount 1 = .ok (.getfield 9, 3) := dc_180 (gB_l lq_cX5_lineCount (p := 1) (o := 180) rfl) (gB_l lq_cX5_lineCount (p := 2) (o := 0) rfl) (gB_l lq_cX5_lineCount (p := 3) (o := 9) rfl) rfl
theorem dX5_lineCount_4 : decode cX5_lineCount 4 = .ok (.iload_n 1, 1) := dc_27 (gB_l lq_cX5_lineCount (p := 4) (o := 27) rfl)
theorem dX5_lineCount_5 : decode cX5_lineCount 5 = .ok (.iaload, 1) := dc_46 (gB_l lq_cX5_lineCount (p := 5) (o := 46) rfl)
theorem dX5_lineCount_6 : decode cX5_lineCount 6 = .ok (.invokestatic 56, 3) := dc_184 (gB_l lq_cX5_lineCount (p := 6) (o := 184) rfl) (gB_l lq_cX5_lineCount (p := 7) (o := 0) rfl) (gB_l lq_cX5_lineCount (p := 8) (o := 56) rfl) rfl
theorem dX5_lineCount_9 : decode cX5_lineCount 9 = .ok (.ireturn, 1) := dc_172 (gB_l lq_cX5_lineCount (p := 9) (o := 172) rfl)
abbrev r0_cX5_placeOf : List Nat := [3, 61, 28, 42, 180, 0, 21, 162, 0, 21, 42, 180, 0, 15, 28, 46, 27, 160, 0, 5, 28, 172, 132, 2, 1, 167, 255, 233, 2, 172]
theorem lq_cX5_placeOf : (cX5_placeOf).data.toList.map UInt8.toNat = r0_cX5_placeOf := by decide +kernel
theorem dX5_placeOf_0 : decode cX5_placeOf 0 = .ok (.iconst 0, 1) := dc_3 (gB_l lq_cX5_placeOf (p := 0) (o := 3) rfl)
theorem dX5_placeOf_1 : decode cX5_placeOf 1 = .ok (.istore_n 2, 1) := dc_61 (gB_l lq_cX5_placeOf (p := 1) (o := 61) rfl)
theorem dX5_placeOf_2 : decode cX5_placeOf 2 = .ok (.iload_n 2, 1) := dc_28 (gB_l lq_cX5_placeOf (p := 2) (o := 28) rfl)
theorem dX5_placeOf_3 : decode cX5_placeOf 3 = .ok (.aload_n 0, 1) := dc_42 (gB_l lq_cX5_placeOf (p := 3) (o := 42) rfl)
theorem dX5_placeOf_4 : decode cX5_placeOf 4 = .ok (.getfield 21, 3) := dc_180 (gB_l lq_cX5_placeOf (p := 4) (o := 180) rfl) (gB_l lq_cX5_placeOf (p := 5) (o := 0) rfl) (gB_l lq_cX5_placeOf (p := 6) (o := 21) rfl) rfl
theorem dX5_placeOf_7 : decode cX5_placeOf 7 = .ok (.if_icmp .ge 21, 3) := dc_162 (gB_l lq_cX5_placeOf (p := 7) (o := 162) rfl) (gB_l lq_cX5_placeOf (p := 8) (o := 0) rfl) (gB_l lq_cX5_placeOf (p := 9) (o := 21) rfl) rfl
theorem dX5_placeOf_10 : decode cX5_placeOf 10 = .ok (.aload_n 0, 1) := dc_42 (gB_l lq_cX5_placeOf (p := 10) (o := 42) rfl)
theorem dX5_placeOf_11 : decode cX5_placeOf 11 = .ok (.getfield 15, 3) := dc_180 (gB_l lq_cX5_placeOf (p := 11) (o := 180) rfl) (gB_l lq_cX5_placeOf (p := 12) (o := 0) rfl) (gB_l lq_cX5_placeOf (p := 13) (o := 15) rfl) rfl
theorem dX5_placeOf_14 : decode cX5_placeOf 14 = .ok (.iload_n 2, 1) := dc_28 (gB_l lq_cX5_placeOf (p := 14) (o := 28) rfl)
theorem dX5_placeOf_15 : decode cX5_placeOf 15 = .ok (.iaload, 1) := dc_46 (gB_l lq_cX5_placeOf (p := 15) (o := 46) rfl)
theorem dX5_placeOf_16 : decode cX5_placeOf 16 = .ok (.iload_n 1, 1) := dc_27 (gB_l lq_cX5_placeOf (p := 16) (o := 27) rfl)
theorem dX5_placeOf_17 : decode cX5_placeOf 17 = .ok (.if_icmp .ne 5, 3) := dc_160 (gB_l lq_cX5_placeOf (p := 17) (o := 160) rfl) (gB_l lq_cX5_placeOf (p := 18) (o := 0) rfl) (gB_l lq_cX5_placeOf (p := 19) (o := 5) rfl) rfl
theorem dX5_placeOf_20 : decode cX5_placeOf 20 = .ok (.iload_n 2, 1) := dc_28 (gB_l lq_cX5_placeOf (p := 20) (o := 28) rfl)
theorem dX5_placeOf_21 : decode cX5_placeOf 21 = .ok (.ireturn, 1) := dc_172 (gB_l lq_cX5_placeOf (p := 21) (o := 172) rfl)
theorem dX5_placeOf_22 : decode cX5_placeOf 22 = .ok (.iinc 2 1, 3) := dc_132 (gB_l lq_cX5_placeOf (p := 22) (o := 132) rfl) (gB_l lq_cX5_placeOf (p := 23) (o := 2) rfl) (gB_l lq_cX5_placeOf (p := 24) (o := 1) rfl) rfl
theorem dX5_placeOf_25 : decode cX5_placeOf 25 = .ok (.goto (-23), 3) := dc_167 (gB_l lq_cX5_placeOf (p := 25) (o := 167) rfl) (gB_l lq_cX5_placeOf (p := 26) (o := 255) rfl) (gB_l lq_cX5_placeOf (p := 27) (o := 233) rfl) rfl
theorem dX5_placeOf_28 : decode cX5_placeOf 28 = .ok (.iconst (-1), 1) := dc_2 (gB_l lq_cX5_placeOf (p := 28) (o := 2) rfl)
theorem dX5_placeOf_29 : decode cX5_placeOf 29 = .ok (.ireturn, 1) := dc_172 (gB_l lq_cX5_placeOf (p := 29) (o := 172) rfl)
abbrev r1_cX5_placesUnlike : List Nat := [1, 167, 255, 227, 28, 172]
def a0_cX5_placesUnlike : List Nat := [3, 61, 3, 62, 29, 42, 180, 0, 21, 162, 0, 27, 42, 180, 0, 15, 29, 46, 43, 180, 0, 15, 29, 46, 159, 0, 6, 132, 2, 1, 132, 3]
abbrev r0_cX5_placesUnlike : List Nat := a0_cX5_placesUnlike ++ r1_cX5_placesUnlike
theorem lq_cX5_placesUnlike : (cX5_placesUnlike).data.toList.map UInt8.toNat = r0_cX5_placesUnlike := by decide +kernel
theorem q1_cX5_placesUnlike : ∀ i, (r0_cX5_placesUnlike)[32 + i]? = (r1_cX5_placesUnlike)[i]? := chn (A := a0_cX5_placesUnlike) (B := r1_cX5_placesUnlike) (n := 0) (k := 32) rfl (ch0 (R := r0_cX5_placesUnlike))
theorem dX5_placesUnlike_0 : decode cX5_placesUnlike 0 = .ok (.iconst 0, 1) := dc_3 (gB_l lq_cX5_placesUnlike (p := 0) (o := 3) rfl)
theorem dX5_placesUnlike_1 : decode cX5_placesUnlike 1 = .ok (.istore_n 2, 1) := dc_61 (gB_l lq_cX5_placesUnlike (p := 1) (o := 61) rfl)
theorem dX5_placesUnlike_2 : decode cX5_placesUnlike 2 = .ok (.iconst 0, 1) := dc_3 (gB_l lq_cX5_placesUnlike (p := 2) (o := 3) rfl)
theorem dX5_placesUnlike_3 : decode cX5_placesUnlike 3 = .ok (.istore_n 3, 1) := dc_62 (gB_l lq_cX5_placesUnlike (p := 3) (o := 62) rfl)
theorem dX5_placesUnlike_4 : decode cX5_placesUnlike 4 = .ok (.iload_n 3, 1) := dc_29 (gB_l lq_cX5_placesUnlike (p := 4) (o := 29) rfl)
theorem dX5_placesUnlike_5 : decode cX5_placesUnlike 5 = .ok (.aload_n 0, 1) := dc_42 (gB_l lq_cX5_placesUnlike (p := 5) (o := 42) rfl)
theorem dX5_placesUnlike_6 : decode cX5_placesUnlike 6 = .ok (.getfield 21, 3) := dc_180 (gB_l lq_cX5_placesUnlike (p := 6) (o := 180) rfl) (gB_l lq_cX5_placesUnlike (p := 7) (o := 0) rfl) (gB_l lq_cX5_placesUnlike (p := 8) (o := 21) rfl) rfl
theorem dX5_placesUnlike_9 : decode cX5_placesUnlike 9 = .ok (.if_icmp .ge 27, 3) := dc_162 (gB_l lq_cX5_placesUnlike (p := 9) (o := 162) rfl) (gB_l lq_cX5_placesUnlike (p := 10) (o := 0) rfl) (gB_l lq_cX5_placesUnlike (p := 11) (o := 27) rfl) rfl
theorem dX5_placesUnlike_12 : decode cX5_placesUnlike 12 = .ok (.aload_n 0, 1) := dc_42 (gB_l lq_cX5_placesUnlike (p := 12) (o := 42) rfl)
theorem dX5_placesUnlike_13 : decode cX5_placesUnlike 13 = .ok (.getfield 15, 3) := dc_180 (gB_l lq_cX5_placesUnlike (p := 13) (o := 180) rfl) (gB_l lq_cX5_placesUnlike (p := 14) (o := 0) rfl) (gB_l lq_cX5_placesUnlike (p := 15) (o := 15) rfl) rfl
theorem dX5_placesUnlike_16 : decode cX5_placesUnlike 16 = .ok (.iload_n 3, 1) := dc_29 (gB_l lq_cX5_placesUnlike (p := 16) (o := 29) rfl)
theorem dX5_placesUnlike_17 : decode cX5_placesUnlike 17 = .ok (.iaload, 1) := dc_46 (gB_l lq_cX5_placesUnlike (p := 17) (o := 46) rfl)
theorem dX5_placesUnlike_18 : decode cX5_placesUnlike 18 = .ok (.aload_n 1, 1) := dc_43 (gB_l lq_cX5_placesUnlike (p := 18) (o := 43) rfl)
theorem dX5_placesUnlike_19 : decode cX5_placesUnlike 19 = .ok (.getfield 15, 3) := dc_180 (gB_l lq_cX5_placesUnlike (p := 19) (o := 180) rfl) (gB_l lq_cX5_placesUnlike (p := 20) (o := 0) rfl) (gB_l lq_cX5_placesUnlike (p := 21) (o := 15) rfl) rfl
theorem dX5_placesUnlike_22 : decode cX5_placesUnlike 22 = .ok (.iload_n 3, 1) := dc_29 (gB_l lq_cX5_placesUnlike (p := 22) (o := 29) rfl)
theorem dX5_placesUnlike_23 : decode cX5_placesUnlike 23 = .ok (.iaload, 1) := dc_46 (gB_l lq_cX5_placesUnlike (p := 23) (o := 46) rfl)
theorem dX5_placesUnlike_24 : decode cX5_placesUnlike 24 = .ok (.if_icmp .eq 6, 3) := dc_159 (gB_l lq_cX5_placesUnlike (p := 24) (o := 159) rfl) (gB_l lq_cX5_placesUnlike (p := 25) (o := 0) rfl) (gB_l lq_cX5_placesUnlike (p := 26) (o := 6) rfl) rfl
theorem dX5_placesUnlike_27 : decode cX5_placesUnlike 27 = .ok (.iinc 2 1, 3) := dc_132 (gB_l lq_cX5_placesUnlike (p := 27) (o := 132) rfl) (gB_l lq_cX5_placesUnlike (p := 28) (o := 2) rfl) (gB_l lq_cX5_placesUnlike (p := 29) (o := 1) rfl) rfl
theorem dX5_placesUnlike_30 : decode cX5_placesUnlike 30 = .ok (.iinc 3 1, 3) := dc_132 (gB_l lq_cX5_placesUnlike (p := 30) (o := 132) rfl) (gB_l lq_cX5_placesUnlike (p := 31) (o := 3) rfl) (gB_c lq_cX5_placesUnlike q1_cX5_placesUnlike 0 (o := 1) rfl) rfl
theorem dX5_placesUnlike_33 : decode cX5_placesUnlike 33 = .ok (.goto (-29), 3) := dc_167 (gB_c lq_cX5_placesUnlike q1_cX5_placesUnlike 1 (o := 167) rfl) (gB_c lq_cX5_placesUnlike q1_cX5_placesUnlike 2 (o := 255) rfl) (gB_c lq_cX5_placesUnlike q1_cX5_placesUnlike 3 (o := 227) rfl) rfl
theorem dX5_placesUnlike_36 : decode cX5_placesUnlike 36 = .ok (.iload_n 2, 1) := dc_28 (gB_c lq_cX5_placesUnlike q1_cX5_placesUnlike 4 (o := 28) rfl)
theorem dX5_placesUnlike_37 : decode cX5_placesUnlike 37 = .ok (.ireturn, 1) := dc_172 (gB_c lq_cX5_placesUnlike q1_cX5_placesUnlike 5 (o := 172) rfl)
abbrev r0_cX5_sameAs : List Nat := [42, 43, 182, 0, 44, 153, 0, 15, 42, 43, 182, 0, 48, 154, 0, 7, 4, 167, 0, 4, 3, 172]
theorem lq_cX5_sameAs : (cX5_sameAs).data.toList.map UInt8.toNat = r0_cX5_sameAs := by decide +kernel
theorem dX5_sameAs_0 : decode cX5_sameAs 0 = .ok (.aload_n 0, 1) := dc_42 (gB_l lq_cX5_sameAs (p := 0) (o := 42) rfl)
theorem dX5_sameAs_1 : decode cX5_sameAs 1 = .ok (.aload_n 1, 1) := dc_43 (gB_l lq_cX5_sameAs (p := 1) (o := 43) rfl)
theorem dX5_sameAs_2 : decode cX5_sameAs 2 = .ok (.invokevirtual 44, 3) := dc_182 (gB_l lq_cX5_sameAs (p := 2) (o := 182) rfl) (gB_l lq_cX5_sameAs (p := 3) (o := 0) rfl) (gB_l lq_cX5_sameAs (p := 4) (o := 44) rfl) rfl
theorem dX5_sameAs_5 : decode cX5_sameAs 5 = .ok (.ifCond .eq 15, 3) := dc_153 (gB_l lq_cX5_sameAs (p := 5) (o := 153) rfl) (gB_l lq_cX5_sameAs (p := 6) (o := 0) rfl) (gB_l lq_cX5_sameAs (p := 7) (o := 15) rfl) rfl
theorem dX5_sameAs_8 : decode cX5_sameAs 8 = .ok (.aload_n 0, 1) := dc_42 (gB_l lq_cX5_sameAs (p := 8) (o := 42) rfl)
theorem dX5_sameAs_9 : decode cX5_sameAs 9 = .ok (.aload_n 1, 1) := dc_43 (gB_l lq_cX5_sameAs (p := 9) (o := 43) rfl)
theorem dX5_sameAs_10 : decode cX5_sameAs 10 = .ok (.invokevirtual 48, 3) := dc_182 (gB_l lq_cX5_sameAs (p := 10) (o := 182) rfl) (gB_l lq_cX5_sameAs (p := 11) (o := 0) rfl) (gB_l lq_cX5_sameAs (p := 12) (o := 48) rfl) rfl
theorem dX5_sameAs_13 : decode cX5_sameAs 13 = .ok (.ifCond .ne 7, 3) := dc_154 (gB_l lq_cX5_sameAs (p := 13) (o := 154) rfl) (gB_l lq_cX5_sameAs (p := 14) (o := 0) rfl) (gB_l lq_cX5_sameAs (p := 15) (o := 7) rfl) rfl
theorem dX5_sameAs_16 : decode cX5_sameAs 16 = .ok (.iconst 1, 1) := dc_4 (gB_l lq_cX5_sameAs (p := 16) (o := 4) rfl)
theorem dX5_sameAs_17 : decode cX5_sameAs 17 = .ok (.goto 4, 3) := dc_167 (gB_l lq_cX5_sameAs (p := 17) (o := 167) rfl) (gB_l lq_cX5_sameAs (p := 18) (o := 0) rfl) (gB_l lq_cX5_sameAs (p := 19) (o := 4) rfl) rfl
theorem dX5_sameAs_20 : decode cX5_sameAs 20 = .ok (.iconst 0, 1) := dc_3 (gB_l lq_cX5_sameAs (p := 20) (o := 3) rfl)
theorem dX5_sameAs_21 : decode cX5_sameAs 21 = .ok (.ireturn, 1) := dc_172 (gB_l lq_cX5_sameAs (p := 21) (o := 172) rfl)
abbrev r2_cX5_sameLines : List Nat := [132, 2, 1, 167, 255, 215, 4, 172]
def a1_cX5_sameLines : List Nat := [0, 39, 3, 62, 29, 28, 162, 0, 26, 42, 28, 29, 182, 0, 40, 43, 28, 29, 182, 0, 40, 159, 0, 5, 3, 172, 132, 3, 1, 167, 255, 231]
abbrev r1_cX5_sameLines : List Nat := a1_cX5_sameLines ++ r2_cX5_sameLines
def a0_cX5_sameLines : List Nat := [42, 180, 0, 21, 43, 180, 0, 21, 160, 0, 14, 42, 180, 0, 25, 43, 180, 0, 25, 159, 0, 5, 3, 172, 3, 61, 28, 42, 180, 0, 21, 162]
abbrev r0_cX5_sameLines : List Nat := a0_cX5_sameLines ++ r1_cX5_sameLines
theorem lq_cX5_sameLines : (cX5_sameLines).data.toList.map UInt8.toNat = r0_cX5_sameLines := by decide +kernel
theorem q1_cX5_sameLines : ∀ i, (r0_cX5_sameLines)[32 + i]? = (r1_cX5_sameLines)[i]? := chn (A := a0_cX5_sameLines) (B := r1_cX5_sameLines) (n := 0) (k := 32) rfl (ch0 (R := r0_cX5_sameLines))
theorem q2_cX5_sameLines : ∀ i, (r0_cX5_sameLines)[64 + i]? = (r2_cX5_sameLines)[i]? := chn (A := a1_cX5_sameLines) (B := r2_cX5_sameLines) (n := 32) (k := 32) rfl q1_cX5_sameLines
theorem dX5_sameLines_0 : decode cX5_sameLines 0 = .ok (.aload_n 0, 1) := dc_42 (gB_l lq_cX5_sameLines (p := 0) (o := 42) rfl)
theorem dX5_sameLines_1 : decode cX5_sameLines 1 = .ok (.getfield 21, 3) := dc_180 (gB_l lq_cX5_sameLines (p := 1) (o := 180) rfl) (gB_l lq_cX5_sameLines (p := 2) (o := 0) rfl) (gB_l lq_cX5_sameLines (p := 3) (o := 21) rfl) rfl
theorem dX5_sameLines_4 : decode cX5_sameLines 4 = .ok (.aload_n 1, 1) := dc_43 (gB_l lq_cX5_sameLines (p := 4) (o := 43) rfl)
theorem dX5_sameLines_5 : decode cX5_sameLines 5 = .ok (.getfield 21, 3) := dc_180 (gB_l lq_cX5_sameLines (p := 5) (o := 180) rfl) (gB_l lq_cX5_sameLines (p := 6) (o := 0) rfl) (gB_l lq_cX5_sameLines (p := 7) (o := 21) rfl) rfl
theorem dX5_sameLines_8 : decode cX5_sameLines 8 = .ok (.if_icmp .ne 14, 3) := dc_160 (gB_l lq_cX5_sameLines (p := 8) (o := 160) rfl) (gB_l lq_cX5_sameLines (p := 9) (o := 0) rfl) (gB_l lq_cX5_sameLines (p := 10) (o := 14) rfl) rfl
theorem dX5_sameLines_11 : decode cX5_sameLines 11 = .ok (.aload_n 0, 1) := dc_42 (gB_l lq_cX5_sameLines (p := 11) (o := 42) rfl)
theorem dX5_sameLines_12 : decode cX5_sameLines 12 = .ok (.getfield 25, 3) := dc_180 (gB_l lq_cX5_sameLines (p := 12) (o := 180) rfl) (gB_l lq_cX5_sameLines (p := 13) (o := 0) rfl) (gB_l lq_cX5_sameLines (p := 14) (o := 25) rfl) rfl
theorem dX5_sameLines_15 : decode cX5_sameLines 15 = .ok (.aload_n 1, 1) := dc_43 (gB_l lq_cX5_sameLines (p := 15) (o := 43) rfl)
theorem dX5_sameLines_16 : decode cX5_sameLines 16 = .ok (.getfield 25, 3) := dc_180 (gB_l lq_cX5_sameLines (p := 16) (o := 180) rfl) (gB_l lq_cX5_sameLines (p := 17) (o := 0) rfl) (gB_l lq_cX5_sameLines (p := 18) (o := 25) rfl) rfl
theorem dX5_sameLines_19 : decode cX5_sameLines 19 = .ok (.if_icmp .eq 5, 3) := dc_159 (gB_l lq_cX5_sameLines (p := 19) (o := 159) rfl) (gB_l lq_cX5_sameLines (p := 20) (o := 0) rfl) (gB_l lq_cX5_sameLines (p := 21) (o := 5) rfl) rfl
theorem dX5_sameLines_22 : decode cX5_sameLines 22 = .ok (.iconst 0, 1) := dc_3 (gB_l lq_cX5_sameLines (p := 22) (o := 3) rfl)
theorem dX5_sameLines_23 : decode cX5_sameLines 23 = .ok (.ireturn, 1) := dc_172 (gB_l lq_cX5_sameLines (p := 23) (o := 172) rfl)
theorem dX5_sameLines_24 : decode cX5_sameLines 24 = .ok (.iconst 0, 1) := dc_3 (gB_l lq_cX5_sameLines (p := 24) (o := 3) rfl)
theorem dX5_sameLines_25 : decode cX5_sameLines 25 = .ok (.istore_n 2, 1) := dc_61 (gB_l lq_cX5_sameLines (p := 25) (o := 61) rfl)
theorem dX5_sameLines_26 : decode cX5_sameLines 26 = .ok (.iload_n 2, 1) := dc_28 (gB_l lq_cX5_sameLines (p := 26) (o := 28) rfl)
theorem dX5_sameLines_27 : decode cX5_sameLines 27 = .ok (.aload_n 0, 1) := dc_42 (gB_l lq_cX5_sameLines (p := 27) (o := 42) rfl)
theorem dX5_sameLines_28 : decode cX5_sameLines 28 = .ok (.getfield 21, 3) := dc_180 (gB_l lq_cX5_sameLines (p := 28) (o := 180) rfl) (gB_l lq_cX5_sameLines (p := 29) (o := 0) rfl) (gB_l lq_cX5_sameLines (p := 30) (o := 21) rfl) rfl
theorem dX5_sameLines_31 : decode cX5_sameLines 31 = .ok (.if_icmp .ge 39, 3) := dc_162 (gB_l lq_cX5_sameLines (p := 31) (o := 162) rfl) (gB_c lq_cX5_sameLines q1_cX5_sameLines 0 (o := 0) rfl) (gB_c lq_cX5_sameLines q1_cX5_sameLines 1 (o := 39) rfl) rfl
theorem dX5_sameLines_34 : decode cX5_sameLines 34 = .ok (.iconst 0, 1) := dc_3 (gB_c lq_cX5_sameLines q1_cX5_sameLines 2 (o := 3) rfl)
theorem dX5_sameLines_35 : decode cX5_sameLines 35 = .ok (.istore_n 3, 1) := dc_62 (gB_c lq_cX5_sameLines q1_cX5_sameLines 3 (o := 62) rfl)
theorem dX5_sameLines_36 : decode cX5_sameLines 36 = .ok (.iload_n 3, 1) := dc_29 (gB_c lq_cX5_sameLines q1_cX5_sameLines 4 (o := 29) rfl)
theorem dX5_sameLines_37 : decode cX5_sameLines 37 = .ok (.iload_n 2, 1) := dc_28 (gB_c lq_cX5_sameLines q1_cX5_sameLines 5 (o := 28) rfl)
theorem dX5_sameLines_38 : decode cX5_sameLines 38 = .ok (.if_icmp .ge 26, 3) := dc_162 (gB_c lq_cX5_sameLines q1_cX5_sameLines 6 (o := 162) rfl) (gB_c lq_cX5_sameLines q1_cX5_sameLines 7 (o := 0) rfl) (gB_c lq_cX5_sameLines q1_cX5_sameLines 8 (o := 26) rfl) rfl
theorem dX5_sameLines_41 : decode cX5_sameLines 41 = .ok (.aload_n 0, 1) := dc_42 (gB_c lq_cX5_sameLines q1_cX5_sameLines 9 (o := 42) rfl)
theorem dX5_sameLines_42 : decode cX5_sameLines 42 = .ok (.iload_n 2, 1) := dc_28 (gB_c lq_cX5_sameLines q1_cX5_sameLines 10 (o := 28) rfl)
theorem dX5_sameLines_43 : decode cX5_sameLines 43 = .ok (.iload_n 3, 1) := dc_29 (gB_c lq_cX5_sameLines q1_cX5_sameLines 11 (o := 29) rfl)
theorem dX5_sameLines_44 : decode cX5_sameLines 44 = .ok (.invokevirtual 40, 3) := dc_182 (gB_c lq_cX5_sameLines q1_cX5_sameLines 12 (o := 182) rfl) (gB_c lq_cX5_sameLines q1_cX5_sameLines 13 (o := 0) rfl) (gB_c lq_cX5_sameLines q1_cX5_sameLines 14 (o := 40) rfl) rfl
theorem dX5_sameLines_47 : decode cX5_sameLines 47 = .ok (.aload_n 1, 1) := dc_43 (gB_c lq_cX5_sameLines q1_cX5_sameLines 15 (o := 43) rfl)
theorem dX5_sameLines_48 : decode cX5_sameLines 48 = .ok (.iload_n 2, 1) := dc_28 (gB_c lq_cX5_sameLines q1_cX5_sameLines 16 (o := 28) rfl)
theorem dX5_sameLines_49 : decode cX5_sameLines 49 = .ok (.iload_n 3, 1) := dc_29 (gB_c lq_cX5_sameLines q1_cX5_sameLines 17 (o := 29) rfl)
theorem dX5_sameLines_50 : decode cX5_sameLines 50 = .ok (.invokevirtual 40, 3) := dc_182 (gB_c lq_cX5_sameLines q1_cX5_sameLines 18 (o := 182) rfl) (gB_c lq_cX5_sameLines q1_cX5_sameLines 19 (o := 0) rfl) (gB_c lq_cX5_sameLines q1_cX5_sameLines 20 (o := 40) rfl) rfl
theorem dX5_sameLines_53 : decode cX5_sameLines 53 = .ok (.if_icmp .eq 5, 3) := dc_159 (gB_c lq_cX5_sameLines q1_cX5_sameLines 21 (o := 159) rfl) (gB_c lq_cX5_sameLines q1_cX5_sameLines 22 (o := 0) rfl) (gB_c lq_cX5_sameLines q1_cX5_sameLines 23 (o := 5) rfl) rfl
theorem dX5_sameLines_56 : decode cX5_sameLines 56 = .ok (.iconst 0, 1) := dc_3 (gB_c lq_cX5_sameLines q1_cX5_sameLines 24 (o := 3) rfl)
theorem dX5_sameLines_57 : decode cX5_sameLines 57 = .ok (.ireturn, 1) := dc_172 (gB_c lq_cX5_sameLines q1_cX5_sameLines 25 (o := 172) rfl)
theorem dX5_sameLines_58 : decode cX5_sameLines 58 = .ok (.iinc 3 1, 3) := dc_132 (gB_c lq_cX5_sameLines q1_cX5_sameLines 26 (o := 132) rfl) (gB_c lq_cX5_sameLines q1_cX5_sameLines 27 (o := 3) rfl) (gB_c lq_cX5_sameLines q1_cX5_sameLines 28 (o := 1) rfl) rfl
theorem dX5_sameLines_61 : decode cX5_sameLines 61 = .ok (.goto (-25), 3) := dc_167 (gB_c lq_cX5_sameLines q1_cX5_sameLines 29 (o := 167) rfl) (gB_c lq_cX5_sameLines q1_cX5_sameLines 30 (o := 255) rfl) (gB_c lq_cX5_sameLines q1_cX5_sameLines 31 (o := 231) rfl) rfl
theorem dX5_sameLines_64 : decode cX5_sameLines 64 = .ok (.iinc 2 1, 3) := dc_132 (gB_c lq_cX5_sameLines q2_cX5_sameLines 0 (o := 132) rfl) (gB_c lq_cX5_sameLines q2_cX5_sameLines 1 (o := 2) rfl) (gB_c lq_cX5_sameLines q2_cX5_sameLines 2 (o := 1) rfl) rfl
theorem dX5_sameLines_67 : decode cX5_sameLines 67 = .ok (.goto (-41), 3) := dc_167 (gB_c lq_cX5_sameLines q2_cX5_sameLines 3 (o := 167) rfl) (gB_c lq_cX5_sameLines q2_cX5_sameLines 4 (o := 255) rfl) (gB_c lq_cX5_sameLines q2_cX5_sameLines 5 (o := 215) rfl) rfl
theorem dX5_sameLines_70 : decode cX5_sameLines 70 = .ok (.iconst 1, 1) := dc_4 (gB_c lq_cX5_sameLines q2_cX5_sameLines 6 (o := 4) rfl)
theorem dX5_sameLines_71 : decode cX5_sameLines 71 = .ok (.ireturn, 1) := dc_172 (gB_c lq_cX5_sameLines q2_cX5_sameLines 7 (o := 172) rfl)
abbrev r3_cX5_setWeight : List Nat := [126, 79, 42, 180, 0, 9, 28, 92, 46, 4, 27, 120, 2, 130, 126, 79, 177]
def a2_cX5_setWeight : List Nat := [4, 28, 120, 128, 79, 42, 180, 0, 9, 28, 92, 46, 4, 27, 120, 128, 79, 167, 0, 31, 42, 180, 0, 9, 27, 92, 46, 4, 28, 120, 2, 130]
abbrev r2_cX5_setWeight : List Nat := a2_cX5_setWeight ++ r3_cX5_setWeight
def a1_cX5_setWeight : List Nat := [180, 0, 18, 28, 16, 9, 104, 27, 96, 29, 79, 29, 158, 0, 40, 42, 89, 180, 0, 25, 4, 96, 181, 0, 25, 42, 180, 0, 9, 27, 92, 46]
abbrev r1_cX5_setWeight : List Nat := a1_cX5_setWeight ++ r2_cX5_setWeight
def a0_cX5_setWeight : List Nat := [42, 27, 28, 182, 0, 40, 158, 0, 13, 42, 89, 180, 0, 25, 4, 100, 181, 0, 25, 42, 180, 0, 18, 27, 16, 9, 104, 28, 96, 29, 79, 42]
abbrev r0_cX5_setWeight : List Nat := a0_cX5_setWeight ++ r1_cX5_setWeight
theorem lq_cX5_setWeight : (cX5_setWeight).data.toList.map UInt8.toNat = r0_cX5_setWeight := by decide +kernel
theorem q1_cX5_setWeight : ∀ i, (r0_cX5_setWeight)[32 + i]? = (r1_cX5_setWeight)[i]? := chn (A := a0_cX5_setWeight) (B := r1_cX5_setWeight) (n := 0) (k := 32) rfl (ch0 (R := r0_cX5_setWeight))
theorem q2_cX5_setWeight : ∀ i, (r0_cX5_setWeight)[64 + i]? = (r2_cX5_setWeight)[i]? := chn (A := a1_cX5_setWeight) (B := r2_cX5_setWeight) (n := 32) (k := 32) rfl q1_cX5_setWeight
theorem q3_cX5_setWeight : ∀ i, (r0_cX5_setWeight)[96 + i]? = (r3_cX5_setWeight)[i]? := chn (A := a2_cX5_setWeight) (B := r3_cX5_setWeight) (n := 64) (k := 32) rfl q2_cX5_setWeight
theorem dX5_setWeight_0 : decode cX5_setWeight 0 = .ok (.aload_n 0, 1) := dc_42 (gB_l lq_cX5_setWeight (p := 0) (o := 42) rfl)
theorem dX5_setWeight_1 : decode cX5_setWeight 1 = .ok (.iload_n 1, 1) := dc_27 (gB_l lq_cX5_setWeight (p := 1) (o := 27) rfl)
theorem dX5_setWeight_2 : decode cX5_setWeight 2 = .ok (.iload_n 2, 1) := dc_28 (gB_l lq_cX5_setWeight (p := 2) (o := 28) rfl)
theorem dX5_setWeight_3 : decode cX5_setWeight 3 = .ok (.invokevirtual 40, 3) := dc_182 (gB_l lq_cX5_setWeight (p := 3) (o := 182) rfl) (gB_l lq_cX5_setWeight (p := 4) (o := 0) rfl) (gB_l lq_cX5_setWeight (p := 5) (o := 40) rfl) rfl
theorem dX5_setWeight_6 : decode cX5_setWeight 6 = .ok (.ifCond .le 13, 3) := dc_158 (gB_l lq_cX5_setWeight (p := 6) (o := 158) rfl) (gB_l lq_cX5_setWeight (p := 7) (o := 0) rfl) (gB_l lq_cX5_setWeight (p := 8) (o := 13) rfl) rfl
theorem dX5_setWeight_9 : decode cX5_setWeight 9 = .ok (.aload_n 0, 1) := dc_42 (gB_l lq_cX5_setWeight (p := 9) (o := 42) rfl)
theorem dX5_setWeight_10 : decode cX5_setWeight 10 = .ok (.dup, 1) := dc_89 (gB_l lq_cX5_setWeight (p := 10) (o := 89) rfl)
theorem dX5_setWeight_11 : decode cX5_setWeight 11 = .ok (.getfield 25, 3) := dc_180 (gB_l lq_cX5_setWeight (p := 11) (o := 180) rfl) (gB_l lq_cX5_setWeight (p := 12) (o := 0) rfl) (gB_l lq_cX5_setWeight (p := 13) (o := 25) rfl) rfl
theorem dX5_setWeight_14 : decode cX5_setWeight 14 = .ok (.iconst 1, 1) := dc_4 (gB_l lq_cX5_setWeight (p := 14) (o := 4) rfl)
theorem dX5_setWeight_15 : decode cX5_setWeight 15 = .ok (.isub, 1) := dc_100 (gB_l lq_cX5_setWeight (p := 15) (o := 100) rfl)
theorem dX5_setWeight_16 : decode cX5_setWeight 16 = .ok (.putfield 25, 3) := dc_181 (gB_l lq_cX5_setWeight (p := 16) (o := 181) rfl) (gB_l lq_cX5_setWeight (p := 17) (o := 0) rfl) (gB_l lq_cX5_setWeight (p := 18) (o := 25) rfl) rfl
theorem dX5_setWeight_19 : decode cX5_setWeight 19 = .ok (.aload_n 0, 1) := dc_42 (gB_l lq_cX5_setWeight (p := 19) (o := 42) rfl)
theorem dX5_setWeight_20 : decode cX5_setWeight 20 = .ok (.getfield 18, 3) := dc_180 (gB_l lq_cX5_setWeight (p := 20) (o := 180) rfl) (gB_l lq_cX5_setWeight (p := 21) (o := 0) rfl) (gB_l lq_cX5_setWeight (p := 22) (o := 18) rfl) rfl
theorem dX5_setWeight_23 : decode cX5_setWeight 23 = .ok (.iload_n 1, 1) := dc_27 (gB_l lq_cX5_setWeight (p := 23) (o := 27) rfl)
theorem dX5_setWeight_24 : decode cX5_setWeight 24 = .ok (.bipush 9, 2) := dc_16 (gB_l lq_cX5_setWeight (p := 24) (o := 16) rfl) (gB_l lq_cX5_setWeight (p := 25) (o := 9) rfl) rfl
theorem dX5_setWeight_26 : decode cX5_setWeight 26 = .ok (.imul, 1) := dc_104 (gB_l lq_cX5_setWeight (p := 26) (o := 104) rfl)
theorem dX5_setWeight_27 : decode cX5_setWeight 27 = .ok (.iload_n 2, 1) := dc_28 (gB_l lq_cX5_setWeight (p := 27) (o := 28) rfl)
theorem dX5_setWeight_28 : decode cX5_setWeight 28 = .ok (.iadd, 1) := dc_96 (gB_l lq_cX5_setWeight (p := 28) (o := 96) rfl)
theorem dX5_setWeight_29 : decode cX5_setWeight 29 = .ok (.iload_n 3, 1) := dc_29 (gB_l lq_cX5_setWeight (p := 29) (o := 29) rfl)
theorem dX5_setWeight_30 : decode cX5_setWeight 30 = .ok (.iastore, 1) := dc_79 (gB_l lq_cX5_setWeight (p := 30) (o := 79) rfl)
theorem dX5_setWeight_31 : decode cX5_setWeight 31 = .ok (.aload_n 0, 1) := dc_42 (gB_l lq_cX5_setWeight (p := 31) (o := 42) rfl)
theorem dX5_setWeight_32 : decode cX5_setWeight 32 = .ok (.getfield 18, 3) := dc_180 (gB_c lq_cX5_setWeight q1_cX5_setWeight 0 (o := 180) rfl) (gB_c lq_cX5_setWeight q1_cX5_setWeight 1 (o := 0) rfl) (gB_c lq_cX5_setWeight q1_cX5_setWeight 2 (o := 18) rfl) rfl
theorem dX5_setWeight_35 : decode cX5_setWeight 35 = .ok (.iload_n 2, 1) := dc_28 (gB_c lq_cX5_setWeight q1_cX5_setWeight 3 (o := 28) rfl)
theorem dX5_setWeight_36 : decode cX5_setWeight 36 = .ok (.bipush 9, 2) := dc_16 (gB_c lq_cX5_setWeight q1_cX5_setWeight 4 (o := 16) rfl) (gB_c lq_cX5_setWeight q1_cX5_setWeight 5 (o := 9) rfl) rfl
theorem dX5_setWeight_38 : decode cX5_setWeight 38 = .ok (.imul, 1) := dc_104 (gB_c lq_cX5_setWeight q1_cX5_setWeight 6 (o := 104) rfl)
theorem dX5_setWeight_39 : decode cX5_setWeight 39 = .ok (.iload_n 1, 1) := dc_27 (gB_c lq_cX5_setWeight q1_cX5_setWeight 7 (o := 27) rfl)
theorem dX5_setWeight_40 : decode cX5_setWeight 40 = .ok (.iadd, 1) := dc_96 (gB_c lq_cX5_setWeight q1_cX5_setWeight 8 (o := 96) rfl)
theorem dX5_setWeight_41 : decode cX5_setWeight 41 = .ok (.iload_n 3, 1) := dc_29 (gB_c lq_cX5_setWeight q1_cX5_setWeight 9 (o := 29) rfl)
theorem dX5_setWeight_42 : decode cX5_setWeight 42 = .ok (.iastore, 1) := dc_79 (gB_c lq_cX5_setWeight q1_cX5_setWeight 10 (o := 79) rfl)
theorem dX5_setWeight_43 : decode cX5_setWeight 43 = .ok (.iload_n 3, 1) := dc_29 (gB_c lq_cX5_setWeight q1_cX5_setWeight 11 (o := 29) rfl)
theorem dX5_setWeight_44 : decode cX5_setWeight 44 = .ok (.ifCond .le 40, 3) := dc_158 (gB_c lq_cX5_setWeight q1_cX5_setWeight 12 (o := 158) rfl) (gB_c lq_cX5_setWeight q1_cX5_setWeight 13 (o := 0) rfl) (gB_c lq_cX5_setWeight q1_cX5_setWeight 14 (o := 40) rfl) rfl
theorem dX5_setWeight_47 : decode cX5_setWeight 47 = .ok (.aload_n 0, 1) := dc_42 (gB_c lq_cX5_setWeight q1_cX5_setWeight 15 (o := 42) rfl)
theorem dX5_setWeight_48 : decode cX5_setWeight 48 = .ok (.dup, 1) := dc_89 (gB_c lq_cX5_setWeight q1_cX5_setWeight 16 (o := 89) rfl)
theorem dX5_setWeight_49 : decode cX5_setWeight 49 = .ok (.getfield 25, 3) := dc_180 (gB_c lq_cX5_setWeight q1_cX5_setWeight 17 (o := 180) rfl) (gB_c lq_cX5_setWeight q1_cX5_setWeight 18 (o := 0) rfl) (gB_c lq_cX5_setWeight q1_cX5_setWeight 19 (o := 25) rfl) rfl
theorem dX5_setWeight_52 : decode cX5_setWeight 52 = .ok (.iconst 1, 1) := dc_4 (gB_c lq_cX5_setWeight q1_cX5_setWeight 20 (o := 4) rfl)
theorem dX5_setWeight_53 : decode cX5_setWeight 53 = .ok (.iadd, 1) := dc_96 (gB_c lq_cX5_setWeight q1_cX5_setWeight 21 (o := 96) rfl)
theorem dX5_setWeight_54 : decode cX5_setWeight 54 = .ok (.putfield 25, 3) := dc_181 (gB_c lq_cX5_setWeight q1_cX5_setWeight 22 (o := 181) rfl) (gB_c lq_cX5_setWeight q1_cX5_setWeight 23 (o := 0) rfl) (gB_c lq_cX5_setWeight q1_cX5_setWeight 24 (o := 25) rfl) rfl
theorem dX5_setWeight_57 : decode cX5_setWeight 57 = .ok (.aload_n 0, 1) := dc_42 (gB_c lq_cX5_setWeight q1_cX5_setWeight 25 (o := 42) rfl)
theorem dX5_setWeight_58 : decode cX5_setWeight 58 = .ok (.getfield 9, 3) := dc_180 (gB_c lq_cX5_setWeight q1_cX5_setWeight 26 (o := 180) rfl) (gB_c lq_cX5_setWeight q1_cX5_setWeight 27 (o := 0) rfl) (gB_c lq_cX5_setWeight q1_cX5_setWeight 28 (o := 9) rfl) rfl
theorem dX5_setWeight_61 : decode cX5_setWeight 61 = .ok (.iload_n 1, 1) := dc_27 (gB_c lq_cX5_setWeight q1_cX5_setWeight 29 (o := 27) rfl)
