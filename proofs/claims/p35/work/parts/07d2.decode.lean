/-! decode rows -/
theorem dX10_thinnestHalf_6 : decode cX10_thinnestHalf 6 = .ok (.istore_n 3, 1) := dc_62 (gB_l lq_cX10_thinnestHalf (p := 6) (o := 62) rfl)
theorem dX10_thinnestHalf_7 : decode cX10_thinnestHalf 7 = .ok (.iload_n 3, 1) := dc_29 (gB_l lq_cX10_thinnestHalf (p := 7) (o := 29) rfl)
theorem dX10_thinnestHalf_8 : decode cX10_thinnestHalf 8 = .ok (.aload_n 0, 1) := dc_42 (gB_l lq_cX10_thinnestHalf (p := 8) (o := 42) rfl)
theorem dX10_thinnestHalf_9 : decode cX10_thinnestHalf 9 = .ok (.invokevirtual 48, 3) := dc_182 (gB_l lq_cX10_thinnestHalf (p := 9) (o := 182) rfl) (gB_l lq_cX10_thinnestHalf (p := 10) (o := 0) rfl) (gB_l lq_cX10_thinnestHalf (p := 11) (o := 48) rfl) rfl
theorem dX10_thinnestHalf_12 : decode cX10_thinnestHalf 12 = .ok (.if_icmp .gt 40, 3) := dc_163 (gB_l lq_cX10_thinnestHalf (p := 12) (o := 163) rfl) (gB_l lq_cX10_thinnestHalf (p := 13) (o := 0) rfl) (gB_l lq_cX10_thinnestHalf (p := 14) (o := 40) rfl) rfl
theorem dX10_thinnestHalf_15 : decode cX10_thinnestHalf 15 = .ok (.iload_n 3, 1) := dc_29 (gB_l lq_cX10_thinnestHalf (p := 15) (o := 29) rfl)
theorem dX10_thinnestHalf_16 : decode cX10_thinnestHalf 16 = .ok (.invokestatic 55, 3) := dc_184 (gB_l lq_cX10_thinnestHalf (p := 16) (o := 184) rfl) (gB_l lq_cX10_thinnestHalf (p := 17) (o := 0) rfl) (gB_l lq_cX10_thinnestHalf (p := 18) (o := 55) rfl) rfl
theorem dX10_thinnestHalf_19 : decode cX10_thinnestHalf 19 = .ok (.aload_n 0, 1) := dc_42 (gB_l lq_cX10_thinnestHalf (p := 19) (o := 42) rfl)
theorem dX10_thinnestHalf_20 : decode cX10_thinnestHalf 20 = .ok (.getfield 9, 3) := dc_180 (gB_l lq_cX10_thinnestHalf (p := 20) (o := 180) rfl) (gB_l lq_cX10_thinnestHalf (p := 21) (o := 0) rfl) (gB_l lq_cX10_thinnestHalf (p := 22) (o := 9) rfl) rfl
theorem dX10_thinnestHalf_23 : decode cX10_thinnestHalf 23 = .ok (.iconst 2, 1) := dc_5 (gB_l lq_cX10_thinnestHalf (p := 23) (o := 5) rfl)
theorem dX10_thinnestHalf_24 : decode cX10_thinnestHalf 24 = .ok (.idiv, 1) := dc_108 (gB_l lq_cX10_thinnestHalf (p := 24) (o := 108) rfl)
theorem dX10_thinnestHalf_25 : decode cX10_thinnestHalf 25 = .ok (.if_icmp .ne 21, 3) := dc_160 (gB_l lq_cX10_thinnestHalf (p := 25) (o := 160) rfl) (gB_l lq_cX10_thinnestHalf (p := 26) (o := 0) rfl) (gB_l lq_cX10_thinnestHalf (p := 27) (o := 21) rfl) rfl
theorem dX10_thinnestHalf_28 : decode cX10_thinnestHalf 28 = .ok (.aload_n 0, 1) := dc_42 (gB_l lq_cX10_thinnestHalf (p := 28) (o := 42) rfl)
theorem dX10_thinnestHalf_29 : decode cX10_thinnestHalf 29 = .ok (.iload_n 3, 1) := dc_29 (gB_l lq_cX10_thinnestHalf (p := 29) (o := 29) rfl)
theorem dX10_thinnestHalf_30 : decode cX10_thinnestHalf 30 = .ok (.invokestatic 79, 3) := dc_184 (gB_l lq_cX10_thinnestHalf (p := 30) (o := 184) rfl) (gB_l lq_cX10_thinnestHalf (p := 31) (o := 0) rfl) (gB_c lq_cX10_thinnestHalf q1_cX10_thinnestHalf 0 (o := 79) rfl) rfl
theorem dX10_thinnestHalf_33 : decode cX10_thinnestHalf 33 = .ok (.istore 4, 2) := dc_54 (gB_c lq_cX10_thinnestHalf q1_cX10_thinnestHalf 1 (o := 54) rfl) (gB_c lq_cX10_thinnestHalf q1_cX10_thinnestHalf 2 (o := 4) rfl)
theorem dX10_thinnestHalf_35 : decode cX10_thinnestHalf 35 = .ok (.iload 4, 2) := dc_21 (gB_c lq_cX10_thinnestHalf q1_cX10_thinnestHalf 3 (o := 21) rfl) (gB_c lq_cX10_thinnestHalf q1_cX10_thinnestHalf 4 (o := 4) rfl)
theorem dX10_thinnestHalf_37 : decode cX10_thinnestHalf 37 = .ok (.iload_n 2, 1) := dc_28 (gB_c lq_cX10_thinnestHalf q1_cX10_thinnestHalf 5 (o := 28) rfl)
theorem dX10_thinnestHalf_38 : decode cX10_thinnestHalf 38 = .ok (.if_icmp .ge 8, 3) := dc_162 (gB_c lq_cX10_thinnestHalf q1_cX10_thinnestHalf 6 (o := 162) rfl) (gB_c lq_cX10_thinnestHalf q1_cX10_thinnestHalf 7 (o := 0) rfl) (gB_c lq_cX10_thinnestHalf q1_cX10_thinnestHalf 8 (o := 8) rfl) rfl
theorem dX10_thinnestHalf_41 : decode cX10_thinnestHalf 41 = .ok (.iload 4, 2) := dc_21 (gB_c lq_cX10_thinnestHalf q1_cX10_thinnestHalf 9 (o := 21) rfl) (gB_c lq_cX10_thinnestHalf q1_cX10_thinnestHalf 10 (o := 4) rfl)
theorem dX10_thinnestHalf_43 : decode cX10_thinnestHalf 43 = .ok (.istore_n 2, 1) := dc_61 (gB_c lq_cX10_thinnestHalf q1_cX10_thinnestHalf 11 (o := 61) rfl)
theorem dX10_thinnestHalf_44 : decode cX10_thinnestHalf 44 = .ok (.iload_n 3, 1) := dc_29 (gB_c lq_cX10_thinnestHalf q1_cX10_thinnestHalf 12 (o := 29) rfl)
theorem dX10_thinnestHalf_45 : decode cX10_thinnestHalf 45 = .ok (.istore_n 1, 1) := dc_60 (gB_c lq_cX10_thinnestHalf q1_cX10_thinnestHalf 13 (o := 60) rfl)
theorem dX10_thinnestHalf_46 : decode cX10_thinnestHalf 46 = .ok (.iinc 3 1, 3) := dc_132 (gB_c lq_cX10_thinnestHalf q1_cX10_thinnestHalf 14 (o := 132) rfl) (gB_c lq_cX10_thinnestHalf q1_cX10_thinnestHalf 15 (o := 3) rfl) (gB_c lq_cX10_thinnestHalf q1_cX10_thinnestHalf 16 (o := 1) rfl) rfl
theorem dX10_thinnestHalf_49 : decode cX10_thinnestHalf 49 = .ok (.goto (-42), 3) := dc_167 (gB_c lq_cX10_thinnestHalf q1_cX10_thinnestHalf 17 (o := 167) rfl) (gB_c lq_cX10_thinnestHalf q1_cX10_thinnestHalf 18 (o := 255) rfl) (gB_c lq_cX10_thinnestHalf q1_cX10_thinnestHalf 19 (o := 214) rfl) rfl
theorem dX10_thinnestHalf_52 : decode cX10_thinnestHalf 52 = .ok (.iload_n 1, 1) := dc_27 (gB_c lq_cX10_thinnestHalf q1_cX10_thinnestHalf 20 (o := 27) rfl)
theorem dX10_thinnestHalf_53 : decode cX10_thinnestHalf 53 = .ok (.ireturn, 1) := dc_172 (gB_c lq_cX10_thinnestHalf q1_cX10_thinnestHalf 21 (o := 172) rfl)
abbrev r0_cX10_weightAt : List Nat := [3, 61, 3, 62, 29, 42, 180, 0, 9, 162, 0, 18, 28, 42, 27, 29, 182, 0, 21, 96, 61, 132, 3, 1, 167, 255, 236, 28, 172]
theorem lq_cX10_weightAt : (cX10_weightAt).data.toList.map UInt8.toNat = r0_cX10_weightAt := by decide +kernel
theorem dX10_weightAt_0 : decode cX10_weightAt 0 = .ok (.iconst 0, 1) := dc_3 (gB_l lq_cX10_weightAt (p := 0) (o := 3) rfl)
theorem dX10_weightAt_1 : decode cX10_weightAt 1 = .ok (.istore_n 2, 1) := dc_61 (gB_l lq_cX10_weightAt (p := 1) (o := 61) rfl)
theorem dX10_weightAt_2 : decode cX10_weightAt 2 = .ok (.iconst 0, 1) := dc_3 (gB_l lq_cX10_weightAt (p := 2) (o := 3) rfl)
theorem dX10_weightAt_3 : decode cX10_weightAt 3 = .ok (.istore_n 3, 1) := dc_62 (gB_l lq_cX10_weightAt (p := 3) (o := 62) rfl)
theorem dX10_weightAt_4 : decode cX10_weightAt 4 = .ok (.iload_n 3, 1) := dc_29 (gB_l lq_cX10_weightAt (p := 4) (o := 29) rfl)
theorem dX10_weightAt_5 : decode cX10_weightAt 5 = .ok (.aload_n 0, 1) := dc_42 (gB_l lq_cX10_weightAt (p := 5) (o := 42) rfl)
theorem dX10_weightAt_6 : decode cX10_weightAt 6 = .ok (.getfield 9, 3) := dc_180 (gB_l lq_cX10_weightAt (p := 6) (o := 180) rfl) (gB_l lq_cX10_weightAt (p := 7) (o := 0) rfl) (gB_l lq_cX10_weightAt (p := 8) (o := 9) rfl) rfl
theorem dX10_weightAt_9 : decode cX10_weightAt 9 = .ok (.if_icmp .ge 18, 3) := dc_162 (gB_l lq_cX10_weightAt (p := 9) (o := 162) rfl) (gB_l lq_cX10_weightAt (p := 10) (o := 0) rfl) (gB_l lq_cX10_weightAt (p := 11) (o := 18) rfl) rfl
theorem dX10_weightAt_12 : decode cX10_weightAt 12 = .ok (.iload_n 2, 1) := dc_28 (gB_l lq_cX10_weightAt (p := 12) (o := 28) rfl)
theorem dX10_weightAt_13 : decode cX10_weightAt 13 = .ok (.aload_n 0, 1) := dc_42 (gB_l lq_cX10_weightAt (p := 13) (o := 42) rfl)
theorem dX10_weightAt_14 : decode cX10_weightAt 14 = .ok (.iload_n 1, 1) := dc_27 (gB_l lq_cX10_weightAt (p := 14) (o := 27) rfl)
theorem dX10_weightAt_15 : decode cX10_weightAt 15 = .ok (.iload_n 3, 1) := dc_29 (gB_l lq_cX10_weightAt (p := 15) (o := 29) rfl)
theorem dX10_weightAt_16 : decode cX10_weightAt 16 = .ok (.invokevirtual 21, 3) := dc_182 (gB_l lq_cX10_weightAt (p := 16) (o := 182) rfl) (gB_l lq_cX10_weightAt (p := 17) (o := 0) rfl) (gB_l lq_cX10_weightAt (p := 18) (o := 21) rfl) rfl
theorem dX10_weightAt_19 : decode cX10_weightAt 19 = .ok (.iadd, 1) := dc_96 (gB_l lq_cX10_weightAt (p := 19) (o := 96) rfl)
theorem dX10_weightAt_20 : decode cX10_weightAt 20 = .ok (.istore_n 2, 1) := dc_61 (gB_l lq_cX10_weightAt (p := 20) (o := 61) rfl)
theorem dX10_weightAt_21 : decode cX10_weightAt 21 = .ok (.iinc 3 1, 3) := dc_132 (gB_l lq_cX10_weightAt (p := 21) (o := 132) rfl) (gB_l lq_cX10_weightAt (p := 22) (o := 3) rfl) (gB_l lq_cX10_weightAt (p := 23) (o := 1) rfl) rfl
theorem dX10_weightAt_24 : decode cX10_weightAt 24 = .ok (.goto (-20), 3) := dc_167 (gB_l lq_cX10_weightAt (p := 24) (o := 167) rfl) (gB_l lq_cX10_weightAt (p := 25) (o := 255) rfl) (gB_l lq_cX10_weightAt (p := 26) (o := 236) rfl) rfl
theorem dX10_weightAt_27 : decode cX10_weightAt 27 = .ok (.iload_n 2, 1) := dc_28 (gB_l lq_cX10_weightAt (p := 27) (o := 28) rfl)
theorem dX10_weightAt_28 : decode cX10_weightAt 28 = .ok (.ireturn, 1) := dc_172 (gB_l lq_cX10_weightAt (p := 28) (o := 172) rfl)
abbrev r0_cX10_wholeWeight : List Nat := [3, 60, 3, 61, 28, 42, 180, 0, 9, 162, 0, 17, 27, 42, 28, 184, 0, 15, 96, 60, 132, 2, 1, 167, 255, 237, 27, 5, 108, 172]
theorem lq_cX10_wholeWeight : (cX10_wholeWeight).data.toList.map UInt8.toNat = r0_cX10_wholeWeight := by decide +kernel
theorem dX10_wholeWeight_0 : decode cX10_wholeWeight 0 = .ok (.iconst 0, 1) := dc_3 (gB_l lq_cX10_wholeWeight (p := 0) (o := 3) rfl)
theorem dX10_wholeWeight_1 : decode cX10_wholeWeight 1 = .ok (.istore_n 1, 1) := dc_60 (gB_l lq_cX10_wholeWeight (p := 1) (o := 60) rfl)
theorem dX10_wholeWeight_2 : decode cX10_wholeWeight 2 = .ok (.iconst 0, 1) := dc_3 (gB_l lq_cX10_wholeWeight (p := 2) (o := 3) rfl)
theorem dX10_wholeWeight_3 : decode cX10_wholeWeight 3 = .ok (.istore_n 2, 1) := dc_61 (gB_l lq_cX10_wholeWeight (p := 3) (o := 61) rfl)
theorem dX10_wholeWeight_4 : decode cX10_wholeWeight 4 = .ok (.iload_n 2, 1) := dc_28 (gB_l lq_cX10_wholeWeight (p := 4) (o := 28) rfl)
theorem dX10_wholeWeight_5 : decode cX10_wholeWeight 5 = .ok (.aload_n 0, 1) := dc_42 (gB_l lq_cX10_wholeWeight (p := 5) (o := 42) rfl)
theorem dX10_wholeWeight_6 : decode cX10_wholeWeight 6 = .ok (.getfield 9, 3) := dc_180 (gB_l lq_cX10_wholeWeight (p := 6) (o := 180) rfl) (gB_l lq_cX10_wholeWeight (p := 7) (o := 0) rfl) (gB_l lq_cX10_wholeWeight (p := 8) (o := 9) rfl) rfl
theorem dX10_wholeWeight_9 : decode cX10_wholeWeight 9 = .ok (.if_icmp .ge 17, 3) := dc_162 (gB_l lq_cX10_wholeWeight (p := 9) (o := 162) rfl) (gB_l lq_cX10_wholeWeight (p := 10) (o := 0) rfl) (gB_l lq_cX10_wholeWeight (p := 11) (o := 17) rfl) rfl
theorem dX10_wholeWeight_12 : decode cX10_wholeWeight 12 = .ok (.iload_n 1, 1) := dc_27 (gB_l lq_cX10_wholeWeight (p := 12) (o := 27) rfl)
theorem dX10_wholeWeight_13 : decode cX10_wholeWeight 13 = .ok (.aload_n 0, 1) := dc_42 (gB_l lq_cX10_wholeWeight (p := 13) (o := 42) rfl)
theorem dX10_wholeWeight_14 : decode cX10_wholeWeight 14 = .ok (.iload_n 2, 1) := dc_28 (gB_l lq_cX10_wholeWeight (p := 14) (o := 28) rfl)
theorem dX10_wholeWeight_15 : decode cX10_wholeWeight 15 = .ok (.invokestatic 15, 3) := dc_184 (gB_l lq_cX10_wholeWeight (p := 15) (o := 184) rfl) (gB_l lq_cX10_wholeWeight (p := 16) (o := 0) rfl) (gB_l lq_cX10_wholeWeight (p := 17) (o := 15) rfl) rfl
theorem dX10_wholeWeight_18 : decode cX10_wholeWeight 18 = .ok (.iadd, 1) := dc_96 (gB_l lq_cX10_wholeWeight (p := 18) (o := 96) rfl)
theorem dX10_wholeWeight_19 : decode cX10_wholeWeight 19 = .ok (.istore_n 1, 1) := dc_60 (gB_l lq_cX10_wholeWeight (p := 19) (o := 60) rfl)
theorem dX10_wholeWeight_20 : decode cX10_wholeWeight 20 = .ok (.iinc 2 1, 3) := dc_132 (gB_l lq_cX10_wholeWeight (p := 20) (o := 132) rfl) (gB_l lq_cX10_wholeWeight (p := 21) (o := 2) rfl) (gB_l lq_cX10_wholeWeight (p := 22) (o := 1) rfl) rfl
theorem dX10_wholeWeight_23 : decode cX10_wholeWeight 23 = .ok (.goto (-19), 3) := dc_167 (gB_l lq_cX10_wholeWeight (p := 23) (o := 167) rfl) (gB_l lq_cX10_wholeWeight (p := 24) (o := 255) rfl) (gB_l lq_cX10_wholeWeight (p := 25) (o := 237) rfl) rfl
theorem dX10_wholeWeight_26 : decode cX10_wholeWeight 26 = .ok (.iload_n 1, 1) := dc_27 (gB_l lq_cX10_wholeWeight (p := 26) (o := 27) rfl)
theorem dX10_wholeWeight_27 : decode cX10_wholeWeight 27 = .ok (.iconst 2, 1) := dc_5 (gB_l lq_cX10_wholeWeight (p := 27) (o := 5) rfl)
theorem dX10_wholeWeight_28 : decode cX10_wholeWeight 28 = .ok (.idiv, 1) := dc_108 (gB_l lq_cX10_wholeWeight (p := 28) (o := 108) rfl)
theorem dX10_wholeWeight_29 : decode cX10_wholeWeight 29 = .ok (.ireturn, 1) := dc_172 (gB_l lq_cX10_wholeWeight (p := 29) (o := 172) rfl)
abbrev r2_cX11_adds : List Nat := [172, 42, 180, 0, 65, 25, 5, 182, 0, 90, 25, 5, 28, 29, 21, 4, 182, 1, 29, 42, 27, 182, 0, 97, 21, 6, 172]
def a1_cX11_adds : List Nat := [164, 0, 6, 16, 254, 172, 25, 5, 28, 29, 182, 0, 148, 54, 6, 21, 6, 154, 0, 16, 25, 5, 180, 0, 100, 16, 30, 161, 0, 6, 16, 251]
abbrev r1_cX11_adds : List Nat := a1_cX11_adds ++ r2_cX11_adds
def a0_cX11_adds : List Nat := [42, 27, 182, 0, 116, 58, 5, 25, 5, 198, 0, 26, 25, 5, 28, 29, 182, 1, 25, 153, 0, 16, 21, 4, 4, 161, 0, 10, 21, 4, 16, 9]
abbrev r0_cX11_adds : List Nat := a0_cX11_adds ++ r1_cX11_adds
theorem lq_cX11_adds : (cX11_adds).data.toList.map UInt8.toNat = r0_cX11_adds := by decide +kernel
theorem q1_cX11_adds : ∀ i, (r0_cX11_adds)[32 + i]? = (r1_cX11_adds)[i]? := chn (A := a0_cX11_adds) (B := r1_cX11_adds) (n := 0) (k := 32) rfl (ch0 (R := r0_cX11_adds))
theorem q2_cX11_adds : ∀ i, (r0_cX11_adds)[64 + i]? = (r2_cX11_adds)[i]? := chn (A := a1_cX11_adds) (B := r2_cX11_adds) (n := 32) (k := 32) rfl q1_cX11_adds
theorem dX11_adds_0 : decode cX11_adds 0 = .ok (.aload_n 0, 1) := dc_42 (gB_l lq_cX11_adds (p := 0) (o := 42) rfl)
theorem dX11_adds_1 : decode cX11_adds 1 = .ok (.iload_n 1, 1) := dc_27 (gB_l lq_cX11_adds (p := 1) (o := 27) rfl)
theorem dX11_adds_2 : decode cX11_adds 2 = .ok (.invokevirtual 116, 3) := dc_182 (gB_l lq_cX11_adds (p := 2) (o := 182) rfl) (gB_l lq_cX11_adds (p := 3) (o := 0) rfl) (gB_l lq_cX11_adds (p := 4) (o := 116) rfl) rfl
theorem dX11_adds_5 : decode cX11_adds 5 = .ok (.astore 5, 2) := dc_58 (gB_l lq_cX11_adds (p := 5) (o := 58) rfl) (gB_l lq_cX11_adds (p := 6) (o := 5) rfl)
theorem dX11_adds_7 : decode cX11_adds 7 = .ok (.aload 5, 2) := dc_25 (gB_l lq_cX11_adds (p := 7) (o := 25) rfl) (gB_l lq_cX11_adds (p := 8) (o := 5) rfl)
theorem dX11_adds_9 : decode cX11_adds 9 = .ok (.ifnull 26, 3) := dc_198 (gB_l lq_cX11_adds (p := 9) (o := 198) rfl) (gB_l lq_cX11_adds (p := 10) (o := 0) rfl) (gB_l lq_cX11_adds (p := 11) (o := 26) rfl) rfl
theorem dX11_adds_12 : decode cX11_adds 12 = .ok (.aload 5, 2) := dc_25 (gB_l lq_cX11_adds (p := 12) (o := 25) rfl) (gB_l lq_cX11_adds (p := 13) (o := 5) rfl)
theorem dX11_adds_14 : decode cX11_adds 14 = .ok (.iload_n 2, 1) := dc_28 (gB_l lq_cX11_adds (p := 14) (o := 28) rfl)
theorem dX11_adds_15 : decode cX11_adds 15 = .ok (.iload_n 3, 1) := dc_29 (gB_l lq_cX11_adds (p := 15) (o := 29) rfl)
theorem dX11_adds_16 : decode cX11_adds 16 = .ok (.invokevirtual 281, 3) := dc_182 (gB_l lq_cX11_adds (p := 16) (o := 182) rfl) (gB_l lq_cX11_adds (p := 17) (o := 1) rfl) (gB_l lq_cX11_adds (p := 18) (o := 25) rfl) rfl
theorem dX11_adds_19 : decode cX11_adds 19 = .ok (.ifCond .eq 16, 3) := dc_153 (gB_l lq_cX11_adds (p := 19) (o := 153) rfl) (gB_l lq_cX11_adds (p := 20) (o := 0) rfl) (gB_l lq_cX11_adds (p := 21) (o := 16) rfl) rfl
theorem dX11_adds_22 : decode cX11_adds 22 = .ok (.iload 4, 2) := dc_21 (gB_l lq_cX11_adds (p := 22) (o := 21) rfl) (gB_l lq_cX11_adds (p := 23) (o := 4) rfl)
theorem dX11_adds_24 : decode cX11_adds 24 = .ok (.iconst 1, 1) := dc_4 (gB_l lq_cX11_adds (p := 24) (o := 4) rfl)
theorem dX11_adds_25 : decode cX11_adds 25 = .ok (.if_icmp .lt 10, 3) := dc_161 (gB_l lq_cX11_adds (p := 25) (o := 161) rfl) (gB_l lq_cX11_adds (p := 26) (o := 0) rfl) (gB_l lq_cX11_adds (p := 27) (o := 10) rfl) rfl
theorem dX11_adds_28 : decode cX11_adds 28 = .ok (.iload 4, 2) := dc_21 (gB_l lq_cX11_adds (p := 28) (o := 21) rfl) (gB_l lq_cX11_adds (p := 29) (o := 4) rfl)
theorem dX11_adds_30 : decode cX11_adds 30 = .ok (.bipush 9, 2) := dc_16 (gB_l lq_cX11_adds (p := 30) (o := 16) rfl) (gB_l lq_cX11_adds (p := 31) (o := 9) rfl) rfl
theorem dX11_adds_32 : decode cX11_adds 32 = .ok (.if_icmp .le 6, 3) := dc_164 (gB_c lq_cX11_adds q1_cX11_adds 0 (o := 164) rfl) (gB_c lq_cX11_adds q1_cX11_adds 1 (o := 0) rfl) (gB_c lq_cX11_adds q1_cX11_adds 2 (o := 6) rfl) rfl
theorem dX11_adds_35 : decode cX11_adds 35 = .ok (.bipush (-2), 2) := dc_16 (gB_c lq_cX11_adds q1_cX11_adds 3 (o := 16) rfl) (gB_c lq_cX11_adds q1_cX11_adds 4 (o := 254) rfl) rfl
theorem dX11_adds_37 : decode cX11_adds 37 = .ok (.ireturn, 1) := dc_172 (gB_c lq_cX11_adds q1_cX11_adds 5 (o := 172) rfl)
theorem dX11_adds_38 : decode cX11_adds 38 = .ok (.aload 5, 2) := dc_25 (gB_c lq_cX11_adds q1_cX11_adds 6 (o := 25) rfl) (gB_c lq_cX11_adds q1_cX11_adds 7 (o := 5) rfl)
theorem dX11_adds_40 : decode cX11_adds 40 = .ok (.iload_n 2, 1) := dc_28 (gB_c lq_cX11_adds q1_cX11_adds 8 (o := 28) rfl)
theorem dX11_adds_41 : decode cX11_adds 41 = .ok (.iload_n 3, 1) := dc_29 (gB_c lq_cX11_adds q1_cX11_adds 9 (o := 29) rfl)
theorem dX11_adds_42 : decode cX11_adds 42 = .ok (.invokevirtual 148, 3) := dc_182 (gB_c lq_cX11_adds q1_cX11_adds 10 (o := 182) rfl) (gB_c lq_cX11_adds q1_cX11_adds 11 (o := 0) rfl) (gB_c lq_cX11_adds q1_cX11_adds 12 (o := 148) rfl) rfl
theorem dX11_adds_45 : decode cX11_adds 45 = .ok (.istore 6, 2) := dc_54 (gB_c lq_cX11_adds q1_cX11_adds 13 (o := 54) rfl) (gB_c lq_cX11_adds q1_cX11_adds 14 (o := 6) rfl)
theorem dX11_adds_47 : decode cX11_adds 47 = .ok (.iload 6, 2) := dc_21 (gB_c lq_cX11_adds q1_cX11_adds 15 (o := 21) rfl) (gB_c lq_cX11_adds q1_cX11_adds 16 (o := 6) rfl)
theorem dX11_adds_49 : decode cX11_adds 49 = .ok (.ifCond .ne 16, 3) := dc_154 (gB_c lq_cX11_adds q1_cX11_adds 17 (o := 154) rfl) (gB_c lq_cX11_adds q1_cX11_adds 18 (o := 0) rfl) (gB_c lq_cX11_adds q1_cX11_adds 19 (o := 16) rfl) rfl
theorem dX11_adds_52 : decode cX11_adds 52 = .ok (.aload 5, 2) := dc_25 (gB_c lq_cX11_adds q1_cX11_adds 20 (o := 25) rfl) (gB_c lq_cX11_adds q1_cX11_adds 21 (o := 5) rfl)
theorem dX11_adds_54 : decode cX11_adds 54 = .ok (.getfield 100, 3) := dc_180 (gB_c lq_cX11_adds q1_cX11_adds 22 (o := 180) rfl) (gB_c lq_cX11_adds q1_cX11_adds 23 (o := 0) rfl) (gB_c lq_cX11_adds q1_cX11_adds 24 (o := 100) rfl) rfl
theorem dX11_adds_57 : decode cX11_adds 57 = .ok (.bipush 30, 2) := dc_16 (gB_c lq_cX11_adds q1_cX11_adds 25 (o := 16) rfl) (gB_c lq_cX11_adds q1_cX11_adds 26 (o := 30) rfl) rfl
theorem dX11_adds_59 : decode cX11_adds 59 = .ok (.if_icmp .lt 6, 3) := dc_161 (gB_c lq_cX11_adds q1_cX11_adds 27 (o := 161) rfl) (gB_c lq_cX11_adds q1_cX11_adds 28 (o := 0) rfl) (gB_c lq_cX11_adds q1_cX11_adds 29 (o := 6) rfl) rfl
theorem dX11_adds_62 : decode cX11_adds 62 = .ok (.bipush (-5), 2) := dc_16 (gB_c lq_cX11_adds q1_cX11_adds 30 (o := 16) rfl) (gB_c lq_cX11_adds q1_cX11_adds 31 (o := 251) rfl) rfl
theorem dX11_adds_64 : decode cX11_adds 64 = .ok (.ireturn, 1) := dc_172 (gB_c lq_cX11_adds q2_cX11_adds 0 (o := 172) rfl)
theorem dX11_adds_65 : decode cX11_adds 65 = .ok (.aload_n 0, 1) := dc_42 (gB_c lq_cX11_adds q2_cX11_adds 1 (o := 42) rfl)
theorem dX11_adds_66 : decode cX11_adds 66 = .ok (.getfield 65, 3) := dc_180 (gB_c lq_cX11_adds q2_cX11_adds 2 (o := 180) rfl) (gB_c lq_cX11_adds q2_cX11_adds 3 (o := 0) rfl) (gB_c lq_cX11_adds q2_cX11_adds 4 (o := 65) rfl) rfl
theorem dX11_adds_69 : decode cX11_adds 69 = .ok (.aload 5, 2) := dc_25 (gB_c lq_cX11_adds q2_cX11_adds 5 (o := 25) rfl) (gB_c lq_cX11_adds q2_cX11_adds 6 (o := 5) rfl)
theorem dX11_adds_71 : decode cX11_adds 71 = .ok (.invokevirtual 90, 3) := dc_182 (gB_c lq_cX11_adds q2_cX11_adds 7 (o := 182) rfl) (gB_c lq_cX11_adds q2_cX11_adds 8 (o := 0) rfl) (gB_c lq_cX11_adds q2_cX11_adds 9 (o := 90) rfl) rfl
theorem dX11_adds_74 : decode cX11_adds 74 = .ok (.aload 5, 2) := dc_25 (gB_c lq_cX11_adds q2_cX11_adds 10 (o := 25) rfl) (gB_c lq_cX11_adds q2_cX11_adds 11 (o := 5) rfl)
theorem dX11_adds_76 : decode cX11_adds 76 = .ok (.iload_n 2, 1) := dc_28 (gB_c lq_cX11_adds q2_cX11_adds 12 (o := 28) rfl)
theorem dX11_adds_77 : decode cX11_adds 77 = .ok (.iload_n 3, 1) := dc_29 (gB_c lq_cX11_adds q2_cX11_adds 13 (o := 29) rfl)
theorem dX11_adds_78 : decode cX11_adds 78 = .ok (.iload 4, 2) := dc_21 (gB_c lq_cX11_adds q2_cX11_adds 14 (o := 21) rfl) (gB_c lq_cX11_adds q2_cX11_adds 15 (o := 4) rfl)
theorem dX11_adds_80 : decode cX11_adds 80 = .ok (.invokevirtual 285, 3) := dc_182 (gB_c lq_cX11_adds q2_cX11_adds 16 (o := 182) rfl) (gB_c lq_cX11_adds q2_cX11_adds 17 (o := 1) rfl) (gB_c lq_cX11_adds q2_cX11_adds 18 (o := 29) rfl) rfl
theorem dX11_adds_83 : decode cX11_adds 83 = .ok (.aload_n 0, 1) := dc_42 (gB_c lq_cX11_adds q2_cX11_adds 19 (o := 42) rfl)
theorem dX11_adds_84 : decode cX11_adds 84 = .ok (.iload_n 1, 1) := dc_27 (gB_c lq_cX11_adds q2_cX11_adds 20 (o := 27) rfl)
theorem dX11_adds_85 : decode cX11_adds 85 = .ok (.invokevirtual 97, 3) := dc_182 (gB_c lq_cX11_adds q2_cX11_adds 21 (o := 182) rfl) (gB_c lq_cX11_adds q2_cX11_adds 22 (o := 0) rfl) (gB_c lq_cX11_adds q2_cX11_adds 23 (o := 97) rfl) rfl
theorem dX11_adds_88 : decode cX11_adds 88 = .ok (.iload 6, 2) := dc_21 (gB_c lq_cX11_adds q2_cX11_adds 24 (o := 21) rfl) (gB_c lq_cX11_adds q2_cX11_adds 25 (o := 6) rfl)
theorem dX11_adds_90 : decode cX11_adds 90 = .ok (.ireturn, 1) := dc_172 (gB_c lq_cX11_adds q2_cX11_adds 26 (o := 172) rfl)
abbrev r1_cX11_among : List Nat := [16, 254, 172, 42, 180, 0, 47, 42, 180, 0, 32, 27, 50, 29, 28, 25, 4, 180, 0, 193, 182, 0, 224, 172]
def a0_cX11_among : List Nat := [42, 27, 28, 182, 0, 189, 58, 4, 25, 4, 198, 0, 22, 28, 184, 0, 204, 153, 0, 15, 28, 5, 159, 0, 10, 29, 184, 0, 172, 154, 0, 6]
abbrev r0_cX11_among : List Nat := a0_cX11_among ++ r1_cX11_among
theorem lq_cX11_among : (cX11_among).data.toList.map UInt8.toNat = r0_cX11_among := by decide +kernel
theorem q1_cX11_among : ∀ i, (r0_cX11_among)[32 + i]? = (r1_cX11_among)[i]? := chn (A := a0_cX11_among) (B := r1_cX11_among) (n := 0) (k := 32) rfl (ch0 (R := r0_cX11_among))
theorem dX11_among_0 : decode cX11_among 0 = .ok (.aload_n 0, 1) := dc_42 (gB_l lq_cX11_among (p := 0) (o := 42) rfl)
theorem dX11_among_1 : decode cX11_among 1 = .ok (.iload_n 1, 1) := dc_27 (gB_l lq_cX11_among (p := 1) (o := 27) rfl)
theorem dX11_among_2 : decode cX11_among 2 = .ok (.iload_n 2, 1) := dc_28 (gB_l lq_cX11_among (p := 2) (o := 28) rfl)
theorem dX11_among_3 : decode cX11_among 3 = .ok (.invokevirtual 189, 3) := dc_182 (gB_l lq_cX11_among (p := 3) (o := 182) rfl) (gB_l lq_cX11_among (p := 4) (o := 0) rfl) (gB_l lq_cX11_among (p := 5) (o := 189) rfl) rfl
theorem dX11_among_6 : decode cX11_among 6 = .ok (.astore 4, 2) := dc_58 (gB_l lq_cX11_among (p := 6) (o := 58) rfl) (gB_l lq_cX11_among (p := 7) (o := 4) rfl)
theorem dX11_among_8 : decode cX11_among 8 = .ok (.aload 4, 2) := dc_25 (gB_l lq_cX11_among (p := 8) (o := 25) rfl) (gB_l lq_cX11_among (p := 9) (o := 4) rfl)
theorem dX11_among_10 : decode cX11_among 10 = .ok (.ifnull 22, 3) := dc_198 (gB_l lq_cX11_among (p := 10) (o := 198) rfl) (gB_l lq_cX11_among (p := 11) (o := 0) rfl) (gB_l lq_cX11_among (p := 12) (o := 22) rfl) rfl
theorem dX11_among_13 : decode cX11_among 13 = .ok (.iload_n 2, 1) := dc_28 (gB_l lq_cX11_among (p := 13) (o := 28) rfl)
theorem dX11_among_14 : decode cX11_among 14 = .ok (.invokestatic 204, 3) := dc_184 (gB_l lq_cX11_among (p := 14) (o := 184) rfl) (gB_l lq_cX11_among (p := 15) (o := 0) rfl) (gB_l lq_cX11_among (p := 16) (o := 204) rfl) rfl
theorem dX11_among_17 : decode cX11_among 17 = .ok (.ifCond .eq 15, 3) := dc_153 (gB_l lq_cX11_among (p := 17) (o := 153) rfl) (gB_l lq_cX11_among (p := 18) (o := 0) rfl) (gB_l lq_cX11_among (p := 19) (o := 15) rfl) rfl
theorem dX11_among_20 : decode cX11_among 20 = .ok (.iload_n 2, 1) := dc_28 (gB_l lq_cX11_among (p := 20) (o := 28) rfl)
theorem dX11_among_21 : decode cX11_among 21 = .ok (.iconst 2, 1) := dc_5 (gB_l lq_cX11_among (p := 21) (o := 5) rfl)
theorem dX11_among_22 : decode cX11_among 22 = .ok (.if_icmp .eq 10, 3) := dc_159 (gB_l lq_cX11_among (p := 22) (o := 159) rfl) (gB_l lq_cX11_among (p := 23) (o := 0) rfl) (gB_l lq_cX11_among (p := 24) (o := 10) rfl) rfl
theorem dX11_among_25 : decode cX11_among 25 = .ok (.iload_n 3, 1) := dc_29 (gB_l lq_cX11_among (p := 25) (o := 29) rfl)
theorem dX11_among_26 : decode cX11_among 26 = .ok (.invokestatic 172, 3) := dc_184 (gB_l lq_cX11_among (p := 26) (o := 184) rfl) (gB_l lq_cX11_among (p := 27) (o := 0) rfl) (gB_l lq_cX11_among (p := 28) (o := 172) rfl) rfl
theorem dX11_among_29 : decode cX11_among 29 = .ok (.ifCond .ne 6, 3) := dc_154 (gB_l lq_cX11_among (p := 29) (o := 154) rfl) (gB_l lq_cX11_among (p := 30) (o := 0) rfl) (gB_l lq_cX11_among (p := 31) (o := 6) rfl) rfl
theorem dX11_among_32 : decode cX11_among 32 = .ok (.bipush (-2), 2) := dc_16 (gB_c lq_cX11_among q1_cX11_among 0 (o := 16) rfl) (gB_c lq_cX11_among q1_cX11_among 1 (o := 254) rfl) rfl
theorem dX11_among_34 : decode cX11_among 34 = .ok (.ireturn, 1) := dc_172 (gB_c lq_cX11_among q1_cX11_among 2 (o := 172) rfl)
theorem dX11_among_35 : decode cX11_among 35 = .ok (.aload_n 0, 1) := dc_42 (gB_c lq_cX11_among q1_cX11_among 3 (o := 42) rfl)
theorem dX11_among_36 : decode cX11_among 36 = .ok (.getfield 47, 3) := dc_180 (gB_c lq_cX11_among q1_cX11_among 4 (o := 180) rfl) (gB_c lq_cX11_among q1_cX11_among 5 (o := 0) rfl) (gB_c lq_cX11_among q1_cX11_among 6 (o := 47) rfl) rfl
theorem dX11_among_39 : decode cX11_among 39 = .ok (.aload_n 0, 1) := dc_42 (gB_c lq_cX11_among q1_cX11_among 7 (o := 42) rfl)
theorem dX11_among_40 : decode cX11_among 40 = .ok (.getfield 32, 3) := dc_180 (gB_c lq_cX11_among q1_cX11_among 8 (o := 180) rfl) (gB_c lq_cX11_among q1_cX11_among 9 (o := 0) rfl) (gB_c lq_cX11_among q1_cX11_among 10 (o := 32) rfl) rfl
theorem dX11_among_43 : decode cX11_among 43 = .ok (.iload_n 1, 1) := dc_27 (gB_c lq_cX11_among q1_cX11_among 11 (o := 27) rfl)
theorem dX11_among_44 : decode cX11_among 44 = .ok (.aaload, 1) := dc_50 (gB_c lq_cX11_among q1_cX11_among 12 (o := 50) rfl)
theorem dX11_among_45 : decode cX11_among 45 = .ok (.iload_n 3, 1) := dc_29 (gB_c lq_cX11_among q1_cX11_among 13 (o := 29) rfl)
theorem dX11_among_46 : decode cX11_among 46 = .ok (.iload_n 2, 1) := dc_28 (gB_c lq_cX11_among q1_cX11_among 14 (o := 28) rfl)
theorem dX11_among_47 : decode cX11_among 47 = .ok (.aload 4, 2) := dc_25 (gB_c lq_cX11_among q1_cX11_among 15 (o := 25) rfl) (gB_c lq_cX11_among q1_cX11_among 16 (o := 4) rfl)
theorem dX11_among_49 : decode cX11_among 49 = .ok (.getfield 193, 3) := dc_180 (gB_c lq_cX11_among q1_cX11_among 17 (o := 180) rfl) (gB_c lq_cX11_among q1_cX11_among 18 (o := 0) rfl) (gB_c lq_cX11_among q1_cX11_among 19 (o := 193) rfl) rfl
theorem dX11_among_52 : decode cX11_among 52 = .ok (.invokevirtual 224, 3) := dc_182 (gB_c lq_cX11_among q1_cX11_among 20 (o := 182) rfl) (gB_c lq_cX11_among q1_cX11_among 21 (o := 0) rfl) (gB_c lq_cX11_among q1_cX11_among 22 (o := 224) rfl) rfl
theorem dX11_among_55 : decode cX11_among 55 = .ok (.ireturn, 1) := dc_172 (gB_c lq_cX11_among q1_cX11_among 23 (o := 172) rfl)
abbrev r1_cX11_bag : List Nat := [0, 243, 172, 28, 4, 160, 0, 12, 25, 4, 29, 184, 0, 246, 167, 0, 5, 16, 254, 172]
def a0_cX11_bag : List Nat := [42, 27, 182, 0, 116, 58, 4, 25, 4, 198, 0, 12, 25, 4, 29, 182, 0, 141, 154, 0, 6, 16, 254, 172, 28, 154, 0, 10, 25, 4, 29, 184]
abbrev r0_cX11_bag : List Nat := a0_cX11_bag ++ r1_cX11_bag
theorem lq_cX11_bag : (cX11_bag).data.toList.map UInt8.toNat = r0_cX11_bag := by decide +kernel
theorem q1_cX11_bag : ∀ i, (r0_cX11_bag)[32 + i]? = (r1_cX11_bag)[i]? := chn (A := a0_cX11_bag) (B := r1_cX11_bag) (n := 0) (k := 32) rfl (ch0 (R := r0_cX11_bag))
theorem dX11_bag_0 : decode cX11_bag 0 = .ok (.aload_n 0, 1) := dc_42 (gB_l lq_cX11_bag (p := 0) (o := 42) rfl)
theorem dX11_bag_1 : decode cX11_bag 1 = .ok (.iload_n 1, 1) := dc_27 (gB_l lq_cX11_bag (p := 1) (o := 27) rfl)
theorem dX11_bag_2 : decode cX11_bag 2 = .ok (.invokevirtual 116, 3) := dc_182 (gB_l lq_cX11_bag (p := 2) (o := 182) rfl) (gB_l lq_cX11_bag (p := 3) (o := 0) rfl) (gB_l lq_cX11_bag (p := 4) (o := 116) rfl) rfl
theorem dX11_bag_5 : decode cX11_bag 5 = .ok (.astore 4, 2) := dc_58 (gB_l lq_cX11_bag (p := 5) (o := 58) rfl) (gB_l lq_cX11_bag (p := 6) (o := 4) rfl)
theorem dX11_bag_7 : decode cX11_bag 7 = .ok (.aload 4, 2) := dc_25 (gB_l lq_cX11_bag (p := 7) (o := 25) rfl) (gB_l lq_cX11_bag (p := 8) (o := 4) rfl)
theorem dX11_bag_9 : decode cX11_bag 9 = .ok (.ifnull 12, 3) := dc_198 (gB_l lq_cX11_bag (p := 9) (o := 198) rfl) (gB_l lq_cX11_bag (p := 10) (o := 0) rfl) (gB_l lq_cX11_bag (p := 11) (o := 12) rfl) rfl
theorem dX11_bag_12 : decode cX11_bag 12 = .ok (.aload 4, 2) := dc_25 (gB_l lq_cX11_bag (p := 12) (o := 25) rfl) (gB_l lq_cX11_bag (p := 13) (o := 4) rfl)
theorem dX11_bag_14 : decode cX11_bag 14 = .ok (.iload_n 3, 1) := dc_29 (gB_l lq_cX11_bag (p := 14) (o := 29) rfl)
theorem dX11_bag_15 : decode cX11_bag 15 = .ok (.invokevirtual 141, 3) := dc_182 (gB_l lq_cX11_bag (p := 15) (o := 182) rfl) (gB_l lq_cX11_bag (p := 16) (o := 0) rfl) (gB_l lq_cX11_bag (p := 17) (o := 141) rfl) rfl
theorem dX11_bag_18 : decode cX11_bag 18 = .ok (.ifCond .ne 6, 3) := dc_154 (gB_l lq_cX11_bag (p := 18) (o := 154) rfl) (gB_l lq_cX11_bag (p := 19) (o := 0) rfl) (gB_l lq_cX11_bag (p := 20) (o := 6) rfl) rfl
theorem dX11_bag_21 : decode cX11_bag 21 = .ok (.bipush (-2), 2) := dc_16 (gB_l lq_cX11_bag (p := 21) (o := 16) rfl) (gB_l lq_cX11_bag (p := 22) (o := 254) rfl) rfl
theorem dX11_bag_23 : decode cX11_bag 23 = .ok (.ireturn, 1) := dc_172 (gB_l lq_cX11_bag (p := 23) (o := 172) rfl)
theorem dX11_bag_24 : decode cX11_bag 24 = .ok (.iload_n 2, 1) := dc_28 (gB_l lq_cX11_bag (p := 24) (o := 28) rfl)
theorem dX11_bag_25 : decode cX11_bag 25 = .ok (.ifCond .ne 10, 3) := dc_154 (gB_l lq_cX11_bag (p := 25) (o := 154) rfl) (gB_l lq_cX11_bag (p := 26) (o := 0) rfl) (gB_l lq_cX11_bag (p := 27) (o := 10) rfl) rfl
theorem dX11_bag_28 : decode cX11_bag 28 = .ok (.aload 4, 2) := dc_25 (gB_l lq_cX11_bag (p := 28) (o := 25) rfl) (gB_l lq_cX11_bag (p := 29) (o := 4) rfl)
theorem dX11_bag_30 : decode cX11_bag 30 = .ok (.iload_n 3, 1) := dc_29 (gB_l lq_cX11_bag (p := 30) (o := 29) rfl)
theorem dX11_bag_31 : decode cX11_bag 31 = .ok (.invokestatic 243, 3) := dc_184 (gB_l lq_cX11_bag (p := 31) (o := 184) rfl) (gB_c lq_cX11_bag q1_cX11_bag 0 (o := 0) rfl) (gB_c lq_cX11_bag q1_cX11_bag 1 (o := 243) rfl) rfl
theorem dX11_bag_34 : decode cX11_bag 34 = .ok (.ireturn, 1) := dc_172 (gB_c lq_cX11_bag q1_cX11_bag 2 (o := 172) rfl)
theorem dX11_bag_35 : decode cX11_bag 35 = .ok (.iload_n 2, 1) := dc_28 (gB_c lq_cX11_bag q1_cX11_bag 3 (o := 28) rfl)
theorem dX11_bag_36 : decode cX11_bag 36 = .ok (.iconst 1, 1) := dc_4 (gB_c lq_cX11_bag q1_cX11_bag 4 (o := 4) rfl)
theorem dX11_bag_37 : decode cX11_bag 37 = .ok (.if_icmp .ne 12, 3) := dc_160 (gB_c lq_cX11_bag q1_cX11_bag 5 (o := 160) rfl) (gB_c lq_cX11_bag q1_cX11_bag 6 (o := 0) rfl) (gB_c lq_cX11_bag q1_cX11_bag 7 (o := 12) rfl) rfl
theorem dX11_bag_40 : decode cX11_bag 40 = .ok (.aload 4, 2) := dc_25 (gB_c lq_cX11_bag q1_cX11_bag 8 (o := 25) rfl) (gB_c lq_cX11_bag q1_cX11_bag 9 (o := 4) rfl)
theorem dX11_bag_42 : decode cX11_bag 42 = .ok (.iload_n 3, 1) := dc_29 (gB_c lq_cX11_bag q1_cX11_bag 10 (o := 29) rfl)
theorem dX11_bag_43 : decode cX11_bag 43 = .ok (.invokestatic 246, 3) := dc_184 (gB_c lq_cX11_bag q1_cX11_bag 11 (o := 184) rfl) (gB_c lq_cX11_bag q1_cX11_bag 12 (o := 0) rfl) (gB_c lq_cX11_bag q1_cX11_bag 13 (o := 246) rfl) rfl
theorem dX11_bag_46 : decode cX11_bag 46 = .ok (.goto 5, 3) := dc_167 (gB_c lq_cX11_bag q1_cX11_bag 14 (o := 167) rfl) (gB_c lq_cX11_bag q1_cX11_bag 15 (o := 0) rfl) (gB_c lq_cX11_bag q1_cX11_bag 16 (o := 5) rfl) rfl
theorem dX11_bag_49 : decode cX11_bag 49 = .ok (.bipush (-2), 2) := dc_16 (gB_c lq_cX11_bag q1_cX11_bag 17 (o := 16) rfl) (gB_c lq_cX11_bag q1_cX11_bag 18 (o := 254) rfl) rfl
theorem dX11_bag_51 : decode cX11_bag 51 = .ok (.ireturn, 1) := dc_172 (gB_c lq_cX11_bag q1_cX11_bag 19 (o := 172) rfl)
abbrev r1_cX11_best : List Nat := [4, 180, 0, 198, 29, 46, 172]
def a0_cX11_best : List Nat := [42, 27, 28, 182, 0, 189, 58, 4, 25, 4, 198, 0, 16, 42, 180, 0, 32, 27, 50, 29, 182, 0, 141, 154, 0, 8, 16, 254, 167, 0, 10, 25]
abbrev r0_cX11_best : List Nat := a0_cX11_best ++ r1_cX11_best
theorem lq_cX11_best : (cX11_best).data.toList.map UInt8.toNat = r0_cX11_best := by decide +kernel
theorem q1_cX11_best : ∀ i, (r0_cX11_best)[32 + i]? = (r1_cX11_best)[i]? := chn (A := a0_cX11_best) (B := r1_cX11_best) (n := 0) (k := 32) rfl (ch0 (R := r0_cX11_best))
theorem dX11_best_0 : decode cX11_best 0 = .ok (.aload_n 0, 1) := dc_42 (gB_l lq_cX11_best (p := 0) (o := 42) rfl)
theorem dX11_best_1 : decode cX11_best 1 = .ok (.iload_n 1, 1) := dc_27 (gB_l lq_cX11_best (p := 1) (o := 27) rfl)
theorem dX11_best_2 : decode cX11_best 2 = .ok (.iload_n 2, 1) := dc_28 (gB_l lq_cX11_best (p := 2) (o := 28) rfl)
theorem dX11_best_3 : decode cX11_best 3 = .ok (.invokevirtual 189, 3) := dc_182 (gB_l lq_cX11_best (p := 3) (o := 182) rfl) (gB_l lq_cX11_best (p := 4) (o := 0) rfl) (gB_l lq_cX11_best (p := 5) (o := 189) rfl) rfl
theorem dX11_best_6 : decode cX11_best 6 = .ok (.astore 4, 2) := dc_58 (gB_l lq_cX11_best (p := 6) (o := 58) rfl) (gB_l lq_cX11_best (p := 7) (o := 4) rfl)
theorem dX11_best_8 : decode cX11_best 8 = .ok (.aload 4, 2) := dc_25 (gB_l lq_cX11_best (p := 8) (o := 25) rfl) (gB_l lq_cX11_best (p := 9) (o := 4) rfl)
theorem dX11_best_10 : decode cX11_best 10 = .ok (.ifnull 16, 3) := dc_198 (gB_l lq_cX11_best (p := 10) (o := 198) rfl) (gB_l lq_cX11_best (p := 11) (o := 0) rfl) (gB_l lq_cX11_best (p := 12) (o := 16) rfl) rfl
theorem dX11_best_13 : decode cX11_best 13 = .ok (.aload_n 0, 1) := dc_42 (gB_l lq_cX11_best (p := 13) (o := 42) rfl)
theorem dX11_best_14 : decode cX11_best 14 = .ok (.getfield 32, 3) := dc_180 (gB_l lq_cX11_best (p := 14) (o := 180) rfl) (gB_l lq_cX11_best (p := 15) (o := 0) rfl) (gB_l lq_cX11_best (p := 16) (o := 32) rfl) rfl
theorem dX11_best_17 : decode cX11_best 17 = .ok (.iload_n 1, 1) := dc_27 (gB_l lq_cX11_best (p := 17) (o := 27) rfl)
theorem dX11_best_18 : decode cX11_best 18 = .ok (.aaload, 1) := dc_50 (gB_l lq_cX11_best (p := 18) (o := 50) rfl)
theorem dX11_best_19 : decode cX11_best 19 = .ok (.iload_n 3, 1) := dc_29 (gB_l lq_cX11_best (p := 19) (o := 29) rfl)
theorem dX11_best_20 : decode cX11_best 20 = .ok (.invokevirtual 141, 3) := dc_182 (gB_l lq_cX11_best (p := 20) (o := 182) rfl) (gB_l lq_cX11_best (p := 21) (o := 0) rfl) (gB_l lq_cX11_best (p := 22) (o := 141) rfl) rfl
theorem dX11_best_23 : decode cX11_best 23 = .ok (.ifCond .ne 8, 3) := dc_154 (gB_l lq_cX11_best (p := 23) (o := 154) rfl) (gB_l lq_cX11_best (p := 24) (o := 0) rfl) (gB_l lq_cX11_best (p := 25) (o := 8) rfl) rfl
theorem dX11_best_26 : decode cX11_best 26 = .ok (.bipush (-2), 2) := dc_16 (gB_l lq_cX11_best (p := 26) (o := 16) rfl) (gB_l lq_cX11_best (p := 27) (o := 254) rfl) rfl
theorem dX11_best_28 : decode cX11_best 28 = .ok (.goto 10, 3) := dc_167 (gB_l lq_cX11_best (p := 28) (o := 167) rfl) (gB_l lq_cX11_best (p := 29) (o := 0) rfl) (gB_l lq_cX11_best (p := 30) (o := 10) rfl) rfl
theorem dX11_best_31 : decode cX11_best 31 = .ok (.aload 4, 2) := dc_25 (gB_l lq_cX11_best (p := 31) (o := 25) rfl) (gB_c lq_cX11_best q1_cX11_best 0 (o := 4) rfl)
theorem dX11_best_33 : decode cX11_best 33 = .ok (.getfield 198, 3) := dc_180 (gB_c lq_cX11_best q1_cX11_best 1 (o := 180) rfl) (gB_c lq_cX11_best q1_cX11_best 2 (o := 0) rfl) (gB_c lq_cX11_best q1_cX11_best 3 (o := 198) rfl) rfl
theorem dX11_best_36 : decode cX11_best 36 = .ok (.iload_n 3, 1) := dc_29 (gB_c lq_cX11_best q1_cX11_best 4 (o := 29) rfl)
theorem dX11_best_37 : decode cX11_best 37 = .ok (.iaload, 1) := dc_46 (gB_c lq_cX11_best q1_cX11_best 5 (o := 46) rfl)
theorem dX11_best_38 : decode cX11_best 38 = .ok (.ireturn, 1) := dc_172 (gB_c lq_cX11_best q1_cX11_best 6 (o := 172) rfl)
abbrev r1_cX11_bound : List Nat := [25, 4, 184, 0, 215, 172, 29, 154, 0, 12, 25, 4, 28, 184, 0, 218, 167, 0, 5, 16, 254, 172]
def a0_cX11_bound : List Nat := [42, 27, 182, 0, 116, 58, 4, 25, 4, 198, 0, 10, 28, 184, 0, 204, 154, 0, 6, 16, 254, 172, 29, 4, 160, 0, 14, 28, 5, 160, 0, 9]
abbrev r0_cX11_bound : List Nat := a0_cX11_bound ++ r1_cX11_bound
theorem lq_cX11_bound : (cX11_bound).data.toList.map UInt8.toNat = r0_cX11_bound := by decide +kernel
theorem q1_cX11_bound : ∀ i, (r0_cX11_bound)[32 + i]? = (r1_cX11_bound)[i]? := chn (A := a0_cX11_bound) (B := r1_cX11_bound) (n := 0) (k := 32) rfl (ch0 (R := r0_cX11_bound))
theorem dX11_bound_0 : decode cX11_bound 0 = .ok (.aload_n 0, 1) := dc_42 (gB_l lq_cX11_bound (p := 0) (o := 42) rfl)
theorem dX11_bound_1 : decode cX11_bound 1 = .ok (.iload_n 1, 1) := dc_27 (gB_l lq_cX11_bound (p := 1) (o := 27) rfl)
theorem dX11_bound_2 : decode cX11_bound 2 = .ok (.invokevirtual 116, 3) := dc_182 (gB_l lq_cX11_bound (p := 2) (o := 182) rfl) (gB_l lq_cX11_bound (p := 3) (o := 0) rfl) (gB_l lq_cX11_bound (p := 4) (o := 116) rfl) rfl
theorem dX11_bound_5 : decode cX11_bound 5 = .ok (.astore 4, 2) := dc_58 (gB_l lq_cX11_bound (p := 5) (o := 58) rfl) (gB_l lq_cX11_bound (p := 6) (o := 4) rfl)
theorem dX11_bound_7 : decode cX11_bound 7 = .ok (.aload 4, 2) := dc_25 (gB_l lq_cX11_bound (p := 7) (o := 25) rfl) (gB_l lq_cX11_bound (p := 8) (o := 4) rfl)
theorem dX11_bound_9 : decode cX11_bound 9 = .ok (.ifnull 10, 3) := dc_198 (gB_l lq_cX11_bound (p := 9) (o := 198) rfl) (gB_l lq_cX11_bound (p := 10) (o := 0) rfl) (gB_l lq_cX11_bound (p := 11) (o := 10) rfl) rfl
theorem dX11_bound_12 : decode cX11_bound 12 = .ok (.iload_n 2, 1) := dc_28 (gB_l lq_cX11_bound (p := 12) (o := 28) rfl)
theorem dX11_bound_13 : decode cX11_bound 13 = .ok (.invokestatic 204, 3) := dc_184 (gB_l lq_cX11_bound (p := 13) (o := 184) rfl) (gB_l lq_cX11_bound (p := 14) (o := 0) rfl) (gB_l lq_cX11_bound (p := 15) (o := 204) rfl) rfl
theorem dX11_bound_16 : decode cX11_bound 16 = .ok (.ifCond .ne 6, 3) := dc_154 (gB_l lq_cX11_bound (p := 16) (o := 154) rfl) (gB_l lq_cX11_bound (p := 17) (o := 0) rfl) (gB_l lq_cX11_bound (p := 18) (o := 6) rfl) rfl
theorem dX11_bound_19 : decode cX11_bound 19 = .ok (.bipush (-2), 2) := dc_16 (gB_l lq_cX11_bound (p := 19) (o := 16) rfl) (gB_l lq_cX11_bound (p := 20) (o := 254) rfl) rfl
theorem dX11_bound_21 : decode cX11_bound 21 = .ok (.ireturn, 1) := dc_172 (gB_l lq_cX11_bound (p := 21) (o := 172) rfl)
theorem dX11_bound_22 : decode cX11_bound 22 = .ok (.iload_n 3, 1) := dc_29 (gB_l lq_cX11_bound (p := 22) (o := 29) rfl)
theorem dX11_bound_23 : decode cX11_bound 23 = .ok (.iconst 1, 1) := dc_4 (gB_l lq_cX11_bound (p := 23) (o := 4) rfl)
theorem dX11_bound_24 : decode cX11_bound 24 = .ok (.if_icmp .ne 14, 3) := dc_160 (gB_l lq_cX11_bound (p := 24) (o := 160) rfl) (gB_l lq_cX11_bound (p := 25) (o := 0) rfl) (gB_l lq_cX11_bound (p := 26) (o := 14) rfl) rfl
theorem dX11_bound_27 : decode cX11_bound 27 = .ok (.iload_n 2, 1) := dc_28 (gB_l lq_cX11_bound (p := 27) (o := 28) rfl)
theorem dX11_bound_28 : decode cX11_bound 28 = .ok (.iconst 2, 1) := dc_5 (gB_l lq_cX11_bound (p := 28) (o := 5) rfl)
theorem dX11_bound_29 : decode cX11_bound 29 = .ok (.if_icmp .ne 9, 3) := dc_160 (gB_l lq_cX11_bound (p := 29) (o := 160) rfl) (gB_l lq_cX11_bound (p := 30) (o := 0) rfl) (gB_l lq_cX11_bound (p := 31) (o := 9) rfl) rfl
theorem dX11_bound_32 : decode cX11_bound 32 = .ok (.aload 4, 2) := dc_25 (gB_c lq_cX11_bound q1_cX11_bound 0 (o := 25) rfl) (gB_c lq_cX11_bound q1_cX11_bound 1 (o := 4) rfl)
theorem dX11_bound_34 : decode cX11_bound 34 = .ok (.invokestatic 215, 3) := dc_184 (gB_c lq_cX11_bound q1_cX11_bound 2 (o := 184) rfl) (gB_c lq_cX11_bound q1_cX11_bound 3 (o := 0) rfl) (gB_c lq_cX11_bound q1_cX11_bound 4 (o := 215) rfl) rfl
theorem dX11_bound_37 : decode cX11_bound 37 = .ok (.ireturn, 1) := dc_172 (gB_c lq_cX11_bound q1_cX11_bound 5 (o := 172) rfl)
theorem dX11_bound_38 : decode cX11_bound 38 = .ok (.iload_n 3, 1) := dc_29 (gB_c lq_cX11_bound q1_cX11_bound 6 (o := 29) rfl)
theorem dX11_bound_39 : decode cX11_bound 39 = .ok (.ifCond .ne 12, 3) := dc_154 (gB_c lq_cX11_bound q1_cX11_bound 7 (o := 154) rfl) (gB_c lq_cX11_bound q1_cX11_bound 8 (o := 0) rfl) (gB_c lq_cX11_bound q1_cX11_bound 9 (o := 12) rfl) rfl
theorem dX11_bound_42 : decode cX11_bound 42 = .ok (.aload 4, 2) := dc_25 (gB_c lq_cX11_bound q1_cX11_bound 10 (o := 25) rfl) (gB_c lq_cX11_bound q1_cX11_bound 11 (o := 4) rfl)
theorem dX11_bound_44 : decode cX11_bound 44 = .ok (.iload_n 2, 1) := dc_28 (gB_c lq_cX11_bound q1_cX11_bound 12 (o := 28) rfl)
theorem dX11_bound_45 : decode cX11_bound 45 = .ok (.invokestatic 218, 3) := dc_184 (gB_c lq_cX11_bound q1_cX11_bound 13 (o := 184) rfl) (gB_c lq_cX11_bound q1_cX11_bound 14 (o := 0) rfl) (gB_c lq_cX11_bound q1_cX11_bound 15 (o := 218) rfl) rfl
theorem dX11_bound_48 : decode cX11_bound 48 = .ok (.goto 5, 3) := dc_167 (gB_c lq_cX11_bound q1_cX11_bound 16 (o := 167) rfl) (gB_c lq_cX11_bound q1_cX11_bound 17 (o := 0) rfl) (gB_c lq_cX11_bound q1_cX11_bound 18 (o := 5) rfl) rfl
theorem dX11_bound_51 : decode cX11_bound 51 = .ok (.bipush (-2), 2) := dc_16 (gB_c lq_cX11_bound q1_cX11_bound 19 (o := 16) rfl) (gB_c lq_cX11_bound q1_cX11_bound 20 (o := 254) rfl) rfl
theorem dX11_bound_53 : decode cX11_bound 53 = .ok (.ireturn, 1) := dc_172 (gB_c lq_cX11_bound q1_cX11_bound 21 (o := 172) rfl)
abbrev r1_cX11_count : List Nat := [42, 182, 0, 109, 172, 42, 180, 0, 61, 180, 0, 113, 172, 42, 180, 0, 14, 180, 0, 79, 172, 42, 180, 0, 18, 180, 0, 79, 172, 2, 172]
def a0_cX11_count : List Nat := [27, 170, 0, 0, 0, 0, 0, 60, 0, 0, 0, 0, 0, 0, 0, 3, 0, 0, 0, 31, 0, 0, 0, 36, 0, 0, 0, 44, 0, 0, 0, 52]
abbrev r0_cX11_count : List Nat := a0_cX11_count ++ r1_cX11_count
theorem lq_cX11_count : (cX11_count).data.toList.map UInt8.toNat = r0_cX11_count := by decide +kernel
theorem q1_cX11_count : ∀ i, (r0_cX11_count)[32 + i]? = (r1_cX11_count)[i]? := chn (A := a0_cX11_count) (B := r1_cX11_count) (n := 0) (k := 32) rfl (ch0 (R := r0_cX11_count))
theorem dX11_count_0 : decode cX11_count 0 = .ok (.iload_n 1, 1) := dc_27 (gB_l lq_cX11_count (p := 0) (o := 27) rfl)
theorem dX11_count_1 : decode cX11_count 1 = .ok (.tableswitch 60 0 3 #[31, 36, 44, 52], 31) := by decide +kernel
theorem dX11_count_32 : decode cX11_count 32 = .ok (.aload_n 0, 1) := dc_42 (gB_c lq_cX11_count q1_cX11_count 0 (o := 42) rfl)
theorem dX11_count_33 : decode cX11_count 33 = .ok (.invokevirtual 109, 3) := dc_182 (gB_c lq_cX11_count q1_cX11_count 1 (o := 182) rfl) (gB_c lq_cX11_count q1_cX11_count 2 (o := 0) rfl) (gB_c lq_cX11_count q1_cX11_count 3 (o := 109) rfl) rfl
theorem dX11_count_36 : decode cX11_count 36 = .ok (.ireturn, 1) := dc_172 (gB_c lq_cX11_count q1_cX11_count 4 (o := 172) rfl)
theorem dX11_count_37 : decode cX11_count 37 = .ok (.aload_n 0, 1) := dc_42 (gB_c lq_cX11_count q1_cX11_count 5 (o := 42) rfl)
theorem dX11_count_38 : decode cX11_count 38 = .ok (.getfield 61, 3) := dc_180 (gB_c lq_cX11_count q1_cX11_count 6 (o := 180) rfl) (gB_c lq_cX11_count q1_cX11_count 7 (o := 0) rfl) (gB_c lq_cX11_count q1_cX11_count 8 (o := 61) rfl) rfl
theorem dX11_count_41 : decode cX11_count 41 = .ok (.getfield 113, 3) := dc_180 (gB_c lq_cX11_count q1_cX11_count 9 (o := 180) rfl) (gB_c lq_cX11_count q1_cX11_count 10 (o := 0) rfl) (gB_c lq_cX11_count q1_cX11_count 11 (o := 113) rfl) rfl
theorem dX11_count_44 : decode cX11_count 44 = .ok (.ireturn, 1) := dc_172 (gB_c lq_cX11_count q1_cX11_count 12 (o := 172) rfl)
theorem dX11_count_45 : decode cX11_count 45 = .ok (.aload_n 0, 1) := dc_42 (gB_c lq_cX11_count q1_cX11_count 13 (o := 42) rfl)
theorem dX11_count_46 : decode cX11_count 46 = .ok (.getfield 14, 3) := dc_180 (gB_c lq_cX11_count q1_cX11_count 14 (o := 180) rfl) (gB_c lq_cX11_count q1_cX11_count 15 (o := 0) rfl) (gB_c lq_cX11_count q1_cX11_count 16 (o := 14) rfl) rfl
theorem dX11_count_49 : decode cX11_count 49 = .ok (.getfield 79, 3) := dc_180 (gB_c lq_cX11_count q1_cX11_count 17 (o := 180) rfl) (gB_c lq_cX11_count q1_cX11_count 18 (o := 0) rfl) (gB_c lq_cX11_count q1_cX11_count 19 (o := 79) rfl) rfl
theorem dX11_count_52 : decode cX11_count 52 = .ok (.ireturn, 1) := dc_172 (gB_c lq_cX11_count q1_cX11_count 20 (o := 172) rfl)
theorem dX11_count_53 : decode cX11_count 53 = .ok (.aload_n 0, 1) := dc_42 (gB_c lq_cX11_count q1_cX11_count 21 (o := 42) rfl)
theorem dX11_count_54 : decode cX11_count 54 = .ok (.getfield 18, 3) := dc_180 (gB_c lq_cX11_count q1_cX11_count 22 (o := 180) rfl) (gB_c lq_cX11_count q1_cX11_count 23 (o := 0) rfl) (gB_c lq_cX11_count q1_cX11_count 24 (o := 18) rfl) rfl
theorem dX11_count_57 : decode cX11_count 57 = .ok (.getfield 79, 3) := dc_180 (gB_c lq_cX11_count q1_cX11_count 25 (o := 180) rfl) (gB_c lq_cX11_count q1_cX11_count 26 (o := 0) rfl) (gB_c lq_cX11_count q1_cX11_count 27 (o := 79) rfl) rfl
theorem dX11_count_60 : decode cX11_count 60 = .ok (.ireturn, 1) := dc_172 (gB_c lq_cX11_count q1_cX11_count 28 (o := 172) rfl)
theorem dX11_count_61 : decode cX11_count 61 = .ok (.iconst (-1), 1) := dc_2 (gB_c lq_cX11_count q1_cX11_count 29 (o := 2) rfl)
theorem dX11_count_62 : decode cX11_count 62 = .ok (.ireturn, 1) := dc_172 (gB_c lq_cX11_count q1_cX11_count 30 (o := 172) rfl)
abbrev r2_cX11_cuts : List Nat := [21, 5, 172]
def a1_cX11_cuts : List Nat := [54, 5, 21, 5, 154, 0, 6, 16, 250, 172, 42, 180, 0, 65, 25, 4, 182, 0, 90, 25, 4, 28, 29, 3, 182, 1, 29, 42, 27, 182, 0, 97]
abbrev r1_cX11_cuts : List Nat := a1_cX11_cuts ++ r2_cX11_cuts
def a0_cX11_cuts : List Nat := [42, 27, 182, 0, 116, 58, 4, 25, 4, 198, 0, 13, 25, 4, 28, 29, 182, 1, 25, 154, 0, 6, 16, 254, 172, 25, 4, 28, 29, 182, 0, 148]
abbrev r0_cX11_cuts : List Nat := a0_cX11_cuts ++ r1_cX11_cuts
theorem lq_cX11_cuts : (cX11_cuts).data.toList.map UInt8.toNat = r0_cX11_cuts := by decide +kernel
theorem q1_cX11_cuts : ∀ i, (r0_cX11_cuts)[32 + i]? = (r1_cX11_cuts)[i]? := chn (A := a0_cX11_cuts) (B := r1_cX11_cuts) (n := 0) (k := 32) rfl (ch0 (R := r0_cX11_cuts))
theorem q2_cX11_cuts : ∀ i, (r0_cX11_cuts)[64 + i]? = (r2_cX11_cuts)[i]? := chn (A := a1_cX11_cuts) (B := r2_cX11_cuts) (n := 32) (k := 32) rfl q1_cX11_cuts
theorem dX11_cuts_0 : decode cX11_cuts 0 = .ok (.aload_n 0, 1) := dc_42 (gB_l lq_cX11_cuts (p := 0) (o := 42) rfl)
theorem dX11_cuts_1 : decode cX11_cuts 1 = .ok (.iload_n 1, 1) := dc_27 (gB_l lq_cX11_cuts (p := 1) (o := 27) rfl)
theorem dX11_cuts_2 : decode cX11_cuts 2 = .ok (.invokevirtual 116, 3) := dc_182 (gB_l lq_cX11_cuts (p := 2) (o := 182) rfl) (gB_l lq_cX11_cuts (p := 3) (o := 0) rfl) (gB_l lq_cX11_cuts (p := 4) (o := 116) rfl) rfl
theorem dX11_cuts_5 : decode cX11_cuts 5 = .ok (.astore 4, 2) := dc_58 (gB_l lq_cX11_cuts (p := 5) (o := 58) rfl) (gB_l lq_cX11_cuts (p := 6) (o := 4) rfl)
theorem dX11_cuts_7 : decode cX11_cuts 7 = .ok (.aload 4, 2) := dc_25 (gB_l lq_cX11_cuts (p := 7) (o := 25) rfl) (gB_l lq_cX11_cuts (p := 8) (o := 4) rfl)
theorem dX11_cuts_9 : decode cX11_cuts 9 = .ok (.ifnull 13, 3) := dc_198 (gB_l lq_cX11_cuts (p := 9) (o := 198) rfl) (gB_l lq_cX11_cuts (p := 10) (o := 0) rfl) (gB_l lq_cX11_cuts (p := 11) (o := 13) rfl) rfl
theorem dX11_cuts_12 : decode cX11_cuts 12 = .ok (.aload 4, 2) := dc_25 (gB_l lq_cX11_cuts (p := 12) (o := 25) rfl) (gB_l lq_cX11_cuts (p := 13) (o := 4) rfl)
theorem dX11_cuts_14 : decode cX11_cuts 14 = .ok (.iload_n 2, 1) := dc_28 (gB_l lq_cX11_cuts (p := 14) (o := 28) rfl)
theorem dX11_cuts_15 : decode cX11_cuts 15 = .ok (.iload_n 3, 1) := dc_29 (gB_l lq_cX11_cuts (p := 15) (o := 29) rfl)
theorem dX11_cuts_16 : decode cX11_cuts 16 = .ok (.invokevirtual 281, 3) := dc_182 (gB_l lq_cX11_cuts (p := 16) (o := 182) rfl) (gB_l lq_cX11_cuts (p := 17) (o := 1) rfl) (gB_l lq_cX11_cuts (p := 18) (o := 25) rfl) rfl
theorem dX11_cuts_19 : decode cX11_cuts 19 = .ok (.ifCond .ne 6, 3) := dc_154 (gB_l lq_cX11_cuts (p := 19) (o := 154) rfl) (gB_l lq_cX11_cuts (p := 20) (o := 0) rfl) (gB_l lq_cX11_cuts (p := 21) (o := 6) rfl) rfl
theorem dX11_cuts_22 : decode cX11_cuts 22 = .ok (.bipush (-2), 2) := dc_16 (gB_l lq_cX11_cuts (p := 22) (o := 16) rfl) (gB_l lq_cX11_cuts (p := 23) (o := 254) rfl) rfl
theorem dX11_cuts_24 : decode cX11_cuts 24 = .ok (.ireturn, 1) := dc_172 (gB_l lq_cX11_cuts (p := 24) (o := 172) rfl)
theorem dX11_cuts_25 : decode cX11_cuts 25 = .ok (.aload 4, 2) := dc_25 (gB_l lq_cX11_cuts (p := 25) (o := 25) rfl) (gB_l lq_cX11_cuts (p := 26) (o := 4) rfl)
theorem dX11_cuts_27 : decode cX11_cuts 27 = .ok (.iload_n 2, 1) := dc_28 (gB_l lq_cX11_cuts (p := 27) (o := 28) rfl)
theorem dX11_cuts_28 : decode cX11_cuts 28 = .ok (.iload_n 3, 1) := dc_29 (gB_l lq_cX11_cuts (p := 28) (o := 29) rfl)
theorem dX11_cuts_29 : decode cX11_cuts 29 = .ok (.invokevirtual 148, 3) := dc_182 (gB_l lq_cX11_cuts (p := 29) (o := 182) rfl) (gB_l lq_cX11_cuts (p := 30) (o := 0) rfl) (gB_l lq_cX11_cuts (p := 31) (o := 148) rfl) rfl
theorem dX11_cuts_32 : decode cX11_cuts 32 = .ok (.istore 5, 2) := dc_54 (gB_c lq_cX11_cuts q1_cX11_cuts 0 (o := 54) rfl) (gB_c lq_cX11_cuts q1_cX11_cuts 1 (o := 5) rfl)
theorem dX11_cuts_34 : decode cX11_cuts 34 = .ok (.iload 5, 2) := dc_21 (gB_c lq_cX11_cuts q1_cX11_cuts 2 (o := 21) rfl) (gB_c lq_cX11_cuts q1_cX11_cuts 3 (o := 5) rfl)
theorem dX11_cuts_36 : decode cX11_cuts 36 = .ok (.ifCond .ne 6, 3) := dc_154 (gB_c lq_cX11_cuts q1_cX11_cuts 4 (o := 154) rfl) (gB_c lq_cX11_cuts q1_cX11_cuts 5 (o := 0) rfl) (gB_c lq_cX11_cuts q1_cX11_cuts 6 (o := 6) rfl) rfl
theorem dX11_cuts_39 : decode cX11_cuts 39 = .ok (.bipush (-6), 2) := dc_16 (gB_c lq_cX11_cuts q1_cX11_cuts 7 (o := 16) rfl) (gB_c lq_cX11_cuts q1_cX11_cuts 8 (o := 250) rfl) rfl
theorem dX11_cuts_41 : decode cX11_cuts 41 = .ok (.ireturn, 1) := dc_172 (gB_c lq_cX11_cuts q1_cX11_cuts 9 (o := 172) rfl)
theorem dX11_cuts_42 : decode cX11_cuts 42 = .ok (.aload_n 0, 1) := dc_42 (gB_c lq_cX11_cuts q1_cX11_cuts 10 (o := 42) rfl)
theorem dX11_cuts_43 : decode cX11_cuts 43 = .ok (.getfield 65, 3) := dc_180 (gB_c lq_cX11_cuts q1_cX11_cuts 11 (o := 180) rfl) (gB_c lq_cX11_cuts q1_cX11_cuts 12 (o := 0) rfl) (gB_c lq_cX11_cuts q1_cX11_cuts 13 (o := 65) rfl) rfl
theorem dX11_cuts_46 : decode cX11_cuts 46 = .ok (.aload 4, 2) := dc_25 (gB_c lq_cX11_cuts q1_cX11_cuts 14 (o := 25) rfl) (gB_c lq_cX11_cuts q1_cX11_cuts 15 (o := 4) rfl)
theorem dX11_cuts_48 : decode cX11_cuts 48 = .ok (.invokevirtual 90, 3) := dc_182 (gB_c lq_cX11_cuts q1_cX11_cuts 16 (o := 182) rfl) (gB_c lq_cX11_cuts q1_cX11_cuts 17 (o := 0) rfl) (gB_c lq_cX11_cuts q1_cX11_cuts 18 (o := 90) rfl) rfl
theorem dX11_cuts_51 : decode cX11_cuts 51 = .ok (.aload 4, 2) := dc_25 (gB_c lq_cX11_cuts q1_cX11_cuts 19 (o := 25) rfl) (gB_c lq_cX11_cuts q1_cX11_cuts 20 (o := 4) rfl)
theorem dX11_cuts_53 : decode cX11_cuts 53 = .ok (.iload_n 2, 1) := dc_28 (gB_c lq_cX11_cuts q1_cX11_cuts 21 (o := 28) rfl)
theorem dX11_cuts_54 : decode cX11_cuts 54 = .ok (.iload_n 3, 1) := dc_29 (gB_c lq_cX11_cuts q1_cX11_cuts 22 (o := 29) rfl)
theorem dX11_cuts_55 : decode cX11_cuts 55 = .ok (.iconst 0, 1) := dc_3 (gB_c lq_cX11_cuts q1_cX11_cuts 23 (o := 3) rfl)
theorem dX11_cuts_56 : decode cX11_cuts 56 = .ok (.invokevirtual 285, 3) := dc_182 (gB_c lq_cX11_cuts q1_cX11_cuts 24 (o := 182) rfl) (gB_c lq_cX11_cuts q1_cX11_cuts 25 (o := 1) rfl) (gB_c lq_cX11_cuts q1_cX11_cuts 26 (o := 29) rfl) rfl
theorem dX11_cuts_59 : decode cX11_cuts 59 = .ok (.aload_n 0, 1) := dc_42 (gB_c lq_cX11_cuts q1_cX11_cuts 27 (o := 42) rfl)
theorem dX11_cuts_60 : decode cX11_cuts 60 = .ok (.iload_n 1, 1) := dc_27 (gB_c lq_cX11_cuts q1_cX11_cuts 28 (o := 27) rfl)
theorem dX11_cuts_61 : decode cX11_cuts 61 = .ok (.invokevirtual 97, 3) := dc_182 (gB_c lq_cX11_cuts q1_cX11_cuts 29 (o := 182) rfl) (gB_c lq_cX11_cuts q1_cX11_cuts 30 (o := 0) rfl) (gB_c lq_cX11_cuts q1_cX11_cuts 31 (o := 97) rfl) rfl
theorem dX11_cuts_64 : decode cX11_cuts 64 = .ok (.iload 5, 2) := dc_21 (gB_c lq_cX11_cuts q2_cX11_cuts 0 (o := 21) rfl) (gB_c lq_cX11_cuts q2_cX11_cuts 1 (o := 5) rfl)
theorem dX11_cuts_66 : decode cX11_cuts 66 = .ok (.ireturn, 1) := dc_172 (gB_c lq_cX11_cuts q2_cX11_cuts 2 (o := 172) rfl)
abbrev r1_cX11_drops : List Nat := [0, 90, 44, 3, 182, 1, 36, 42, 27, 182, 0, 97, 4, 172]
def a0_cX11_drops : List Nat := [27, 184, 0, 83, 154, 0, 6, 16, 254, 172, 42, 180, 0, 32, 27, 50, 77, 44, 180, 0, 120, 154, 0, 5, 3, 172, 42, 180, 0, 65, 44, 182]
abbrev r0_cX11_drops : List Nat := a0_cX11_drops ++ r1_cX11_drops
theorem lq_cX11_drops : (cX11_drops).data.toList.map UInt8.toNat = r0_cX11_drops := by decide +kernel
theorem q1_cX11_drops : ∀ i, (r0_cX11_drops)[32 + i]? = (r1_cX11_drops)[i]? := chn (A := a0_cX11_drops) (B := r1_cX11_drops) (n := 0) (k := 32) rfl (ch0 (R := r0_cX11_drops))
theorem dX11_drops_0 : decode cX11_drops 0 = .ok (.iload_n 1, 1) := dc_27 (gB_l lq_cX11_drops (p := 0) (o := 27) rfl)
theorem dX11_drops_1 : decode cX11_drops 1 = .ok (.invokestatic 83, 3) := dc_184 (gB_l lq_cX11_drops (p := 1) (o := 184) rfl) (gB_l lq_cX11_drops (p := 2) (o := 0) rfl) (gB_l lq_cX11_drops (p := 3) (o := 83) rfl) rfl
theorem dX11_drops_4 : decode cX11_drops 4 = .ok (.ifCond .ne 6, 3) := dc_154 (gB_l lq_cX11_drops (p := 4) (o := 154) rfl) (gB_l lq_cX11_drops (p := 5) (o := 0) rfl) (gB_l lq_cX11_drops (p := 6) (o := 6) rfl) rfl
theorem dX11_drops_7 : decode cX11_drops 7 = .ok (.bipush (-2), 2) := dc_16 (gB_l lq_cX11_drops (p := 7) (o := 16) rfl) (gB_l lq_cX11_drops (p := 8) (o := 254) rfl) rfl
theorem dX11_drops_9 : decode cX11_drops 9 = .ok (.ireturn, 1) := dc_172 (gB_l lq_cX11_drops (p := 9) (o := 172) rfl)
theorem dX11_drops_10 : decode cX11_drops 10 = .ok (.aload_n 0, 1) := dc_42 (gB_l lq_cX11_drops (p := 10) (o := 42) rfl)
theorem dX11_drops_11 : decode cX11_drops 11 = .ok (.getfield 32, 3) := dc_180 (gB_l lq_cX11_drops (p := 11) (o := 180) rfl) (gB_l lq_cX11_drops (p := 12) (o := 0) rfl) (gB_l lq_cX11_drops (p := 13) (o := 32) rfl) rfl
theorem dX11_drops_14 : decode cX11_drops 14 = .ok (.iload_n 1, 1) := dc_27 (gB_l lq_cX11_drops (p := 14) (o := 27) rfl)
theorem dX11_drops_15 : decode cX11_drops 15 = .ok (.aaload, 1) := dc_50 (gB_l lq_cX11_drops (p := 15) (o := 50) rfl)
theorem dX11_drops_16 : decode cX11_drops 16 = .ok (.astore_n 2, 1) := dc_77 (gB_l lq_cX11_drops (p := 16) (o := 77) rfl)
theorem dX11_drops_17 : decode cX11_drops 17 = .ok (.aload_n 2, 1) := dc_44 (gB_l lq_cX11_drops (p := 17) (o := 44) rfl)
theorem dX11_drops_18 : decode cX11_drops 18 = .ok (.getfield 120, 3) := dc_180 (gB_l lq_cX11_drops (p := 18) (o := 180) rfl) (gB_l lq_cX11_drops (p := 19) (o := 0) rfl) (gB_l lq_cX11_drops (p := 20) (o := 120) rfl) rfl
theorem dX11_drops_21 : decode cX11_drops 21 = .ok (.ifCond .ne 5, 3) := dc_154 (gB_l lq_cX11_drops (p := 21) (o := 154) rfl) (gB_l lq_cX11_drops (p := 22) (o := 0) rfl) (gB_l lq_cX11_drops (p := 23) (o := 5) rfl) rfl
theorem dX11_drops_24 : decode cX11_drops 24 = .ok (.iconst 0, 1) := dc_3 (gB_l lq_cX11_drops (p := 24) (o := 3) rfl)
theorem dX11_drops_25 : decode cX11_drops 25 = .ok (.ireturn, 1) := dc_172 (gB_l lq_cX11_drops (p := 25) (o := 172) rfl)
theorem dX11_drops_26 : decode cX11_drops 26 = .ok (.aload_n 0, 1) := dc_42 (gB_l lq_cX11_drops (p := 26) (o := 42) rfl)
theorem dX11_drops_27 : decode cX11_drops 27 = .ok (.getfield 65, 3) := dc_180 (gB_l lq_cX11_drops (p := 27) (o := 180) rfl) (gB_l lq_cX11_drops (p := 28) (o := 0) rfl) (gB_l lq_cX11_drops (p := 29) (o := 65) rfl) rfl
theorem dX11_drops_30 : decode cX11_drops 30 = .ok (.aload_n 2, 1) := dc_44 (gB_l lq_cX11_drops (p := 30) (o := 44) rfl)
theorem dX11_drops_31 : decode cX11_drops 31 = .ok (.invokevirtual 90, 3) := dc_182 (gB_l lq_cX11_drops (p := 31) (o := 182) rfl) (gB_c lq_cX11_drops q1_cX11_drops 0 (o := 0) rfl) (gB_c lq_cX11_drops q1_cX11_drops 1 (o := 90) rfl) rfl
theorem dX11_drops_34 : decode cX11_drops 34 = .ok (.aload_n 2, 1) := dc_44 (gB_c lq_cX11_drops q1_cX11_drops 2 (o := 44) rfl)
theorem dX11_drops_35 : decode cX11_drops 35 = .ok (.iconst 0, 1) := dc_3 (gB_c lq_cX11_drops q1_cX11_drops 3 (o := 3) rfl)
theorem dX11_drops_36 : decode cX11_drops 36 = .ok (.invokevirtual 292, 3) := dc_182 (gB_c lq_cX11_drops q1_cX11_drops 4 (o := 182) rfl) (gB_c lq_cX11_drops q1_cX11_drops 5 (o := 1) rfl) (gB_c lq_cX11_drops q1_cX11_drops 6 (o := 36) rfl) rfl
theorem dX11_drops_39 : decode cX11_drops 39 = .ok (.aload_n 0, 1) := dc_42 (gB_c lq_cX11_drops q1_cX11_drops 7 (o := 42) rfl)
theorem dX11_drops_40 : decode cX11_drops 40 = .ok (.iload_n 1, 1) := dc_27 (gB_c lq_cX11_drops q1_cX11_drops 8 (o := 27) rfl)
theorem dX11_drops_41 : decode cX11_drops 41 = .ok (.invokevirtual 97, 3) := dc_182 (gB_c lq_cX11_drops q1_cX11_drops 9 (o := 182) rfl) (gB_c lq_cX11_drops q1_cX11_drops 10 (o := 0) rfl) (gB_c lq_cX11_drops q1_cX11_drops 11 (o := 97) rfl) rfl
theorem dX11_drops_44 : decode cX11_drops 44 = .ok (.iconst 1, 1) := dc_4 (gB_c lq_cX11_drops q1_cX11_drops 12 (o := 4) rfl)
theorem dX11_drops_45 : decode cX11_drops 45 = .ok (.ireturn, 1) := dc_172 (gB_c lq_cX11_drops q1_cX11_drops 13 (o := 172) rfl)
abbrev r0_cX11_end : List Nat := [27, 155, 0, 14, 27, 42, 180, 0, 14, 180, 0, 79, 164, 0, 5, 2, 172, 42, 180, 0, 14, 27, 181, 0, 79, 27, 172]
theorem lq_cX11_end : (cX11_end).data.toList.map UInt8.toNat = r0_cX11_end := by decide +kernel
theorem dX11_end_0 : decode cX11_end 0 = .ok (.iload_n 1, 1) := dc_27 (gB_l lq_cX11_end (p := 0) (o := 27) rfl)
theorem dX11_end_1 : decode cX11_end 1 = .ok (.ifCond .lt 14, 3) := dc_155 (gB_l lq_cX11_end (p := 1) (o := 155) rfl) (gB_l lq_cX11_end (p := 2) (o := 0) rfl) (gB_l lq_cX11_end (p := 3) (o := 14) rfl) rfl
theorem dX11_end_4 : decode cX11_end 4 = .ok (.iload_n 1, 1) := dc_27 (gB_l lq_cX11_end (p := 4) (o := 27) rfl)
theorem dX11_end_5 : decode cX11_end 5 = .ok (.aload_n 0, 1) := dc_42 (gB_l lq_cX11_end (p := 5) (o := 42) rfl)
theorem dX11_end_6 : decode cX11_end 6 = .ok (.getfield 14, 3) := dc_180 (gB_l lq_cX11_end (p := 6) (o := 180) rfl) (gB_l lq_cX11_end (p := 7) (o := 0) rfl) (gB_l lq_cX11_end (p := 8) (o := 14) rfl) rfl
theorem dX11_end_9 : decode cX11_end 9 = .ok (.getfield 79, 3) := dc_180 (gB_l lq_cX11_end (p := 9) (o := 180) rfl) (gB_l lq_cX11_end (p := 10) (o := 0) rfl) (gB_l lq_cX11_end (p := 11) (o := 79) rfl) rfl
theorem dX11_end_12 : decode cX11_end 12 = .ok (.if_icmp .le 5, 3) := dc_164 (gB_l lq_cX11_end (p := 12) (o := 164) rfl) (gB_l lq_cX11_end (p := 13) (o := 0) rfl) (gB_l lq_cX11_end (p := 14) (o := 5) rfl) rfl
theorem dX11_end_15 : decode cX11_end 15 = .ok (.iconst (-1), 1) := dc_2 (gB_l lq_cX11_end (p := 15) (o := 2) rfl)
theorem dX11_end_16 : decode cX11_end 16 = .ok (.ireturn, 1) := dc_172 (gB_l lq_cX11_end (p := 16) (o := 172) rfl)
theorem dX11_end_17 : decode cX11_end 17 = .ok (.aload_n 0, 1) := dc_42 (gB_l lq_cX11_end (p := 17) (o := 42) rfl)
theorem dX11_end_18 : decode cX11_end 18 = .ok (.getfield 14, 3) := dc_180 (gB_l lq_cX11_end (p := 18) (o := 180) rfl) (gB_l lq_cX11_end (p := 19) (o := 0) rfl) (gB_l lq_cX11_end (p := 20) (o := 14) rfl) rfl
theorem dX11_end_21 : decode cX11_end 21 = .ok (.iload_n 1, 1) := dc_27 (gB_l lq_cX11_end (p := 21) (o := 27) rfl)
theorem dX11_end_22 : decode cX11_end 22 = .ok (.putfield 79, 3) := dc_181 (gB_l lq_cX11_end (p := 22) (o := 181) rfl) (gB_l lq_cX11_end (p := 23) (o := 0) rfl) (gB_l lq_cX11_end (p := 24) (o := 79) rfl) rfl
theorem dX11_end_25 : decode cX11_end 25 = .ok (.iload_n 1, 1) := dc_27 (gB_l lq_cX11_end (p := 25) (o := 27) rfl)
theorem dX11_end_26 : decode cX11_end 26 = .ok (.ireturn, 1) := dc_172 (gB_l lq_cX11_end (p := 26) (o := 172) rfl)
abbrev r1_cX11_far : List Nat := [167, 0, 10, 25, 4, 28, 29, 184, 0, 152, 172]
def a0_cX11_far : List Nat := [42, 27, 182, 0, 116, 58, 4, 25, 4, 198, 0, 21, 25, 4, 28, 182, 0, 141, 153, 0, 12, 25, 4, 29, 182, 0, 141, 154, 0, 8, 16, 254]
abbrev r0_cX11_far : List Nat := a0_cX11_far ++ r1_cX11_far
theorem lq_cX11_far : (cX11_far).data.toList.map UInt8.toNat = r0_cX11_far := by decide +kernel
theorem q1_cX11_far : ∀ i, (r0_cX11_far)[32 + i]? = (r1_cX11_far)[i]? := chn (A := a0_cX11_far) (B := r1_cX11_far) (n := 0) (k := 32) rfl (ch0 (R := r0_cX11_far))
theorem dX11_far_0 : decode cX11_far 0 = .ok (.aload_n 0, 1) := dc_42 (gB_l lq_cX11_far (p := 0) (o := 42) rfl)
theorem dX11_far_1 : decode cX11_far 1 = .ok (.iload_n 1, 1) := dc_27 (gB_l lq_cX11_far (p := 1) (o := 27) rfl)
theorem dX11_far_2 : decode cX11_far 2 = .ok (.invokevirtual 116, 3) := dc_182 (gB_l lq_cX11_far (p := 2) (o := 182) rfl) (gB_l lq_cX11_far (p := 3) (o := 0) rfl) (gB_l lq_cX11_far (p := 4) (o := 116) rfl) rfl
theorem dX11_far_5 : decode cX11_far 5 = .ok (.astore 4, 2) := dc_58 (gB_l lq_cX11_far (p := 5) (o := 58) rfl) (gB_l lq_cX11_far (p := 6) (o := 4) rfl)
theorem dX11_far_7 : decode cX11_far 7 = .ok (.aload 4, 2) := dc_25 (gB_l lq_cX11_far (p := 7) (o := 25) rfl) (gB_l lq_cX11_far (p := 8) (o := 4) rfl)
theorem dX11_far_9 : decode cX11_far 9 = .ok (.ifnull 21, 3) := dc_198 (gB_l lq_cX11_far (p := 9) (o := 198) rfl) (gB_l lq_cX11_far (p := 10) (o := 0) rfl) (gB_l lq_cX11_far (p := 11) (o := 21) rfl) rfl
theorem dX11_far_12 : decode cX11_far 12 = .ok (.aload 4, 2) := dc_25 (gB_l lq_cX11_far (p := 12) (o := 25) rfl) (gB_l lq_cX11_far (p := 13) (o := 4) rfl)
theorem dX11_far_14 : decode cX11_far 14 = .ok (.iload_n 2, 1) := dc_28 (gB_l lq_cX11_far (p := 14) (o := 28) rfl)
theorem dX11_far_15 : decode cX11_far 15 = .ok (.invokevirtual 141, 3) := dc_182 (gB_l lq_cX11_far (p := 15) (o := 182) rfl) (gB_l lq_cX11_far (p := 16) (o := 0) rfl) (gB_l lq_cX11_far (p := 17) (o := 141) rfl) rfl
theorem dX11_far_18 : decode cX11_far 18 = .ok (.ifCond .eq 12, 3) := dc_153 (gB_l lq_cX11_far (p := 18) (o := 153) rfl) (gB_l lq_cX11_far (p := 19) (o := 0) rfl) (gB_l lq_cX11_far (p := 20) (o := 12) rfl) rfl
theorem dX11_far_21 : decode cX11_far 21 = .ok (.aload 4, 2) := dc_25 (gB_l lq_cX11_far (p := 21) (o := 25) rfl) (gB_l lq_cX11_far (p := 22) (o := 4) rfl)
theorem dX11_far_23 : decode cX11_far 23 = .ok (.iload_n 3, 1) := dc_29 (gB_l lq_cX11_far (p := 23) (o := 29) rfl)
theorem dX11_far_24 : decode cX11_far 24 = .ok (.invokevirtual 141, 3) := dc_182 (gB_l lq_cX11_far (p := 24) (o := 182) rfl) (gB_l lq_cX11_far (p := 25) (o := 0) rfl) (gB_l lq_cX11_far (p := 26) (o := 141) rfl) rfl
theorem dX11_far_27 : decode cX11_far 27 = .ok (.ifCond .ne 8, 3) := dc_154 (gB_l lq_cX11_far (p := 27) (o := 154) rfl) (gB_l lq_cX11_far (p := 28) (o := 0) rfl) (gB_l lq_cX11_far (p := 29) (o := 8) rfl) rfl
theorem dX11_far_30 : decode cX11_far 30 = .ok (.bipush (-2), 2) := dc_16 (gB_l lq_cX11_far (p := 30) (o := 16) rfl) (gB_l lq_cX11_far (p := 31) (o := 254) rfl) rfl
theorem dX11_far_32 : decode cX11_far 32 = .ok (.goto 10, 3) := dc_167 (gB_c lq_cX11_far q1_cX11_far 0 (o := 167) rfl) (gB_c lq_cX11_far q1_cX11_far 1 (o := 0) rfl) (gB_c lq_cX11_far q1_cX11_far 2 (o := 10) rfl) rfl
theorem dX11_far_35 : decode cX11_far 35 = .ok (.aload 4, 2) := dc_25 (gB_c lq_cX11_far q1_cX11_far 3 (o := 25) rfl) (gB_c lq_cX11_far q1_cX11_far 4 (o := 4) rfl)
theorem dX11_far_37 : decode cX11_far 37 = .ok (.iload_n 2, 1) := dc_28 (gB_c lq_cX11_far q1_cX11_far 5 (o := 28) rfl)
theorem dX11_far_38 : decode cX11_far 38 = .ok (.iload_n 3, 1) := dc_29 (gB_c lq_cX11_far q1_cX11_far 6 (o := 29) rfl)
theorem dX11_far_39 : decode cX11_far 39 = .ok (.invokestatic 152, 3) := dc_184 (gB_c lq_cX11_far q1_cX11_far 7 (o := 184) rfl) (gB_c lq_cX11_far q1_cX11_far 8 (o := 0) rfl) (gB_c lq_cX11_far q1_cX11_far 9 (o := 152) rfl) rfl
theorem dX11_far_42 : decode cX11_far 42 = .ok (.ireturn, 1) := dc_172 (gB_c lq_cX11_far q1_cX11_far 10 (o := 172) rfl)
abbrev r0_cX11_fault : List Nat := [27, 154, 0, 11, 42, 180, 0, 26, 180, 0, 103, 172, 27, 4, 160, 0, 13, 42, 180, 0, 26, 180, 0, 106, 167, 0, 4, 2, 172]
theorem lq_cX11_fault : (cX11_fault).data.toList.map UInt8.toNat = r0_cX11_fault := by decide +kernel
theorem dX11_fault_0 : decode cX11_fault 0 = .ok (.iload_n 1, 1) := dc_27 (gB_l lq_cX11_fault (p := 0) (o := 27) rfl)
theorem dX11_fault_1 : decode cX11_fault 1 = .ok (.ifCond .ne 11, 3) := dc_154 (gB_l lq_cX11_fault (p := 1) (o := 154) rfl) (gB_l lq_cX11_fault (p := 2) (o := 0) rfl) (gB_l lq_cX11_fault (p := 3) (o := 11) rfl) rfl
theorem dX11_fault_4 : decode cX11_fault 4 = .ok (.aload_n 0, 1) := dc_42 (gB_l lq_cX11_fault (p := 4) (o := 42) rfl)
theorem dX11_fault_5 : decode cX11_fault 5 = .ok (.getfield 26, 3) := dc_180 (gB_l lq_cX11_fault (p := 5) (o := 180) rfl) (gB_l lq_cX11_fault (p := 6) (o := 0) rfl) (gB_l lq_cX11_fault (p := 7) (o := 26) rfl) rfl
theorem dX11_fault_8 : decode cX11_fault 8 = .ok (.getfield 103, 3) := dc_180 (gB_l lq_cX11_fault (p := 8) (o := 180) rfl) (gB_l lq_cX11_fault (p := 9) (o := 0) rfl) (gB_l lq_cX11_fault (p := 10) (o := 103) rfl) rfl
theorem dX11_fault_11 : decode cX11_fault 11 = .ok (.ireturn, 1) := dc_172 (gB_l lq_cX11_fault (p := 11) (o := 172) rfl)
theorem dX11_fault_12 : decode cX11_fault 12 = .ok (.iload_n 1, 1) := dc_27 (gB_l lq_cX11_fault (p := 12) (o := 27) rfl)
theorem dX11_fault_13 : decode cX11_fault 13 = .ok (.iconst 1, 1) := dc_4 (gB_l lq_cX11_fault (p := 13) (o := 4) rfl)
theorem dX11_fault_14 : decode cX11_fault 14 = .ok (.if_icmp .ne 13, 3) := dc_160 (gB_l lq_cX11_fault (p := 14) (o := 160) rfl) (gB_l lq_cX11_fault (p := 15) (o := 0) rfl) (gB_l lq_cX11_fault (p := 16) (o := 13) rfl) rfl
theorem dX11_fault_17 : decode cX11_fault 17 = .ok (.aload_n 0, 1) := dc_42 (gB_l lq_cX11_fault (p := 17) (o := 42) rfl)
theorem dX11_fault_18 : decode cX11_fault 18 = .ok (.getfield 26, 3) := dc_180 (gB_l lq_cX11_fault (p := 18) (o := 180) rfl) (gB_l lq_cX11_fault (p := 19) (o := 0) rfl) (gB_l lq_cX11_fault (p := 20) (o := 26) rfl) rfl
theorem dX11_fault_21 : decode cX11_fault 21 = .ok (.getfield 106, 3) := dc_180 (gB_l lq_cX11_fault (p := 21) (o := 180) rfl) (gB_l lq_cX11_fault (p := 22) (o := 0) rfl) (gB_l lq_cX11_fault (p := 23) (o := 106) rfl) rfl
theorem dX11_fault_24 : decode cX11_fault 24 = .ok (.goto 4, 3) := dc_167 (gB_l lq_cX11_fault (p := 24) (o := 167) rfl) (gB_l lq_cX11_fault (p := 25) (o := 0) rfl) (gB_l lq_cX11_fault (p := 26) (o := 4) rfl) rfl
theorem dX11_fault_27 : decode cX11_fault 27 = .ok (.iconst (-1), 1) := dc_2 (gB_l lq_cX11_fault (p := 27) (o := 2) rfl)
theorem dX11_fault_28 : decode cX11_fault 28 = .ok (.ireturn, 1) := dc_172 (gB_l lq_cX11_fault (p := 28) (o := 172) rfl)
abbrev r1_cX11_feed : List Nat := [0, 14, 29, 182, 0, 76, 42, 180, 0, 14, 21, 4, 182, 0, 76, 42, 180, 0, 14, 21, 5, 182, 0, 76, 42, 180, 0, 14, 180, 0, 79, 172]
def a0_cX11_feed : List Nat := [42, 180, 0, 14, 16, 20, 182, 0, 72, 154, 0, 5, 2, 172, 42, 180, 0, 14, 27, 182, 0, 76, 42, 180, 0, 14, 28, 182, 0, 76, 42, 180]
abbrev r0_cX11_feed : List Nat := a0_cX11_feed ++ r1_cX11_feed
theorem lq_cX11_feed : (cX11_feed).data.toList.map UInt8.toNat = r0_cX11_feed := by decide +kernel
theorem q1_cX11_feed : ∀ i, (r0_cX11_feed)[32 + i]? = (r1_cX11_feed)[i]? := chn (A := a0_cX11_feed) (B := r1_cX11_feed) (n := 0) (k := 32) rfl (ch0 (R := r0_cX11_feed))
theorem dX11_feed_0 : decode cX11_feed 0 = .ok (.aload_n 0, 1) := dc_42 (gB_l lq_cX11_feed (p := 0) (o := 42) rfl)
theorem dX11_feed_1 : decode cX11_feed 1 = .ok (.getfield 14, 3) := dc_180 (gB_l lq_cX11_feed (p := 1) (o := 180) rfl) (gB_l lq_cX11_feed (p := 2) (o := 0) rfl) (gB_l lq_cX11_feed (p := 3) (o := 14) rfl) rfl
theorem dX11_feed_4 : decode cX11_feed 4 = .ok (.bipush 20, 2) := dc_16 (gB_l lq_cX11_feed (p := 4) (o := 16) rfl) (gB_l lq_cX11_feed (p := 5) (o := 20) rfl) rfl
theorem dX11_feed_6 : decode cX11_feed 6 = .ok (.invokevirtual 72, 3) := dc_182 (gB_l lq_cX11_feed (p := 6) (o := 182) rfl) (gB_l lq_cX11_feed (p := 7) (o := 0) rfl) (gB_l lq_cX11_feed (p := 8) (o := 72) rfl) rfl
theorem dX11_feed_9 : decode cX11_feed 9 = .ok (.ifCond .ne 5, 3) := dc_154 (gB_l lq_cX11_feed (p := 9) (o := 154) rfl) (gB_l lq_cX11_feed (p := 10) (o := 0) rfl) (gB_l lq_cX11_feed (p := 11) (o := 5) rfl) rfl
theorem dX11_feed_12 : decode cX11_feed 12 = .ok (.iconst (-1), 1) := dc_2 (gB_l lq_cX11_feed (p := 12) (o := 2) rfl)
theorem dX11_feed_13 : decode cX11_feed 13 = .ok (.ireturn, 1) := dc_172 (gB_l lq_cX11_feed (p := 13) (o := 172) rfl)
theorem dX11_feed_14 : decode cX11_feed 14 = .ok (.aload_n 0, 1) := dc_42 (gB_l lq_cX11_feed (p := 14) (o := 42) rfl)
theorem dX11_feed_15 : decode cX11_feed 15 = .ok (.getfield 14, 3) := dc_180 (gB_l lq_cX11_feed (p := 15) (o := 180) rfl) (gB_l lq_cX11_feed (p := 16) (o := 0) rfl) (gB_l lq_cX11_feed (p := 17) (o := 14) rfl) rfl
theorem dX11_feed_18 : decode cX11_feed 18 = .ok (.iload_n 1, 1) := dc_27 (gB_l lq_cX11_feed (p := 18) (o := 27) rfl)
theorem dX11_feed_19 : decode cX11_feed 19 = .ok (.invokevirtual 76, 3) := dc_182 (gB_l lq_cX11_feed (p := 19) (o := 182) rfl) (gB_l lq_cX11_feed (p := 20) (o := 0) rfl) (gB_l lq_cX11_feed (p := 21) (o := 76) rfl) rfl
theorem dX11_feed_22 : decode cX11_feed 22 = .ok (.aload_n 0, 1) := dc_42 (gB_l lq_cX11_feed (p := 22) (o := 42) rfl)
theorem dX11_feed_23 : decode cX11_feed 23 = .ok (.getfield 14, 3) := dc_180 (gB_l lq_cX11_feed (p := 23) (o := 180) rfl) (gB_l lq_cX11_feed (p := 24) (o := 0) rfl) (gB_l lq_cX11_feed (p := 25) (o := 14) rfl) rfl
theorem dX11_feed_26 : decode cX11_feed 26 = .ok (.iload_n 2, 1) := dc_28 (gB_l lq_cX11_feed (p := 26) (o := 28) rfl)
theorem dX11_feed_27 : decode cX11_feed 27 = .ok (.invokevirtual 76, 3) := dc_182 (gB_l lq_cX11_feed (p := 27) (o := 182) rfl) (gB_l lq_cX11_feed (p := 28) (o := 0) rfl) (gB_l lq_cX11_feed (p := 29) (o := 76) rfl) rfl
theorem dX11_feed_30 : decode cX11_feed 30 = .ok (.aload_n 0, 1) := dc_42 (gB_l lq_cX11_feed (p := 30) (o := 42) rfl)
theorem dX11_feed_31 : decode cX11_feed 31 = .ok (.getfield 14, 3) := dc_180 (gB_l lq_cX11_feed (p := 31) (o := 180) rfl) (gB_c lq_cX11_feed q1_cX11_feed 0 (o := 0) rfl) (gB_c lq_cX11_feed q1_cX11_feed 1 (o := 14) rfl) rfl
theorem dX11_feed_34 : decode cX11_feed 34 = .ok (.iload_n 3, 1) := dc_29 (gB_c lq_cX11_feed q1_cX11_feed 2 (o := 29) rfl)
theorem dX11_feed_35 : decode cX11_feed 35 = .ok (.invokevirtual 76, 3) := dc_182 (gB_c lq_cX11_feed q1_cX11_feed 3 (o := 182) rfl) (gB_c lq_cX11_feed q1_cX11_feed 4 (o := 0) rfl) (gB_c lq_cX11_feed q1_cX11_feed 5 (o := 76) rfl) rfl
theorem dX11_feed_38 : decode cX11_feed 38 = .ok (.aload_n 0, 1) := dc_42 (gB_c lq_cX11_feed q1_cX11_feed 6 (o := 42) rfl)
theorem dX11_feed_39 : decode cX11_feed 39 = .ok (.getfield 14, 3) := dc_180 (gB_c lq_cX11_feed q1_cX11_feed 7 (o := 180) rfl) (gB_c lq_cX11_feed q1_cX11_feed 8 (o := 0) rfl) (gB_c lq_cX11_feed q1_cX11_feed 9 (o := 14) rfl) rfl
theorem dX11_feed_42 : decode cX11_feed 42 = .ok (.iload 4, 2) := dc_21 (gB_c lq_cX11_feed q1_cX11_feed 10 (o := 21) rfl) (gB_c lq_cX11_feed q1_cX11_feed 11 (o := 4) rfl)
theorem dX11_feed_44 : decode cX11_feed 44 = .ok (.invokevirtual 76, 3) := dc_182 (gB_c lq_cX11_feed q1_cX11_feed 12 (o := 182) rfl) (gB_c lq_cX11_feed q1_cX11_feed 13 (o := 0) rfl) (gB_c lq_cX11_feed q1_cX11_feed 14 (o := 76) rfl) rfl
theorem dX11_feed_47 : decode cX11_feed 47 = .ok (.aload_n 0, 1) := dc_42 (gB_c lq_cX11_feed q1_cX11_feed 15 (o := 42) rfl)
theorem dX11_feed_48 : decode cX11_feed 48 = .ok (.getfield 14, 3) := dc_180 (gB_c lq_cX11_feed q1_cX11_feed 16 (o := 180) rfl) (gB_c lq_cX11_feed q1_cX11_feed 17 (o := 0) rfl) (gB_c lq_cX11_feed q1_cX11_feed 18 (o := 14) rfl) rfl
theorem dX11_feed_51 : decode cX11_feed 51 = .ok (.iload 5, 2) := dc_21 (gB_c lq_cX11_feed q1_cX11_feed 19 (o := 21) rfl) (gB_c lq_cX11_feed q1_cX11_feed 20 (o := 5) rfl)
theorem dX11_feed_53 : decode cX11_feed 53 = .ok (.invokevirtual 76, 3) := dc_182 (gB_c lq_cX11_feed q1_cX11_feed 21 (o := 182) rfl) (gB_c lq_cX11_feed q1_cX11_feed 22 (o := 0) rfl) (gB_c lq_cX11_feed q1_cX11_feed 23 (o := 76) rfl) rfl
theorem dX11_feed_56 : decode cX11_feed 56 = .ok (.aload_n 0, 1) := dc_42 (gB_c lq_cX11_feed q1_cX11_feed 24 (o := 42) rfl)
theorem dX11_feed_57 : decode cX11_feed 57 = .ok (.getfield 14, 3) := dc_180 (gB_c lq_cX11_feed q1_cX11_feed 25 (o := 180) rfl) (gB_c lq_cX11_feed q1_cX11_feed 26 (o := 0) rfl) (gB_c lq_cX11_feed q1_cX11_feed 27 (o := 14) rfl) rfl
theorem dX11_feed_60 : decode cX11_feed 60 = .ok (.getfield 79, 3) := dc_180 (gB_c lq_cX11_feed q1_cX11_feed 28 (o := 180) rfl) (gB_c lq_cX11_feed q1_cX11_feed 29 (o := 0) rfl) (gB_c lq_cX11_feed q1_cX11_feed 30 (o := 79) rfl) rfl
theorem dX11_feed_63 : decode cX11_feed 63 = .ok (.ireturn, 1) := dc_172 (gB_c lq_cX11_feed q1_cX11_feed 31 (o := 172) rfl)
abbrev r0_cX11_filled : List Nat := [42, 27, 182, 0, 116, 78, 45, 198, 0, 8, 28, 2, 162, 0, 8, 16, 254, 167, 0, 8, 45, 28, 184, 0, 249, 172]
theorem lq_cX11_filled : (cX11_filled).data.toList.map UInt8.toNat = r0_cX11_filled := by decide +kernel
theorem dX11_filled_0 : decode cX11_filled 0 = .ok (.aload_n 0, 1) := dc_42 (gB_l lq_cX11_filled (p := 0) (o := 42) rfl)
theorem dX11_filled_1 : decode cX11_filled 1 = .ok (.iload_n 1, 1) := dc_27 (gB_l lq_cX11_filled (p := 1) (o := 27) rfl)
theorem dX11_filled_2 : decode cX11_filled 2 = .ok (.invokevirtual 116, 3) := dc_182 (gB_l lq_cX11_filled (p := 2) (o := 182) rfl) (gB_l lq_cX11_filled (p := 3) (o := 0) rfl) (gB_l lq_cX11_filled (p := 4) (o := 116) rfl) rfl
theorem dX11_filled_5 : decode cX11_filled 5 = .ok (.astore_n 3, 1) := dc_78 (gB_l lq_cX11_filled (p := 5) (o := 78) rfl)
theorem dX11_filled_6 : decode cX11_filled 6 = .ok (.aload_n 3, 1) := dc_45 (gB_l lq_cX11_filled (p := 6) (o := 45) rfl)
theorem dX11_filled_7 : decode cX11_filled 7 = .ok (.ifnull 8, 3) := dc_198 (gB_l lq_cX11_filled (p := 7) (o := 198) rfl) (gB_l lq_cX11_filled (p := 8) (o := 0) rfl) (gB_l lq_cX11_filled (p := 9) (o := 8) rfl) rfl
theorem dX11_filled_10 : decode cX11_filled 10 = .ok (.iload_n 2, 1) := dc_28 (gB_l lq_cX11_filled (p := 10) (o := 28) rfl)
theorem dX11_filled_11 : decode cX11_filled 11 = .ok (.iconst (-1), 1) := dc_2 (gB_l lq_cX11_filled (p := 11) (o := 2) rfl)
theorem dX11_filled_12 : decode cX11_filled 12 = .ok (.if_icmp .ge 8, 3) := dc_162 (gB_l lq_cX11_filled (p := 12) (o := 162) rfl) (gB_l lq_cX11_filled (p := 13) (o := 0) rfl) (gB_l lq_cX11_filled (p := 14) (o := 8) rfl) rfl
theorem dX11_filled_15 : decode cX11_filled 15 = .ok (.bipush (-2), 2) := dc_16 (gB_l lq_cX11_filled (p := 15) (o := 16) rfl) (gB_l lq_cX11_filled (p := 16) (o := 254) rfl) rfl
theorem dX11_filled_17 : decode cX11_filled 17 = .ok (.goto 8, 3) := dc_167 (gB_l lq_cX11_filled (p := 17) (o := 167) rfl) (gB_l lq_cX11_filled (p := 18) (o := 0) rfl) (gB_l lq_cX11_filled (p := 19) (o := 8) rfl) rfl
theorem dX11_filled_20 : decode cX11_filled 20 = .ok (.aload_n 3, 1) := dc_45 (gB_l lq_cX11_filled (p := 20) (o := 45) rfl)
theorem dX11_filled_21 : decode cX11_filled 21 = .ok (.iload_n 2, 1) := dc_28 (gB_l lq_cX11_filled (p := 21) (o := 28) rfl)
theorem dX11_filled_22 : decode cX11_filled 22 = .ok (.invokestatic 249, 3) := dc_184 (gB_l lq_cX11_filled (p := 22) (o := 184) rfl) (gB_l lq_cX11_filled (p := 23) (o := 0) rfl) (gB_l lq_cX11_filled (p := 24) (o := 249) rfl) rfl
theorem dX11_filled_25 : decode cX11_filled 25 = .ok (.ireturn, 1) := dc_172 (gB_l lq_cX11_filled (p := 25) (o := 172) rfl)
abbrev r1_cX11_filledSlots : List Nat := [230, 27, 172]
def a0_cX11_filledSlots : List Nat := [3, 60, 3, 61, 28, 6, 162, 0, 27, 42, 180, 0, 32, 28, 50, 180, 0, 120, 158, 0, 9, 27, 4, 28, 120, 128, 60, 132, 2, 1, 167, 255]
abbrev r0_cX11_filledSlots : List Nat := a0_cX11_filledSlots ++ r1_cX11_filledSlots
theorem lq_cX11_filledSlots : (cX11_filledSlots).data.toList.map UInt8.toNat = r0_cX11_filledSlots := by decide +kernel
theorem q1_cX11_filledSlots : ∀ i, (r0_cX11_filledSlots)[32 + i]? = (r1_cX11_filledSlots)[i]? := chn (A := a0_cX11_filledSlots) (B := r1_cX11_filledSlots) (n := 0) (k := 32) rfl (ch0 (R := r0_cX11_filledSlots))
theorem dX11_filledSlots_0 : decode cX11_filledSlots 0 = .ok (.iconst 0, 1) := dc_3 (gB_l lq_cX11_filledSlots (p := 0) (o := 3) rfl)
theorem dX11_filledSlots_1 : decode cX11_filledSlots 1 = .ok (.istore_n 1, 1) := dc_60 (gB_l lq_cX11_filledSlots (p := 1) (o := 60) rfl)
theorem dX11_filledSlots_2 : decode cX11_filledSlots 2 = .ok (.iconst 0, 1) := dc_3 (gB_l lq_cX11_filledSlots (p := 2) (o := 3) rfl)
theorem dX11_filledSlots_3 : decode cX11_filledSlots 3 = .ok (.istore_n 2, 1) := dc_61 (gB_l lq_cX11_filledSlots (p := 3) (o := 61) rfl)
theorem dX11_filledSlots_4 : decode cX11_filledSlots 4 = .ok (.iload_n 2, 1) := dc_28 (gB_l lq_cX11_filledSlots (p := 4) (o := 28) rfl)
theorem dX11_filledSlots_5 : decode cX11_filledSlots 5 = .ok (.iconst 3, 1) := dc_6 (gB_l lq_cX11_filledSlots (p := 5) (o := 6) rfl)
theorem dX11_filledSlots_6 : decode cX11_filledSlots 6 = .ok (.if_icmp .ge 27, 3) := dc_162 (gB_l lq_cX11_filledSlots (p := 6) (o := 162) rfl) (gB_l lq_cX11_filledSlots (p := 7) (o := 0) rfl) (gB_l lq_cX11_filledSlots (p := 8) (o := 27) rfl) rfl
theorem dX11_filledSlots_9 : decode cX11_filledSlots 9 = .ok (.aload_n 0, 1) := dc_42 (gB_l lq_cX11_filledSlots (p := 9) (o := 42) rfl)
theorem dX11_filledSlots_10 : decode cX11_filledSlots 10 = .ok (.getfield 32, 3) := dc_180 (gB_l lq_cX11_filledSlots (p := 10) (o := 180) rfl) (gB_l lq_cX11_filledSlots (p := 11) (o := 0) rfl) (gB_l lq_cX11_filledSlots (p := 12) (o := 32) rfl) rfl
theorem dX11_filledSlots_13 : decode cX11_filledSlots 13 = .ok (.iload_n 2, 1) := dc_28 (gB_l lq_cX11_filledSlots (p := 13) (o := 28) rfl)
theorem dX11_filledSlots_14 : decode cX11_filledSlots 14 = .ok (.aaload, 1) := dc_50 (gB_l lq_cX11_filledSlots (p := 14) (o := 50) rfl)
theorem dX11_filledSlots_15 : decode cX11_filledSlots 15 = .ok (.getfield 120, 3) := dc_180 (gB_l lq_cX11_filledSlots (p := 15) (o := 180) rfl) (gB_l lq_cX11_filledSlots (p := 16) (o := 0) rfl) (gB_l lq_cX11_filledSlots (p := 17) (o := 120) rfl) rfl
theorem dX11_filledSlots_18 : decode cX11_filledSlots 18 = .ok (.ifCond .le 9, 3) := dc_158 (gB_l lq_cX11_filledSlots (p := 18) (o := 158) rfl) (gB_l lq_cX11_filledSlots (p := 19) (o := 0) rfl) (gB_l lq_cX11_filledSlots (p := 20) (o := 9) rfl) rfl
theorem dX11_filledSlots_21 : decode cX11_filledSlots 21 = .ok (.iload_n 1, 1) := dc_27 (gB_l lq_cX11_filledSlots (p := 21) (o := 27) rfl)
theorem dX11_filledSlots_22 : decode cX11_filledSlots 22 = .ok (.iconst 1, 1) := dc_4 (gB_l lq_cX11_filledSlots (p := 22) (o := 4) rfl)
theorem dX11_filledSlots_23 : decode cX11_filledSlots 23 = .ok (.iload_n 2, 1) := dc_28 (gB_l lq_cX11_filledSlots (p := 23) (o := 28) rfl)
theorem dX11_filledSlots_24 : decode cX11_filledSlots 24 = .ok (.ishl, 1) := dc_120 (gB_l lq_cX11_filledSlots (p := 24) (o := 120) rfl)
theorem dX11_filledSlots_25 : decode cX11_filledSlots 25 = .ok (.ior, 1) := dc_128 (gB_l lq_cX11_filledSlots (p := 25) (o := 128) rfl)
theorem dX11_filledSlots_26 : decode cX11_filledSlots 26 = .ok (.istore_n 1, 1) := dc_60 (gB_l lq_cX11_filledSlots (p := 26) (o := 60) rfl)
theorem dX11_filledSlots_27 : decode cX11_filledSlots 27 = .ok (.iinc 2 1, 3) := dc_132 (gB_l lq_cX11_filledSlots (p := 27) (o := 132) rfl) (gB_l lq_cX11_filledSlots (p := 28) (o := 2) rfl) (gB_l lq_cX11_filledSlots (p := 29) (o := 1) rfl) rfl
theorem dX11_filledSlots_30 : decode cX11_filledSlots 30 = .ok (.goto (-26), 3) := dc_167 (gB_l lq_cX11_filledSlots (p := 30) (o := 167) rfl) (gB_l lq_cX11_filledSlots (p := 31) (o := 255) rfl) (gB_c lq_cX11_filledSlots q1_cX11_filledSlots 0 (o := 230) rfl) rfl
theorem dX11_filledSlots_33 : decode cX11_filledSlots 33 = .ok (.iload_n 1, 1) := dc_27 (gB_c lq_cX11_filledSlots q1_cX11_filledSlots 1 (o := 27) rfl)
theorem dX11_filledSlots_34 : decode cX11_filledSlots 34 = .ok (.ireturn, 1) := dc_172 (gB_c lq_cX11_filledSlots q1_cX11_filledSlots 2 (o := 172) rfl)
abbrev r2_cX11_findingOf : List Nat := [91, 167, 0, 14, 42, 180, 0, 47, 45, 28, 25, 4, 182, 1, 95, 25, 4, 4, 181, 1, 87, 25, 4, 176]
def a1_cX11_findingOf : List Nat := [38, 27, 50, 180, 1, 83, 28, 50, 58, 4, 25, 4, 180, 1, 87, 154, 0, 38, 28, 5, 160, 0, 16, 42, 180, 0, 54, 45, 25, 4, 182, 1]
abbrev r1_cX11_findingOf : List Nat := a1_cX11_findingOf ++ r2_cX11_findingOf
def a0_cX11_findingOf : List Nat := [42, 27, 182, 0, 116, 78, 45, 198, 0, 10, 28, 184, 0, 163, 154, 0, 5, 1, 176, 42, 180, 0, 38, 27, 50, 45, 182, 1, 80, 42, 180, 0]
abbrev r0_cX11_findingOf : List Nat := a0_cX11_findingOf ++ r1_cX11_findingOf
theorem lq_cX11_findingOf : (cX11_findingOf).data.toList.map UInt8.toNat = r0_cX11_findingOf := by decide +kernel
theorem q1_cX11_findingOf : ∀ i, (r0_cX11_findingOf)[32 + i]? = (r1_cX11_findingOf)[i]? := chn (A := a0_cX11_findingOf) (B := r1_cX11_findingOf) (n := 0) (k := 32) rfl (ch0 (R := r0_cX11_findingOf))
theorem q2_cX11_findingOf : ∀ i, (r0_cX11_findingOf)[64 + i]? = (r2_cX11_findingOf)[i]? := chn (A := a1_cX11_findingOf) (B := r2_cX11_findingOf) (n := 32) (k := 32) rfl q1_cX11_findingOf
theorem dX11_findingOf_0 : decode cX11_findingOf 0 = .ok (.aload_n 0, 1) := dc_42 (gB_l lq_cX11_findingOf (p := 0) (o := 42) rfl)
theorem dX11_findingOf_1 : decode cX11_findingOf 1 = .ok (.iload_n 1, 1) := dc_27 (gB_l lq_cX11_findingOf (p := 1) (o := 27) rfl)
theorem dX11_findingOf_2 : decode cX11_findingOf 2 = .ok (.invokevirtual 116, 3) := dc_182 (gB_l lq_cX11_findingOf (p := 2) (o := 182) rfl) (gB_l lq_cX11_findingOf (p := 3) (o := 0) rfl) (gB_l lq_cX11_findingOf (p := 4) (o := 116) rfl) rfl
theorem dX11_findingOf_5 : decode cX11_findingOf 5 = .ok (.astore_n 3, 1) := dc_78 (gB_l lq_cX11_findingOf (p := 5) (o := 78) rfl)
theorem dX11_findingOf_6 : decode cX11_findingOf 6 = .ok (.aload_n 3, 1) := dc_45 (gB_l lq_cX11_findingOf (p := 6) (o := 45) rfl)
theorem dX11_findingOf_7 : decode cX11_findingOf 7 = .ok (.ifnull 10, 3) := dc_198 (gB_l lq_cX11_findingOf (p := 7) (o := 198) rfl) (gB_l lq_cX11_findingOf (p := 8) (o := 0) rfl) (gB_l lq_cX11_findingOf (p := 9) (o := 10) rfl) rfl
theorem dX11_findingOf_10 : decode cX11_findingOf 10 = .ok (.iload_n 2, 1) := dc_28 (gB_l lq_cX11_findingOf (p := 10) (o := 28) rfl)
theorem dX11_findingOf_11 : decode cX11_findingOf 11 = .ok (.invokestatic 163, 3) := dc_184 (gB_l lq_cX11_findingOf (p := 11) (o := 184) rfl) (gB_l lq_cX11_findingOf (p := 12) (o := 0) rfl) (gB_l lq_cX11_findingOf (p := 13) (o := 163) rfl) rfl
theorem dX11_findingOf_14 : decode cX11_findingOf 14 = .ok (.ifCond .ne 5, 3) := dc_154 (gB_l lq_cX11_findingOf (p := 14) (o := 154) rfl) (gB_l lq_cX11_findingOf (p := 15) (o := 0) rfl) (gB_l lq_cX11_findingOf (p := 16) (o := 5) rfl) rfl
theorem dX11_findingOf_17 : decode cX11_findingOf 17 = .ok (.aconst_null, 1) := dc_1 (gB_l lq_cX11_findingOf (p := 17) (o := 1) rfl)
theorem dX11_findingOf_18 : decode cX11_findingOf 18 = .ok (.areturn, 1) := dc_176 (gB_l lq_cX11_findingOf (p := 18) (o := 176) rfl)
theorem dX11_findingOf_19 : decode cX11_findingOf 19 = .ok (.aload_n 0, 1) := dc_42 (gB_l lq_cX11_findingOf (p := 19) (o := 42) rfl)
theorem dX11_findingOf_20 : decode cX11_findingOf 20 = .ok (.getfield 38, 3) := dc_180 (gB_l lq_cX11_findingOf (p := 20) (o := 180) rfl) (gB_l lq_cX11_findingOf (p := 21) (o := 0) rfl) (gB_l lq_cX11_findingOf (p := 22) (o := 38) rfl) rfl
theorem dX11_findingOf_23 : decode cX11_findingOf 23 = .ok (.iload_n 1, 1) := dc_27 (gB_l lq_cX11_findingOf (p := 23) (o := 27) rfl)
theorem dX11_findingOf_24 : decode cX11_findingOf 24 = .ok (.aaload, 1) := dc_50 (gB_l lq_cX11_findingOf (p := 24) (o := 50) rfl)
theorem dX11_findingOf_25 : decode cX11_findingOf 25 = .ok (.aload_n 3, 1) := dc_45 (gB_l lq_cX11_findingOf (p := 25) (o := 45) rfl)
theorem dX11_findingOf_26 : decode cX11_findingOf 26 = .ok (.invokevirtual 336, 3) := dc_182 (gB_l lq_cX11_findingOf (p := 26) (o := 182) rfl) (gB_l lq_cX11_findingOf (p := 27) (o := 1) rfl) (gB_l lq_cX11_findingOf (p := 28) (o := 80) rfl) rfl
theorem dX11_findingOf_29 : decode cX11_findingOf 29 = .ok (.aload_n 0, 1) := dc_42 (gB_l lq_cX11_findingOf (p := 29) (o := 42) rfl)
theorem dX11_findingOf_30 : decode cX11_findingOf 30 = .ok (.getfield 38, 3) := dc_180 (gB_l lq_cX11_findingOf (p := 30) (o := 180) rfl) (gB_l lq_cX11_findingOf (p := 31) (o := 0) rfl) (gB_c lq_cX11_findingOf q1_cX11_findingOf 0 (o := 38) rfl) rfl
theorem dX11_findingOf_33 : decode cX11_findingOf 33 = .ok (.iload_n 1, 1) := dc_27 (gB_c lq_cX11_findingOf q1_cX11_findingOf 1 (o := 27) rfl)
theorem dX11_findingOf_34 : decode cX11_findingOf 34 = .ok (.aaload, 1) := dc_50 (gB_c lq_cX11_findingOf q1_cX11_findingOf 2 (o := 50) rfl)
theorem dX11_findingOf_35 : decode cX11_findingOf 35 = .ok (.getfield 339, 3) := dc_180 (gB_c lq_cX11_findingOf q1_cX11_findingOf 3 (o := 180) rfl) (gB_c lq_cX11_findingOf q1_cX11_findingOf 4 (o := 1) rfl) (gB_c lq_cX11_findingOf q1_cX11_findingOf 5 (o := 83) rfl) rfl
theorem dX11_findingOf_38 : decode cX11_findingOf 38 = .ok (.iload_n 2, 1) := dc_28 (gB_c lq_cX11_findingOf q1_cX11_findingOf 6 (o := 28) rfl)
theorem dX11_findingOf_39 : decode cX11_findingOf 39 = .ok (.aaload, 1) := dc_50 (gB_c lq_cX11_findingOf q1_cX11_findingOf 7 (o := 50) rfl)
theorem dX11_findingOf_40 : decode cX11_findingOf 40 = .ok (.astore 4, 2) := dc_58 (gB_c lq_cX11_findingOf q1_cX11_findingOf 8 (o := 58) rfl) (gB_c lq_cX11_findingOf q1_cX11_findingOf 9 (o := 4) rfl)
theorem dX11_findingOf_42 : decode cX11_findingOf 42 = .ok (.aload 4, 2) := dc_25 (gB_c lq_cX11_findingOf q1_cX11_findingOf 10 (o := 25) rfl) (gB_c lq_cX11_findingOf q1_cX11_findingOf 11 (o := 4) rfl)
theorem dX11_findingOf_44 : decode cX11_findingOf 44 = .ok (.getfield 343, 3) := dc_180 (gB_c lq_cX11_findingOf q1_cX11_findingOf 12 (o := 180) rfl) (gB_c lq_cX11_findingOf q1_cX11_findingOf 13 (o := 1) rfl) (gB_c lq_cX11_findingOf q1_cX11_findingOf 14 (o := 87) rfl) rfl
theorem dX11_findingOf_47 : decode cX11_findingOf 47 = .ok (.ifCond .ne 38, 3) := dc_154 (gB_c lq_cX11_findingOf q1_cX11_findingOf 15 (o := 154) rfl) (gB_c lq_cX11_findingOf q1_cX11_findingOf 16 (o := 0) rfl) (gB_c lq_cX11_findingOf q1_cX11_findingOf 17 (o := 38) rfl) rfl
theorem dX11_findingOf_50 : decode cX11_findingOf 50 = .ok (.iload_n 2, 1) := dc_28 (gB_c lq_cX11_findingOf q1_cX11_findingOf 18 (o := 28) rfl)
theorem dX11_findingOf_51 : decode cX11_findingOf 51 = .ok (.iconst 2, 1) := dc_5 (gB_c lq_cX11_findingOf q1_cX11_findingOf 19 (o := 5) rfl)
theorem dX11_findingOf_52 : decode cX11_findingOf 52 = .ok (.if_icmp .ne 16, 3) := dc_160 (gB_c lq_cX11_findingOf q1_cX11_findingOf 20 (o := 160) rfl) (gB_c lq_cX11_findingOf q1_cX11_findingOf 21 (o := 0) rfl) (gB_c lq_cX11_findingOf q1_cX11_findingOf 22 (o := 16) rfl) rfl
theorem dX11_findingOf_55 : decode cX11_findingOf 55 = .ok (.aload_n 0, 1) := dc_42 (gB_c lq_cX11_findingOf q1_cX11_findingOf 23 (o := 42) rfl)
theorem dX11_findingOf_56 : decode cX11_findingOf 56 = .ok (.getfield 54, 3) := dc_180 (gB_c lq_cX11_findingOf q1_cX11_findingOf 24 (o := 180) rfl) (gB_c lq_cX11_findingOf q1_cX11_findingOf 25 (o := 0) rfl) (gB_c lq_cX11_findingOf q1_cX11_findingOf 26 (o := 54) rfl) rfl
theorem dX11_findingOf_59 : decode cX11_findingOf 59 = .ok (.aload_n 3, 1) := dc_45 (gB_c lq_cX11_findingOf q1_cX11_findingOf 27 (o := 45) rfl)
theorem dX11_findingOf_60 : decode cX11_findingOf 60 = .ok (.aload 4, 2) := dc_25 (gB_c lq_cX11_findingOf q1_cX11_findingOf 28 (o := 25) rfl) (gB_c lq_cX11_findingOf q1_cX11_findingOf 29 (o := 4) rfl)
theorem dX11_findingOf_62 : decode cX11_findingOf 62 = .ok (.invokevirtual 347, 3) := dc_182 (gB_c lq_cX11_findingOf q1_cX11_findingOf 30 (o := 182) rfl) (gB_c lq_cX11_findingOf q1_cX11_findingOf 31 (o := 1) rfl) (gB_c lq_cX11_findingOf q2_cX11_findingOf 0 (o := 91) rfl) rfl
theorem dX11_findingOf_65 : decode cX11_findingOf 65 = .ok (.goto 14, 3) := dc_167 (gB_c lq_cX11_findingOf q2_cX11_findingOf 1 (o := 167) rfl) (gB_c lq_cX11_findingOf q2_cX11_findingOf 2 (o := 0) rfl) (gB_c lq_cX11_findingOf q2_cX11_findingOf 3 (o := 14) rfl) rfl
theorem dX11_findingOf_68 : decode cX11_findingOf 68 = .ok (.aload_n 0, 1) := dc_42 (gB_c lq_cX11_findingOf q2_cX11_findingOf 4 (o := 42) rfl)
theorem dX11_findingOf_69 : decode cX11_findingOf 69 = .ok (.getfield 47, 3) := dc_180 (gB_c lq_cX11_findingOf q2_cX11_findingOf 5 (o := 180) rfl) (gB_c lq_cX11_findingOf q2_cX11_findingOf 6 (o := 0) rfl) (gB_c lq_cX11_findingOf q2_cX11_findingOf 7 (o := 47) rfl) rfl
theorem dX11_findingOf_72 : decode cX11_findingOf 72 = .ok (.aload_n 3, 1) := dc_45 (gB_c lq_cX11_findingOf q2_cX11_findingOf 8 (o := 45) rfl)
theorem dX11_findingOf_73 : decode cX11_findingOf 73 = .ok (.iload_n 2, 1) := dc_28 (gB_c lq_cX11_findingOf q2_cX11_findingOf 9 (o := 28) rfl)
theorem dX11_findingOf_74 : decode cX11_findingOf 74 = .ok (.aload 4, 2) := dc_25 (gB_c lq_cX11_findingOf q2_cX11_findingOf 10 (o := 25) rfl) (gB_c lq_cX11_findingOf q2_cX11_findingOf 11 (o := 4) rfl)
theorem dX11_findingOf_76 : decode cX11_findingOf 76 = .ok (.invokevirtual 351, 3) := dc_182 (gB_c lq_cX11_findingOf q2_cX11_findingOf 12 (o := 182) rfl) (gB_c lq_cX11_findingOf q2_cX11_findingOf 13 (o := 1) rfl) (gB_c lq_cX11_findingOf q2_cX11_findingOf 14 (o := 95) rfl) rfl
theorem dX11_findingOf_79 : decode cX11_findingOf 79 = .ok (.aload 4, 2) := dc_25 (gB_c lq_cX11_findingOf q2_cX11_findingOf 15 (o := 25) rfl) (gB_c lq_cX11_findingOf q2_cX11_findingOf 16 (o := 4) rfl)
theorem dX11_findingOf_81 : decode cX11_findingOf 81 = .ok (.iconst 1, 1) := dc_4 (gB_c lq_cX11_findingOf q2_cX11_findingOf 17 (o := 4) rfl)
theorem dX11_findingOf_82 : decode cX11_findingOf 82 = .ok (.putfield 343, 3) := dc_181 (gB_c lq_cX11_findingOf q2_cX11_findingOf 18 (o := 181) rfl) (gB_c lq_cX11_findingOf q2_cX11_findingOf 19 (o := 1) rfl) (gB_c lq_cX11_findingOf q2_cX11_findingOf 20 (o := 87) rfl) rfl
theorem dX11_findingOf_85 : decode cX11_findingOf 85 = .ok (.aload 4, 2) := dc_25 (gB_c lq_cX11_findingOf q2_cX11_findingOf 21 (o := 25) rfl) (gB_c lq_cX11_findingOf q2_cX11_findingOf 22 (o := 4) rfl)
theorem dX11_findingOf_87 : decode cX11_findingOf 87 = .ok (.areturn, 1) := dc_176 (gB_c lq_cX11_findingOf q2_cX11_findingOf 23 (o := 176) rfl)
abbrev r0_cX11_firsts : List Nat := [42, 27, 28, 182, 0, 189, 78, 45, 199, 0, 8, 16, 254, 167, 0, 7, 45, 180, 0, 212, 172]
theorem lq_cX11_firsts : (cX11_firsts).data.toList.map UInt8.toNat = r0_cX11_firsts := by decide +kernel
theorem dX11_firsts_0 : decode cX11_firsts 0 = .ok (.aload_n 0, 1) := dc_42 (gB_l lq_cX11_firsts (p := 0) (o := 42) rfl)
theorem dX11_firsts_1 : decode cX11_firsts 1 = .ok (.iload_n 1, 1) := dc_27 (gB_l lq_cX11_firsts (p := 1) (o := 27) rfl)
theorem dX11_firsts_2 : decode cX11_firsts 2 = .ok (.iload_n 2, 1) := dc_28 (gB_l lq_cX11_firsts (p := 2) (o := 28) rfl)
theorem dX11_firsts_3 : decode cX11_firsts 3 = .ok (.invokevirtual 189, 3) := dc_182 (gB_l lq_cX11_firsts (p := 3) (o := 182) rfl) (gB_l lq_cX11_firsts (p := 4) (o := 0) rfl) (gB_l lq_cX11_firsts (p := 5) (o := 189) rfl) rfl
theorem dX11_firsts_6 : decode cX11_firsts 6 = .ok (.astore_n 3, 1) := dc_78 (gB_l lq_cX11_firsts (p := 6) (o := 78) rfl)
theorem dX11_firsts_7 : decode cX11_firsts 7 = .ok (.aload_n 3, 1) := dc_45 (gB_l lq_cX11_firsts (p := 7) (o := 45) rfl)
theorem dX11_firsts_8 : decode cX11_firsts 8 = .ok (.ifnonnull 8, 3) := dc_199 (gB_l lq_cX11_firsts (p := 8) (o := 199) rfl) (gB_l lq_cX11_firsts (p := 9) (o := 0) rfl) (gB_l lq_cX11_firsts (p := 10) (o := 8) rfl) rfl
theorem dX11_firsts_11 : decode cX11_firsts 11 = .ok (.bipush (-2), 2) := dc_16 (gB_l lq_cX11_firsts (p := 11) (o := 16) rfl) (gB_l lq_cX11_firsts (p := 12) (o := 254) rfl) rfl
theorem dX11_firsts_13 : decode cX11_firsts 13 = .ok (.goto 7, 3) := dc_167 (gB_l lq_cX11_firsts (p := 13) (o := 167) rfl) (gB_l lq_cX11_firsts (p := 14) (o := 0) rfl) (gB_l lq_cX11_firsts (p := 15) (o := 7) rfl) rfl
theorem dX11_firsts_16 : decode cX11_firsts 16 = .ok (.aload_n 3, 1) := dc_45 (gB_l lq_cX11_firsts (p := 16) (o := 45) rfl)
theorem dX11_firsts_17 : decode cX11_firsts 17 = .ok (.getfield 212, 3) := dc_180 (gB_l lq_cX11_firsts (p := 17) (o := 180) rfl) (gB_l lq_cX11_firsts (p := 18) (o := 0) rfl) (gB_l lq_cX11_firsts (p := 19) (o := 212) rfl) rfl
theorem dX11_firsts_20 : decode cX11_firsts 20 = .ok (.ireturn, 1) := dc_172 (gB_l lq_cX11_firsts (p := 20) (o := 172) rfl)
abbrev r2_cX11_gain : List Nat := [69, 28, 184, 0, 166, 25, 5, 28, 184, 0, 166, 100, 172]
def a1_cX11_gain : List Nat := [182, 0, 141, 154, 0, 7, 17, 252, 24, 172, 42, 180, 0, 69, 25, 5, 182, 0, 90, 42, 180, 0, 69, 29, 21, 4, 182, 0, 252, 42, 180, 0]
abbrev r1_cX11_gain : List Nat := a1_cX11_gain ++ r2_cX11_gain
def a0_cX11_gain : List Nat := [42, 27, 182, 0, 116, 58, 5, 25, 5, 198, 0, 29, 28, 184, 0, 163, 153, 0, 22, 25, 5, 29, 182, 0, 141, 153, 0, 13, 25, 5, 21, 4]
abbrev r0_cX11_gain : List Nat := a0_cX11_gain ++ r1_cX11_gain
theorem lq_cX11_gain : (cX11_gain).data.toList.map UInt8.toNat = r0_cX11_gain := by decide +kernel
theorem q1_cX11_gain : ∀ i, (r0_cX11_gain)[32 + i]? = (r1_cX11_gain)[i]? := chn (A := a0_cX11_gain) (B := r1_cX11_gain) (n := 0) (k := 32) rfl (ch0 (R := r0_cX11_gain))
theorem q2_cX11_gain : ∀ i, (r0_cX11_gain)[64 + i]? = (r2_cX11_gain)[i]? := chn (A := a1_cX11_gain) (B := r2_cX11_gain) (n := 32) (k := 32) rfl q1_cX11_gain
theorem dX11_gain_0 : decode cX11_gain 0 = .ok (.aload_n 0, 1) := dc_42 (gB_l lq_cX11_gain (p := 0) (o := 42) rfl)
theorem dX11_gain_1 : decode cX11_gain 1 = .ok (.iload_n 1, 1) := dc_27 (gB_l lq_cX11_gain (p := 1) (o := 27) rfl)
theorem dX11_gain_2 : decode cX11_gain 2 = .ok (.invokevirtual 116, 3) := dc_182 (gB_l lq_cX11_gain (p := 2) (o := 182) rfl) (gB_l lq_cX11_gain (p := 3) (o := 0) rfl) (gB_l lq_cX11_gain (p := 4) (o := 116) rfl) rfl
theorem dX11_gain_5 : decode cX11_gain 5 = .ok (.astore 5, 2) := dc_58 (gB_l lq_cX11_gain (p := 5) (o := 58) rfl) (gB_l lq_cX11_gain (p := 6) (o := 5) rfl)
theorem dX11_gain_7 : decode cX11_gain 7 = .ok (.aload 5, 2) := dc_25 (gB_l lq_cX11_gain (p := 7) (o := 25) rfl) (gB_l lq_cX11_gain (p := 8) (o := 5) rfl)
theorem dX11_gain_9 : decode cX11_gain 9 = .ok (.ifnull 29, 3) := dc_198 (gB_l lq_cX11_gain (p := 9) (o := 198) rfl) (gB_l lq_cX11_gain (p := 10) (o := 0) rfl) (gB_l lq_cX11_gain (p := 11) (o := 29) rfl) rfl
theorem dX11_gain_12 : decode cX11_gain 12 = .ok (.iload_n 2, 1) := dc_28 (gB_l lq_cX11_gain (p := 12) (o := 28) rfl)
theorem dX11_gain_13 : decode cX11_gain 13 = .ok (.invokestatic 163, 3) := dc_184 (gB_l lq_cX11_gain (p := 13) (o := 184) rfl) (gB_l lq_cX11_gain (p := 14) (o := 0) rfl) (gB_l lq_cX11_gain (p := 15) (o := 163) rfl) rfl
theorem dX11_gain_16 : decode cX11_gain 16 = .ok (.ifCond .eq 22, 3) := dc_153 (gB_l lq_cX11_gain (p := 16) (o := 153) rfl) (gB_l lq_cX11_gain (p := 17) (o := 0) rfl) (gB_l lq_cX11_gain (p := 18) (o := 22) rfl) rfl
theorem dX11_gain_19 : decode cX11_gain 19 = .ok (.aload 5, 2) := dc_25 (gB_l lq_cX11_gain (p := 19) (o := 25) rfl) (gB_l lq_cX11_gain (p := 20) (o := 5) rfl)
theorem dX11_gain_21 : decode cX11_gain 21 = .ok (.iload_n 3, 1) := dc_29 (gB_l lq_cX11_gain (p := 21) (o := 29) rfl)
theorem dX11_gain_22 : decode cX11_gain 22 = .ok (.invokevirtual 141, 3) := dc_182 (gB_l lq_cX11_gain (p := 22) (o := 182) rfl) (gB_l lq_cX11_gain (p := 23) (o := 0) rfl) (gB_l lq_cX11_gain (p := 24) (o := 141) rfl) rfl
theorem dX11_gain_25 : decode cX11_gain 25 = .ok (.ifCond .eq 13, 3) := dc_153 (gB_l lq_cX11_gain (p := 25) (o := 153) rfl) (gB_l lq_cX11_gain (p := 26) (o := 0) rfl) (gB_l lq_cX11_gain (p := 27) (o := 13) rfl) rfl
theorem dX11_gain_28 : decode cX11_gain 28 = .ok (.aload 5, 2) := dc_25 (gB_l lq_cX11_gain (p := 28) (o := 25) rfl) (gB_l lq_cX11_gain (p := 29) (o := 5) rfl)
theorem dX11_gain_30 : decode cX11_gain 30 = .ok (.iload 4, 2) := dc_21 (gB_l lq_cX11_gain (p := 30) (o := 21) rfl) (gB_l lq_cX11_gain (p := 31) (o := 4) rfl)
theorem dX11_gain_32 : decode cX11_gain 32 = .ok (.invokevirtual 141, 3) := dc_182 (gB_c lq_cX11_gain q1_cX11_gain 0 (o := 182) rfl) (gB_c lq_cX11_gain q1_cX11_gain 1 (o := 0) rfl) (gB_c lq_cX11_gain q1_cX11_gain 2 (o := 141) rfl) rfl
theorem dX11_gain_35 : decode cX11_gain 35 = .ok (.ifCond .ne 7, 3) := dc_154 (gB_c lq_cX11_gain q1_cX11_gain 3 (o := 154) rfl) (gB_c lq_cX11_gain q1_cX11_gain 4 (o := 0) rfl) (gB_c lq_cX11_gain q1_cX11_gain 5 (o := 7) rfl) rfl
theorem dX11_gain_38 : decode cX11_gain 38 = .ok (.sipush (-1000), 3) := dc_17 (gB_c lq_cX11_gain q1_cX11_gain 6 (o := 17) rfl) (gB_c lq_cX11_gain q1_cX11_gain 7 (o := 252) rfl) (gB_c lq_cX11_gain q1_cX11_gain 8 (o := 24) rfl) rfl
theorem dX11_gain_41 : decode cX11_gain 41 = .ok (.ireturn, 1) := dc_172 (gB_c lq_cX11_gain q1_cX11_gain 9 (o := 172) rfl)
theorem dX11_gain_42 : decode cX11_gain 42 = .ok (.aload_n 0, 1) := dc_42 (gB_c lq_cX11_gain q1_cX11_gain 10 (o := 42) rfl)
theorem dX11_gain_43 : decode cX11_gain 43 = .ok (.getfield 69, 3) := dc_180 (gB_c lq_cX11_gain q1_cX11_gain 11 (o := 180) rfl) (gB_c lq_cX11_gain q1_cX11_gain 12 (o := 0) rfl) (gB_c lq_cX11_gain q1_cX11_gain 13 (o := 69) rfl) rfl
theorem dX11_gain_46 : decode cX11_gain 46 = .ok (.aload 5, 2) := dc_25 (gB_c lq_cX11_gain q1_cX11_gain 14 (o := 25) rfl) (gB_c lq_cX11_gain q1_cX11_gain 15 (o := 5) rfl)
theorem dX11_gain_48 : decode cX11_gain 48 = .ok (.invokevirtual 90, 3) := dc_182 (gB_c lq_cX11_gain q1_cX11_gain 16 (o := 182) rfl) (gB_c lq_cX11_gain q1_cX11_gain 17 (o := 0) rfl) (gB_c lq_cX11_gain q1_cX11_gain 18 (o := 90) rfl) rfl
theorem dX11_gain_51 : decode cX11_gain 51 = .ok (.aload_n 0, 1) := dc_42 (gB_c lq_cX11_gain q1_cX11_gain 19 (o := 42) rfl)
theorem dX11_gain_52 : decode cX11_gain 52 = .ok (.getfield 69, 3) := dc_180 (gB_c lq_cX11_gain q1_cX11_gain 20 (o := 180) rfl) (gB_c lq_cX11_gain q1_cX11_gain 21 (o := 0) rfl) (gB_c lq_cX11_gain q1_cX11_gain 22 (o := 69) rfl) rfl
theorem dX11_gain_55 : decode cX11_gain 55 = .ok (.iload_n 3, 1) := dc_29 (gB_c lq_cX11_gain q1_cX11_gain 23 (o := 29) rfl)
theorem dX11_gain_56 : decode cX11_gain 56 = .ok (.iload 4, 2) := dc_21 (gB_c lq_cX11_gain q1_cX11_gain 24 (o := 21) rfl) (gB_c lq_cX11_gain q1_cX11_gain 25 (o := 4) rfl)
theorem dX11_gain_58 : decode cX11_gain 58 = .ok (.invokevirtual 252, 3) := dc_182 (gB_c lq_cX11_gain q1_cX11_gain 26 (o := 182) rfl) (gB_c lq_cX11_gain q1_cX11_gain 27 (o := 0) rfl) (gB_c lq_cX11_gain q1_cX11_gain 28 (o := 252) rfl) rfl
theorem dX11_gain_61 : decode cX11_gain 61 = .ok (.aload_n 0, 1) := dc_42 (gB_c lq_cX11_gain q1_cX11_gain 29 (o := 42) rfl)
theorem dX11_gain_62 : decode cX11_gain 62 = .ok (.getfield 69, 3) := dc_180 (gB_c lq_cX11_gain q1_cX11_gain 30 (o := 180) rfl) (gB_c lq_cX11_gain q1_cX11_gain 31 (o := 0) rfl) (gB_c lq_cX11_gain q2_cX11_gain 0 (o := 69) rfl) rfl
theorem dX11_gain_65 : decode cX11_gain 65 = .ok (.iload_n 2, 1) := dc_28 (gB_c lq_cX11_gain q2_cX11_gain 1 (o := 28) rfl)
theorem dX11_gain_66 : decode cX11_gain 66 = .ok (.invokestatic 166, 3) := dc_184 (gB_c lq_cX11_gain q2_cX11_gain 2 (o := 184) rfl) (gB_c lq_cX11_gain q2_cX11_gain 3 (o := 0) rfl) (gB_c lq_cX11_gain q2_cX11_gain 4 (o := 166) rfl) rfl
theorem dX11_gain_69 : decode cX11_gain 69 = .ok (.aload 5, 2) := dc_25 (gB_c lq_cX11_gain q2_cX11_gain 5 (o := 25) rfl) (gB_c lq_cX11_gain q2_cX11_gain 6 (o := 5) rfl)
theorem dX11_gain_71 : decode cX11_gain 71 = .ok (.iload_n 2, 1) := dc_28 (gB_c lq_cX11_gain q2_cX11_gain 7 (o := 28) rfl)
theorem dX11_gain_72 : decode cX11_gain 72 = .ok (.invokestatic 166, 3) := dc_184 (gB_c lq_cX11_gain q2_cX11_gain 8 (o := 184) rfl) (gB_c lq_cX11_gain q2_cX11_gain 9 (o := 0) rfl) (gB_c lq_cX11_gain q2_cX11_gain 10 (o := 166) rfl) rfl
theorem dX11_gain_75 : decode cX11_gain 75 = .ok (.isub, 1) := dc_100 (gB_c lq_cX11_gain q2_cX11_gain 11 (o := 100) rfl)
theorem dX11_gain_76 : decode cX11_gain 76 = .ok (.ireturn, 1) := dc_172 (gB_c lq_cX11_gain q2_cX11_gain 12 (o := 172) rfl)
abbrev r1_cX11_greedy : List Nat := [18, 42, 27, 182, 0, 97, 45, 28, 184, 0, 166, 172]
def a0_cX11_greedy : List Nat := [42, 27, 182, 0, 116, 78, 45, 198, 0, 10, 28, 184, 0, 172, 154, 0, 6, 16, 254, 172, 42, 180, 0, 65, 45, 182, 0, 90, 45, 28, 184, 1]
abbrev r0_cX11_greedy : List Nat := a0_cX11_greedy ++ r1_cX11_greedy
theorem lq_cX11_greedy : (cX11_greedy).data.toList.map UInt8.toNat = r0_cX11_greedy := by decide +kernel
theorem q1_cX11_greedy : ∀ i, (r0_cX11_greedy)[32 + i]? = (r1_cX11_greedy)[i]? := chn (A := a0_cX11_greedy) (B := r1_cX11_greedy) (n := 0) (k := 32) rfl (ch0 (R := r0_cX11_greedy))
theorem dX11_greedy_0 : decode cX11_greedy 0 = .ok (.aload_n 0, 1) := dc_42 (gB_l lq_cX11_greedy (p := 0) (o := 42) rfl)
theorem dX11_greedy_1 : decode cX11_greedy 1 = .ok (.iload_n 1, 1) := dc_27 (gB_l lq_cX11_greedy (p := 1) (o := 27) rfl)
theorem dX11_greedy_2 : decode cX11_greedy 2 = .ok (.invokevirtual 116, 3) := dc_182 (gB_l lq_cX11_greedy (p := 2) (o := 182) rfl) (gB_l lq_cX11_greedy (p := 3) (o := 0) rfl) (gB_l lq_cX11_greedy (p := 4) (o := 116) rfl) rfl
theorem dX11_greedy_5 : decode cX11_greedy 5 = .ok (.astore_n 3, 1) := dc_78 (gB_l lq_cX11_greedy (p := 5) (o := 78) rfl)
theorem dX11_greedy_6 : decode cX11_greedy 6 = .ok (.aload_n 3, 1) := dc_45 (gB_l lq_cX11_greedy (p := 6) (o := 45) rfl)
theorem dX11_greedy_7 : decode cX11_greedy 7 = .ok (.ifnull 10, 3) := dc_198 (gB_l lq_cX11_greedy (p := 7) (o := 198) rfl) (gB_l lq_cX11_greedy (p := 8) (o := 0) rfl) (gB_l lq_cX11_greedy (p := 9) (o := 10) rfl) rfl
theorem dX11_greedy_10 : decode cX11_greedy 10 = .ok (.iload_n 2, 1) := dc_28 (gB_l lq_cX11_greedy (p := 10) (o := 28) rfl)
theorem dX11_greedy_11 : decode cX11_greedy 11 = .ok (.invokestatic 172, 3) := dc_184 (gB_l lq_cX11_greedy (p := 11) (o := 184) rfl) (gB_l lq_cX11_greedy (p := 12) (o := 0) rfl) (gB_l lq_cX11_greedy (p := 13) (o := 172) rfl) rfl
theorem dX11_greedy_14 : decode cX11_greedy 14 = .ok (.ifCond .ne 6, 3) := dc_154 (gB_l lq_cX11_greedy (p := 14) (o := 154) rfl) (gB_l lq_cX11_greedy (p := 15) (o := 0) rfl) (gB_l lq_cX11_greedy (p := 16) (o := 6) rfl) rfl
theorem dX11_greedy_17 : decode cX11_greedy 17 = .ok (.bipush (-2), 2) := dc_16 (gB_l lq_cX11_greedy (p := 17) (o := 16) rfl) (gB_l lq_cX11_greedy (p := 18) (o := 254) rfl) rfl
theorem dX11_greedy_19 : decode cX11_greedy 19 = .ok (.ireturn, 1) := dc_172 (gB_l lq_cX11_greedy (p := 19) (o := 172) rfl)
theorem dX11_greedy_20 : decode cX11_greedy 20 = .ok (.aload_n 0, 1) := dc_42 (gB_l lq_cX11_greedy (p := 20) (o := 42) rfl)
theorem dX11_greedy_21 : decode cX11_greedy 21 = .ok (.getfield 65, 3) := dc_180 (gB_l lq_cX11_greedy (p := 21) (o := 180) rfl) (gB_l lq_cX11_greedy (p := 22) (o := 0) rfl) (gB_l lq_cX11_greedy (p := 23) (o := 65) rfl) rfl
theorem dX11_greedy_24 : decode cX11_greedy 24 = .ok (.aload_n 3, 1) := dc_45 (gB_l lq_cX11_greedy (p := 24) (o := 45) rfl)
theorem dX11_greedy_25 : decode cX11_greedy 25 = .ok (.invokevirtual 90, 3) := dc_182 (gB_l lq_cX11_greedy (p := 25) (o := 182) rfl) (gB_l lq_cX11_greedy (p := 26) (o := 0) rfl) (gB_l lq_cX11_greedy (p := 27) (o := 90) rfl) rfl
theorem dX11_greedy_28 : decode cX11_greedy 28 = .ok (.aload_n 3, 1) := dc_45 (gB_l lq_cX11_greedy (p := 28) (o := 45) rfl)
theorem dX11_greedy_29 : decode cX11_greedy 29 = .ok (.iload_n 2, 1) := dc_28 (gB_l lq_cX11_greedy (p := 29) (o := 28) rfl)
theorem dX11_greedy_30 : decode cX11_greedy 30 = .ok (.invokestatic 274, 3) := dc_184 (gB_l lq_cX11_greedy (p := 30) (o := 184) rfl) (gB_l lq_cX11_greedy (p := 31) (o := 1) rfl) (gB_c lq_cX11_greedy q1_cX11_greedy 0 (o := 18) rfl) rfl
theorem dX11_greedy_33 : decode cX11_greedy 33 = .ok (.aload_n 0, 1) := dc_42 (gB_c lq_cX11_greedy q1_cX11_greedy 1 (o := 42) rfl)
theorem dX11_greedy_34 : decode cX11_greedy 34 = .ok (.iload_n 1, 1) := dc_27 (gB_c lq_cX11_greedy q1_cX11_greedy 2 (o := 27) rfl)
theorem dX11_greedy_35 : decode cX11_greedy 35 = .ok (.invokevirtual 97, 3) := dc_182 (gB_c lq_cX11_greedy q1_cX11_greedy 3 (o := 182) rfl) (gB_c lq_cX11_greedy q1_cX11_greedy 4 (o := 0) rfl) (gB_c lq_cX11_greedy q1_cX11_greedy 5 (o := 97) rfl) rfl
theorem dX11_greedy_38 : decode cX11_greedy 38 = .ok (.aload_n 3, 1) := dc_45 (gB_c lq_cX11_greedy q1_cX11_greedy 6 (o := 45) rfl)
theorem dX11_greedy_39 : decode cX11_greedy 39 = .ok (.iload_n 2, 1) := dc_28 (gB_c lq_cX11_greedy q1_cX11_greedy 7 (o := 28) rfl)
theorem dX11_greedy_40 : decode cX11_greedy 40 = .ok (.invokestatic 166, 3) := dc_184 (gB_c lq_cX11_greedy q1_cX11_greedy 8 (o := 184) rfl) (gB_c lq_cX11_greedy q1_cX11_greedy 9 (o := 0) rfl) (gB_c lq_cX11_greedy q1_cX11_greedy 10 (o := 166) rfl) rfl
theorem dX11_greedy_43 : decode cX11_greedy 43 = .ok (.ireturn, 1) := dc_172 (gB_c lq_cX11_greedy q1_cX11_greedy 11 (o := 172) rfl)
abbrev r0_cX11_halve : List Nat := [42, 27, 182, 0, 116, 77, 44, 199, 0, 8, 16, 254, 167, 0, 7, 44, 184, 0, 240, 172]
theorem lq_cX11_halve : (cX11_halve).data.toList.map UInt8.toNat = r0_cX11_halve := by decide +kernel
theorem dX11_halve_0 : decode cX11_halve 0 = .ok (.aload_n 0, 1) := dc_42 (gB_l lq_cX11_halve (p := 0) (o := 42) rfl)
theorem dX11_halve_1 : decode cX11_halve 1 = .ok (.iload_n 1, 1) := dc_27 (gB_l lq_cX11_halve (p := 1) (o := 27) rfl)
theorem dX11_halve_2 : decode cX11_halve 2 = .ok (.invokevirtual 116, 3) := dc_182 (gB_l lq_cX11_halve (p := 2) (o := 182) rfl) (gB_l lq_cX11_halve (p := 3) (o := 0) rfl) (gB_l lq_cX11_halve (p := 4) (o := 116) rfl) rfl
theorem dX11_halve_5 : decode cX11_halve 5 = .ok (.astore_n 2, 1) := dc_77 (gB_l lq_cX11_halve (p := 5) (o := 77) rfl)
theorem dX11_halve_6 : decode cX11_halve 6 = .ok (.aload_n 2, 1) := dc_44 (gB_l lq_cX11_halve (p := 6) (o := 44) rfl)
theorem dX11_halve_7 : decode cX11_halve 7 = .ok (.ifnonnull 8, 3) := dc_199 (gB_l lq_cX11_halve (p := 7) (o := 199) rfl) (gB_l lq_cX11_halve (p := 8) (o := 0) rfl) (gB_l lq_cX11_halve (p := 9) (o := 8) rfl) rfl
theorem dX11_halve_10 : decode cX11_halve 10 = .ok (.bipush (-2), 2) := dc_16 (gB_l lq_cX11_halve (p := 10) (o := 16) rfl) (gB_l lq_cX11_halve (p := 11) (o := 254) rfl) rfl
theorem dX11_halve_12 : decode cX11_halve 12 = .ok (.goto 7, 3) := dc_167 (gB_l lq_cX11_halve (p := 12) (o := 167) rfl) (gB_l lq_cX11_halve (p := 13) (o := 0) rfl) (gB_l lq_cX11_halve (p := 14) (o := 7) rfl) rfl
theorem dX11_halve_15 : decode cX11_halve 15 = .ok (.aload_n 2, 1) := dc_44 (gB_l lq_cX11_halve (p := 15) (o := 44) rfl)
theorem dX11_halve_16 : decode cX11_halve 16 = .ok (.invokestatic 240, 3) := dc_184 (gB_l lq_cX11_halve (p := 16) (o := 184) rfl) (gB_l lq_cX11_halve (p := 17) (o := 0) rfl) (gB_l lq_cX11_halve (p := 18) (o := 240) rfl) rfl
theorem dX11_halve_19 : decode cX11_halve 19 = .ok (.ireturn, 1) := dc_172 (gB_l lq_cX11_halve (p := 19) (o := 172) rfl)
abbrev r4_cX11_init : List Nat := [89, 183, 0, 60, 181, 0, 61, 42, 187, 0, 30, 89, 183, 0, 42, 181, 0, 65, 42, 187, 0, 30, 89, 183, 0, 42, 181, 0, 69, 177]
def a3_cX11_init : List Nat := [132, 1, 1, 167, 255, 222, 42, 187, 0, 44, 89, 183, 0, 46, 181, 0, 47, 42, 187, 0, 51, 89, 183, 0, 53, 181, 0, 54, 42, 187, 0, 58]
abbrev r3_cX11_init : List Nat := a3_cX11_init ++ r4_cX11_init
def a2_cX11_init : List Nat := [60, 27, 6, 162, 0, 35, 42, 180, 0, 32, 27, 187, 0, 30, 89, 183, 0, 42, 83, 42, 180, 0, 38, 27, 187, 0, 36, 89, 183, 0, 43, 83]
abbrev r2_cX11_init : List Nat := a2_cX11_init ++ r3_cX11_init
def a1_cX11_init : List Nat := [42, 187, 0, 21, 89, 42, 180, 0, 14, 183, 0, 23, 181, 0, 26, 42, 6, 189, 0, 30, 181, 0, 32, 42, 6, 189, 0, 36, 181, 0, 38, 3]
abbrev r1_cX11_init : List Nat := a1_cX11_init ++ r2_cX11_init
def a0_cX11_init : List Nat := [42, 183, 0, 1, 42, 187, 0, 7, 89, 17, 1, 144, 183, 0, 11, 181, 0, 14, 42, 187, 0, 7, 89, 17, 1, 0, 183, 0, 11, 181, 0, 18]
abbrev r0_cX11_init : List Nat := a0_cX11_init ++ r1_cX11_init
theorem lq_cX11_init : (cX11_init).data.toList.map UInt8.toNat = r0_cX11_init := by decide +kernel
theorem q1_cX11_init : ∀ i, (r0_cX11_init)[32 + i]? = (r1_cX11_init)[i]? := chn (A := a0_cX11_init) (B := r1_cX11_init) (n := 0) (k := 32) rfl (ch0 (R := r0_cX11_init))
theorem q2_cX11_init : ∀ i, (r0_cX11_init)[64 + i]? = (r2_cX11_init)[i]? := chn (A := a1_cX11_init) (B := r2_cX11_init) (n := 32) (k := 32) rfl q1_cX11_init
theorem q3_cX11_init : ∀ i, (r0_cX11_init)[96 + i]? = (r3_cX11_init)[i]? := chn (A := a2_cX11_init) (B := r3_cX11_init) (n := 64) (k := 32) rfl q2_cX11_init
theorem q4_cX11_init : ∀ i, (r0_cX11_init)[128 + i]? = (r4_cX11_init)[i]? := chn (A := a3_cX11_init) (B := r4_cX11_init) (n := 96) (k := 32) rfl q3_cX11_init
theorem dX11_init_0 : decode cX11_init 0 = .ok (.aload_n 0, 1) := dc_42 (gB_l lq_cX11_init (p := 0) (o := 42) rfl)
theorem dX11_init_1 : decode cX11_init 1 = .ok (.invokespecial 1, 3) := dc_183 (gB_l lq_cX11_init (p := 1) (o := 183) rfl) (gB_l lq_cX11_init (p := 2) (o := 0) rfl) (gB_l lq_cX11_init (p := 3) (o := 1) rfl) rfl
theorem dX11_init_4 : decode cX11_init 4 = .ok (.aload_n 0, 1) := dc_42 (gB_l lq_cX11_init (p := 4) (o := 42) rfl)
theorem dX11_init_5 : decode cX11_init 5 = .ok (.new 7, 3) := dc_187 (gB_l lq_cX11_init (p := 5) (o := 187) rfl) (gB_l lq_cX11_init (p := 6) (o := 0) rfl) (gB_l lq_cX11_init (p := 7) (o := 7) rfl) rfl
theorem dX11_init_8 : decode cX11_init 8 = .ok (.dup, 1) := dc_89 (gB_l lq_cX11_init (p := 8) (o := 89) rfl)
theorem dX11_init_9 : decode cX11_init 9 = .ok (.sipush 400, 3) := dc_17 (gB_l lq_cX11_init (p := 9) (o := 17) rfl) (gB_l lq_cX11_init (p := 10) (o := 1) rfl) (gB_l lq_cX11_init (p := 11) (o := 144) rfl) rfl
theorem dX11_init_12 : decode cX11_init 12 = .ok (.invokespecial 11, 3) := dc_183 (gB_l lq_cX11_init (p := 12) (o := 183) rfl) (gB_l lq_cX11_init (p := 13) (o := 0) rfl) (gB_l lq_cX11_init (p := 14) (o := 11) rfl) rfl
theorem dX11_init_15 : decode cX11_init 15 = .ok (.putfield 14, 3) := dc_181 (gB_l lq_cX11_init (p := 15) (o := 181) rfl) (gB_l lq_cX11_init (p := 16) (o := 0) rfl) (gB_l lq_cX11_init (p := 17) (o := 14) rfl) rfl
theorem dX11_init_18 : decode cX11_init 18 = .ok (.aload_n 0, 1) := dc_42 (gB_l lq_cX11_init (p := 18) (o := 42) rfl)
theorem dX11_init_19 : decode cX11_init 19 = .ok (.new 7, 3) := dc_187 (gB_l lq_cX11_init (p := 19) (o := 187) rfl) (gB_l lq_cX11_init (p := 20) (o := 0) rfl) (gB_l lq_cX11_init (p := 21) (o := 7) rfl) rfl
theorem dX11_init_22 : decode cX11_init 22 = .ok (.dup, 1) := dc_89 (gB_l lq_cX11_init (p := 22) (o := 89) rfl)
theorem dX11_init_23 : decode cX11_init 23 = .ok (.sipush 256, 3) := dc_17 (gB_l lq_cX11_init (p := 23) (o := 17) rfl) (gB_l lq_cX11_init (p := 24) (o := 1) rfl) (gB_l lq_cX11_init (p := 25) (o := 0) rfl) rfl
theorem dX11_init_26 : decode cX11_init 26 = .ok (.invokespecial 11, 3) := dc_183 (gB_l lq_cX11_init (p := 26) (o := 183) rfl) (gB_l lq_cX11_init (p := 27) (o := 0) rfl) (gB_l lq_cX11_init (p := 28) (o := 11) rfl) rfl
theorem dX11_init_29 : decode cX11_init 29 = .ok (.putfield 18, 3) := dc_181 (gB_l lq_cX11_init (p := 29) (o := 181) rfl) (gB_l lq_cX11_init (p := 30) (o := 0) rfl) (gB_l lq_cX11_init (p := 31) (o := 18) rfl) rfl
theorem dX11_init_32 : decode cX11_init 32 = .ok (.aload_n 0, 1) := dc_42 (gB_c lq_cX11_init q1_cX11_init 0 (o := 42) rfl)
theorem dX11_init_33 : decode cX11_init 33 = .ok (.new 21, 3) := dc_187 (gB_c lq_cX11_init q1_cX11_init 1 (o := 187) rfl) (gB_c lq_cX11_init q1_cX11_init 2 (o := 0) rfl) (gB_c lq_cX11_init q1_cX11_init 3 (o := 21) rfl) rfl
theorem dX11_init_36 : decode cX11_init 36 = .ok (.dup, 1) := dc_89 (gB_c lq_cX11_init q1_cX11_init 4 (o := 89) rfl)
theorem dX11_init_37 : decode cX11_init 37 = .ok (.aload_n 0, 1) := dc_42 (gB_c lq_cX11_init q1_cX11_init 5 (o := 42) rfl)
theorem dX11_init_38 : decode cX11_init 38 = .ok (.getfield 14, 3) := dc_180 (gB_c lq_cX11_init q1_cX11_init 6 (o := 180) rfl) (gB_c lq_cX11_init q1_cX11_init 7 (o := 0) rfl) (gB_c lq_cX11_init q1_cX11_init 8 (o := 14) rfl) rfl
theorem dX11_init_41 : decode cX11_init 41 = .ok (.invokespecial 23, 3) := dc_183 (gB_c lq_cX11_init q1_cX11_init 9 (o := 183) rfl) (gB_c lq_cX11_init q1_cX11_init 10 (o := 0) rfl) (gB_c lq_cX11_init q1_cX11_init 11 (o := 23) rfl) rfl
theorem dX11_init_44 : decode cX11_init 44 = .ok (.putfield 26, 3) := dc_181 (gB_c lq_cX11_init q1_cX11_init 12 (o := 181) rfl) (gB_c lq_cX11_init q1_cX11_init 13 (o := 0) rfl) (gB_c lq_cX11_init q1_cX11_init 14 (o := 26) rfl) rfl
theorem dX11_init_47 : decode cX11_init 47 = .ok (.aload_n 0, 1) := dc_42 (gB_c lq_cX11_init q1_cX11_init 15 (o := 42) rfl)
theorem dX11_init_48 : decode cX11_init 48 = .ok (.iconst 3, 1) := dc_6 (gB_c lq_cX11_init q1_cX11_init 16 (o := 6) rfl)
theorem dX11_init_49 : decode cX11_init 49 = .ok (.anewarray 30, 3) := dc_189 (gB_c lq_cX11_init q1_cX11_init 17 (o := 189) rfl) (gB_c lq_cX11_init q1_cX11_init 18 (o := 0) rfl) (gB_c lq_cX11_init q1_cX11_init 19 (o := 30) rfl) rfl
theorem dX11_init_52 : decode cX11_init 52 = .ok (.putfield 32, 3) := dc_181 (gB_c lq_cX11_init q1_cX11_init 20 (o := 181) rfl) (gB_c lq_cX11_init q1_cX11_init 21 (o := 0) rfl) (gB_c lq_cX11_init q1_cX11_init 22 (o := 32) rfl) rfl
theorem dX11_init_55 : decode cX11_init 55 = .ok (.aload_n 0, 1) := dc_42 (gB_c lq_cX11_init q1_cX11_init 23 (o := 42) rfl)
theorem dX11_init_56 : decode cX11_init 56 = .ok (.iconst 3, 1) := dc_6 (gB_c lq_cX11_init q1_cX11_init 24 (o := 6) rfl)
theorem dX11_init_57 : decode cX11_init 57 = .ok (.anewarray 36, 3) := dc_189 (gB_c lq_cX11_init q1_cX11_init 25 (o := 189) rfl) (gB_c lq_cX11_init q1_cX11_init 26 (o := 0) rfl) (gB_c lq_cX11_init q1_cX11_init 27 (o := 36) rfl) rfl
theorem dX11_init_60 : decode cX11_init 60 = .ok (.putfield 38, 3) := dc_181 (gB_c lq_cX11_init q1_cX11_init 28 (o := 181) rfl) (gB_c lq_cX11_init q1_cX11_init 29 (o := 0) rfl) (gB_c lq_cX11_init q1_cX11_init 30 (o := 38) rfl) rfl
theorem dX11_init_63 : decode cX11_init 63 = .ok (.iconst 0, 1) := dc_3 (gB_c lq_cX11_init q1_cX11_init 31 (o := 3) rfl)
theorem dX11_init_64 : decode cX11_init 64 = .ok (.istore_n 1, 1) := dc_60 (gB_c lq_cX11_init q2_cX11_init 0 (o := 60) rfl)
theorem dX11_init_65 : decode cX11_init 65 = .ok (.iload_n 1, 1) := dc_27 (gB_c lq_cX11_init q2_cX11_init 1 (o := 27) rfl)
theorem dX11_init_66 : decode cX11_init 66 = .ok (.iconst 3, 1) := dc_6 (gB_c lq_cX11_init q2_cX11_init 2 (o := 6) rfl)
theorem dX11_init_67 : decode cX11_init 67 = .ok (.if_icmp .ge 35, 3) := dc_162 (gB_c lq_cX11_init q2_cX11_init 3 (o := 162) rfl) (gB_c lq_cX11_init q2_cX11_init 4 (o := 0) rfl) (gB_c lq_cX11_init q2_cX11_init 5 (o := 35) rfl) rfl
theorem dX11_init_70 : decode cX11_init 70 = .ok (.aload_n 0, 1) := dc_42 (gB_c lq_cX11_init q2_cX11_init 6 (o := 42) rfl)
theorem dX11_init_71 : decode cX11_init 71 = .ok (.getfield 32, 3) := dc_180 (gB_c lq_cX11_init q2_cX11_init 7 (o := 180) rfl) (gB_c lq_cX11_init q2_cX11_init 8 (o := 0) rfl) (gB_c lq_cX11_init q2_cX11_init 9 (o := 32) rfl) rfl
theorem dX11_init_74 : decode cX11_init 74 = .ok (.iload_n 1, 1) := dc_27 (gB_c lq_cX11_init q2_cX11_init 10 (o := 27) rfl)
theorem dX11_init_75 : decode cX11_init 75 = .ok (.new 30, 3) := dc_187 (gB_c lq_cX11_init q2_cX11_init 11 (o := 187) rfl) (gB_c lq_cX11_init q2_cX11_init 12 (o := 0) rfl) (gB_c lq_cX11_init q2_cX11_init 13 (o := 30) rfl) rfl
theorem dX11_init_78 : decode cX11_init 78 = .ok (.dup, 1) := dc_89 (gB_c lq_cX11_init q2_cX11_init 14 (o := 89) rfl)
theorem dX11_init_79 : decode cX11_init 79 = .ok (.invokespecial 42, 3) := dc_183 (gB_c lq_cX11_init q2_cX11_init 15 (o := 183) rfl) (gB_c lq_cX11_init q2_cX11_init 16 (o := 0) rfl) (gB_c lq_cX11_init q2_cX11_init 17 (o := 42) rfl) rfl
theorem dX11_init_82 : decode cX11_init 82 = .ok (.aastore, 1) := dc_83 (gB_c lq_cX11_init q2_cX11_init 18 (o := 83) rfl)
theorem dX11_init_83 : decode cX11_init 83 = .ok (.aload_n 0, 1) := dc_42 (gB_c lq_cX11_init q2_cX11_init 19 (o := 42) rfl)
theorem dX11_init_84 : decode cX11_init 84 = .ok (.getfield 38, 3) := dc_180 (gB_c lq_cX11_init q2_cX11_init 20 (o := 180) rfl) (gB_c lq_cX11_init q2_cX11_init 21 (o := 0) rfl) (gB_c lq_cX11_init q2_cX11_init 22 (o := 38) rfl) rfl
theorem dX11_init_87 : decode cX11_init 87 = .ok (.iload_n 1, 1) := dc_27 (gB_c lq_cX11_init q2_cX11_init 23 (o := 27) rfl)
theorem dX11_init_88 : decode cX11_init 88 = .ok (.new 36, 3) := dc_187 (gB_c lq_cX11_init q2_cX11_init 24 (o := 187) rfl) (gB_c lq_cX11_init q2_cX11_init 25 (o := 0) rfl) (gB_c lq_cX11_init q2_cX11_init 26 (o := 36) rfl) rfl
theorem dX11_init_91 : decode cX11_init 91 = .ok (.dup, 1) := dc_89 (gB_c lq_cX11_init q2_cX11_init 27 (o := 89) rfl)
theorem dX11_init_92 : decode cX11_init 92 = .ok (.invokespecial 43, 3) := dc_183 (gB_c lq_cX11_init q2_cX11_init 28 (o := 183) rfl) (gB_c lq_cX11_init q2_cX11_init 29 (o := 0) rfl) (gB_c lq_cX11_init q2_cX11_init 30 (o := 43) rfl) rfl
theorem dX11_init_95 : decode cX11_init 95 = .ok (.aastore, 1) := dc_83 (gB_c lq_cX11_init q2_cX11_init 31 (o := 83) rfl)
theorem dX11_init_96 : decode cX11_init 96 = .ok (.iinc 1 1, 3) := dc_132 (gB_c lq_cX11_init q3_cX11_init 0 (o := 132) rfl) (gB_c lq_cX11_init q3_cX11_init 1 (o := 1) rfl) (gB_c lq_cX11_init q3_cX11_init 2 (o := 1) rfl) rfl
theorem dX11_init_99 : decode cX11_init 99 = .ok (.goto (-34), 3) := dc_167 (gB_c lq_cX11_init q3_cX11_init 3 (o := 167) rfl) (gB_c lq_cX11_init q3_cX11_init 4 (o := 255) rfl) (gB_c lq_cX11_init q3_cX11_init 5 (o := 222) rfl) rfl
theorem dX11_init_102 : decode cX11_init 102 = .ok (.aload_n 0, 1) := dc_42 (gB_c lq_cX11_init q3_cX11_init 6 (o := 42) rfl)
theorem dX11_init_103 : decode cX11_init 103 = .ok (.new 44, 3) := dc_187 (gB_c lq_cX11_init q3_cX11_init 7 (o := 187) rfl) (gB_c lq_cX11_init q3_cX11_init 8 (o := 0) rfl) (gB_c lq_cX11_init q3_cX11_init 9 (o := 44) rfl) rfl
theorem dX11_init_106 : decode cX11_init 106 = .ok (.dup, 1) := dc_89 (gB_c lq_cX11_init q3_cX11_init 10 (o := 89) rfl)
theorem dX11_init_107 : decode cX11_init 107 = .ok (.invokespecial 46, 3) := dc_183 (gB_c lq_cX11_init q3_cX11_init 11 (o := 183) rfl) (gB_c lq_cX11_init q3_cX11_init 12 (o := 0) rfl) (gB_c lq_cX11_init q3_cX11_init 13 (o := 46) rfl) rfl
theorem dX11_init_110 : decode cX11_init 110 = .ok (.putfield 47, 3) := dc_181 (gB_c lq_cX11_init q3_cX11_init 14 (o := 181) rfl) (gB_c lq_cX11_init q3_cX11_init 15 (o := 0) rfl) (gB_c lq_cX11_init q3_cX11_init 16 (o := 47) rfl) rfl
theorem dX11_init_113 : decode cX11_init 113 = .ok (.aload_n 0, 1) := dc_42 (gB_c lq_cX11_init q3_cX11_init 17 (o := 42) rfl)
theorem dX11_init_114 : decode cX11_init 114 = .ok (.new 51, 3) := dc_187 (gB_c lq_cX11_init q3_cX11_init 18 (o := 187) rfl) (gB_c lq_cX11_init q3_cX11_init 19 (o := 0) rfl) (gB_c lq_cX11_init q3_cX11_init 20 (o := 51) rfl) rfl
theorem dX11_init_117 : decode cX11_init 117 = .ok (.dup, 1) := dc_89 (gB_c lq_cX11_init q3_cX11_init 21 (o := 89) rfl)
theorem dX11_init_118 : decode cX11_init 118 = .ok (.invokespecial 53, 3) := dc_183 (gB_c lq_cX11_init q3_cX11_init 22 (o := 183) rfl) (gB_c lq_cX11_init q3_cX11_init 23 (o := 0) rfl) (gB_c lq_cX11_init q3_cX11_init 24 (o := 53) rfl) rfl
theorem dX11_init_121 : decode cX11_init 121 = .ok (.putfield 54, 3) := dc_181 (gB_c lq_cX11_init q3_cX11_init 25 (o := 181) rfl) (gB_c lq_cX11_init q3_cX11_init 26 (o := 0) rfl) (gB_c lq_cX11_init q3_cX11_init 27 (o := 54) rfl) rfl
theorem dX11_init_124 : decode cX11_init 124 = .ok (.aload_n 0, 1) := dc_42 (gB_c lq_cX11_init q3_cX11_init 28 (o := 42) rfl)
theorem dX11_init_125 : decode cX11_init 125 = .ok (.new 58, 3) := dc_187 (gB_c lq_cX11_init q3_cX11_init 29 (o := 187) rfl) (gB_c lq_cX11_init q3_cX11_init 30 (o := 0) rfl) (gB_c lq_cX11_init q3_cX11_init 31 (o := 58) rfl) rfl
theorem dX11_init_128 : decode cX11_init 128 = .ok (.dup, 1) := dc_89 (gB_c lq_cX11_init q4_cX11_init 0 (o := 89) rfl)
theorem dX11_init_129 : decode cX11_init 129 = .ok (.invokespecial 60, 3) := dc_183 (gB_c lq_cX11_init q4_cX11_init 1 (o := 183) rfl) (gB_c lq_cX11_init q4_cX11_init 2 (o := 0) rfl) (gB_c lq_cX11_init q4_cX11_init 3 (o := 60) rfl) rfl
theorem dX11_init_132 : decode cX11_init 132 = .ok (.putfield 61, 3) := dc_181 (gB_c lq_cX11_init q4_cX11_init 4 (o := 181) rfl) (gB_c lq_cX11_init q4_cX11_init 5 (o := 0) rfl) (gB_c lq_cX11_init q4_cX11_init 6 (o := 61) rfl) rfl
theorem dX11_init_135 : decode cX11_init 135 = .ok (.aload_n 0, 1) := dc_42 (gB_c lq_cX11_init q4_cX11_init 7 (o := 42) rfl)
theorem dX11_init_136 : decode cX11_init 136 = .ok (.new 30, 3) := dc_187 (gB_c lq_cX11_init q4_cX11_init 8 (o := 187) rfl) (gB_c lq_cX11_init q4_cX11_init 9 (o := 0) rfl) (gB_c lq_cX11_init q4_cX11_init 10 (o := 30) rfl) rfl
theorem dX11_init_139 : decode cX11_init 139 = .ok (.dup, 1) := dc_89 (gB_c lq_cX11_init q4_cX11_init 11 (o := 89) rfl)
theorem dX11_init_140 : decode cX11_init 140 = .ok (.invokespecial 42, 3) := dc_183 (gB_c lq_cX11_init q4_cX11_init 12 (o := 183) rfl) (gB_c lq_cX11_init q4_cX11_init 13 (o := 0) rfl) (gB_c lq_cX11_init q4_cX11_init 14 (o := 42) rfl) rfl
theorem dX11_init_143 : decode cX11_init 143 = .ok (.putfield 65, 3) := dc_181 (gB_c lq_cX11_init q4_cX11_init 15 (o := 181) rfl) (gB_c lq_cX11_init q4_cX11_init 16 (o := 0) rfl) (gB_c lq_cX11_init q4_cX11_init 17 (o := 65) rfl) rfl
theorem dX11_init_146 : decode cX11_init 146 = .ok (.aload_n 0, 1) := dc_42 (gB_c lq_cX11_init q4_cX11_init 18 (o := 42) rfl)
theorem dX11_init_147 : decode cX11_init 147 = .ok (.new 30, 3) := dc_187 (gB_c lq_cX11_init q4_cX11_init 19 (o := 187) rfl) (gB_c lq_cX11_init q4_cX11_init 20 (o := 0) rfl) (gB_c lq_cX11_init q4_cX11_init 21 (o := 30) rfl) rfl
theorem dX11_init_150 : decode cX11_init 150 = .ok (.dup, 1) := dc_89 (gB_c lq_cX11_init q4_cX11_init 22 (o := 89) rfl)
theorem dX11_init_151 : decode cX11_init 151 = .ok (.invokespecial 42, 3) := dc_183 (gB_c lq_cX11_init q4_cX11_init 23 (o := 183) rfl) (gB_c lq_cX11_init q4_cX11_init 24 (o := 0) rfl) (gB_c lq_cX11_init q4_cX11_init 25 (o := 42) rfl) rfl
theorem dX11_init_154 : decode cX11_init 154 = .ok (.putfield 69, 3) := dc_181 (gB_c lq_cX11_init q4_cX11_init 26 (o := 181) rfl) (gB_c lq_cX11_init q4_cX11_init 27 (o := 0) rfl) (gB_c lq_cX11_init q4_cX11_init 28 (o := 69) rfl) rfl
theorem dX11_init_157 : decode cX11_init 157 = .ok (.return_, 1) := dc_177 (gB_c lq_cX11_init q4_cX11_init 29 (o := 177) rfl)
abbrev r0_cX11_isBounded : List Nat := [26, 153, 0, 18, 26, 4, 159, 0, 13, 26, 5, 159, 0, 8, 26, 8, 160, 0, 7, 4, 167, 0, 4, 3, 172]
theorem lq_cX11_isBounded : (cX11_isBounded).data.toList.map UInt8.toNat = r0_cX11_isBounded := by decide +kernel
theorem dX11_isBounded_0 : decode cX11_isBounded 0 = .ok (.iload_n 0, 1) := dc_26 (gB_l lq_cX11_isBounded (p := 0) (o := 26) rfl)
theorem dX11_isBounded_1 : decode cX11_isBounded 1 = .ok (.ifCond .eq 18, 3) := dc_153 (gB_l lq_cX11_isBounded (p := 1) (o := 153) rfl) (gB_l lq_cX11_isBounded (p := 2) (o := 0) rfl) (gB_l lq_cX11_isBounded (p := 3) (o := 18) rfl) rfl
theorem dX11_isBounded_4 : decode cX11_isBounded 4 = .ok (.iload_n 0, 1) := dc_26 (gB_l lq_cX11_isBounded (p := 4) (o := 26) rfl)
theorem dX11_isBounded_5 : decode cX11_isBounded 5 = .ok (.iconst 1, 1) := dc_4 (gB_l lq_cX11_isBounded (p := 5) (o := 4) rfl)
theorem dX11_isBounded_6 : decode cX11_isBounded 6 = .ok (.if_icmp .eq 13, 3) := dc_159 (gB_l lq_cX11_isBounded (p := 6) (o := 159) rfl) (gB_l lq_cX11_isBounded (p := 7) (o := 0) rfl) (gB_l lq_cX11_isBounded (p := 8) (o := 13) rfl) rfl
theorem dX11_isBounded_9 : decode cX11_isBounded 9 = .ok (.iload_n 0, 1) := dc_26 (gB_l lq_cX11_isBounded (p := 9) (o := 26) rfl)
theorem dX11_isBounded_10 : decode cX11_isBounded 10 = .ok (.iconst 2, 1) := dc_5 (gB_l lq_cX11_isBounded (p := 10) (o := 5) rfl)
theorem dX11_isBounded_11 : decode cX11_isBounded 11 = .ok (.if_icmp .eq 8, 3) := dc_159 (gB_l lq_cX11_isBounded (p := 11) (o := 159) rfl) (gB_l lq_cX11_isBounded (p := 12) (o := 0) rfl) (gB_l lq_cX11_isBounded (p := 13) (o := 8) rfl) rfl
theorem dX11_isBounded_14 : decode cX11_isBounded 14 = .ok (.iload_n 0, 1) := dc_26 (gB_l lq_cX11_isBounded (p := 14) (o := 26) rfl)
theorem dX11_isBounded_15 : decode cX11_isBounded 15 = .ok (.iconst 5, 1) := dc_8 (gB_l lq_cX11_isBounded (p := 15) (o := 8) rfl)
theorem dX11_isBounded_16 : decode cX11_isBounded 16 = .ok (.if_icmp .ne 7, 3) := dc_160 (gB_l lq_cX11_isBounded (p := 16) (o := 160) rfl) (gB_l lq_cX11_isBounded (p := 17) (o := 0) rfl) (gB_l lq_cX11_isBounded (p := 18) (o := 7) rfl) rfl
theorem dX11_isBounded_19 : decode cX11_isBounded 19 = .ok (.iconst 1, 1) := dc_4 (gB_l lq_cX11_isBounded (p := 19) (o := 4) rfl)
theorem dX11_isBounded_20 : decode cX11_isBounded 20 = .ok (.goto 4, 3) := dc_167 (gB_l lq_cX11_isBounded (p := 20) (o := 167) rfl) (gB_l lq_cX11_isBounded (p := 21) (o := 0) rfl) (gB_l lq_cX11_isBounded (p := 22) (o := 4) rfl) rfl
theorem dX11_isBounded_23 : decode cX11_isBounded 23 = .ok (.iconst 0, 1) := dc_3 (gB_l lq_cX11_isBounded (p := 23) (o := 3) rfl)
theorem dX11_isBounded_24 : decode cX11_isBounded 24 = .ok (.ireturn, 1) := dc_172 (gB_l lq_cX11_isBounded (p := 24) (o := 172) rfl)
abbrev r0_cX11_isMeasure : List Nat := [26, 155, 0, 13, 26, 16, 7, 162, 0, 7, 4, 167, 0, 4, 3, 172]
theorem lq_cX11_isMeasure : (cX11_isMeasure).data.toList.map UInt8.toNat = r0_cX11_isMeasure := by decide +kernel
theorem dX11_isMeasure_0 : decode cX11_isMeasure 0 = .ok (.iload_n 0, 1) := dc_26 (gB_l lq_cX11_isMeasure (p := 0) (o := 26) rfl)
theorem dX11_isMeasure_1 : decode cX11_isMeasure 1 = .ok (.ifCond .lt 13, 3) := dc_155 (gB_l lq_cX11_isMeasure (p := 1) (o := 155) rfl) (gB_l lq_cX11_isMeasure (p := 2) (o := 0) rfl) (gB_l lq_cX11_isMeasure (p := 3) (o := 13) rfl) rfl
theorem dX11_isMeasure_4 : decode cX11_isMeasure 4 = .ok (.iload_n 0, 1) := dc_26 (gB_l lq_cX11_isMeasure (p := 4) (o := 26) rfl)
theorem dX11_isMeasure_5 : decode cX11_isMeasure 5 = .ok (.bipush 7, 2) := dc_16 (gB_l lq_cX11_isMeasure (p := 5) (o := 16) rfl) (gB_l lq_cX11_isMeasure (p := 6) (o := 7) rfl) rfl
theorem dX11_isMeasure_7 : decode cX11_isMeasure 7 = .ok (.if_icmp .ge 7, 3) := dc_162 (gB_l lq_cX11_isMeasure (p := 7) (o := 162) rfl) (gB_l lq_cX11_isMeasure (p := 8) (o := 0) rfl) (gB_l lq_cX11_isMeasure (p := 9) (o := 7) rfl) rfl
theorem dX11_isMeasure_10 : decode cX11_isMeasure 10 = .ok (.iconst 1, 1) := dc_4 (gB_l lq_cX11_isMeasure (p := 10) (o := 4) rfl)
theorem dX11_isMeasure_11 : decode cX11_isMeasure 11 = .ok (.goto 4, 3) := dc_167 (gB_l lq_cX11_isMeasure (p := 11) (o := 167) rfl) (gB_l lq_cX11_isMeasure (p := 12) (o := 0) rfl) (gB_l lq_cX11_isMeasure (p := 13) (o := 4) rfl) rfl
theorem dX11_isMeasure_14 : decode cX11_isMeasure 14 = .ok (.iconst 0, 1) := dc_3 (gB_l lq_cX11_isMeasure (p := 14) (o := 3) rfl)
theorem dX11_isMeasure_15 : decode cX11_isMeasure 15 = .ok (.ireturn, 1) := dc_172 (gB_l lq_cX11_isMeasure (p := 15) (o := 172) rfl)
abbrev r0_cX11_isPriced : List Nat := [26, 184, 0, 163, 153, 0, 12, 26, 5, 159, 0, 7, 4, 167, 0, 4, 3, 172]
theorem lq_cX11_isPriced : (cX11_isPriced).data.toList.map UInt8.toNat = r0_cX11_isPriced := by decide +kernel
theorem dX11_isPriced_0 : decode cX11_isPriced 0 = .ok (.iload_n 0, 1) := dc_26 (gB_l lq_cX11_isPriced (p := 0) (o := 26) rfl)
theorem dX11_isPriced_1 : decode cX11_isPriced 1 = .ok (.invokestatic 163, 3) := dc_184 (gB_l lq_cX11_isPriced (p := 1) (o := 184) rfl) (gB_l lq_cX11_isPriced (p := 2) (o := 0) rfl) (gB_l lq_cX11_isPriced (p := 3) (o := 163) rfl) rfl
theorem dX11_isPriced_4 : decode cX11_isPriced 4 = .ok (.ifCond .eq 12, 3) := dc_153 (gB_l lq_cX11_isPriced (p := 4) (o := 153) rfl) (gB_l lq_cX11_isPriced (p := 5) (o := 0) rfl) (gB_l lq_cX11_isPriced (p := 6) (o := 12) rfl) rfl
theorem dX11_isPriced_7 : decode cX11_isPriced 7 = .ok (.iload_n 0, 1) := dc_26 (gB_l lq_cX11_isPriced (p := 7) (o := 26) rfl)
theorem dX11_isPriced_8 : decode cX11_isPriced 8 = .ok (.iconst 2, 1) := dc_5 (gB_l lq_cX11_isPriced (p := 8) (o := 5) rfl)
theorem dX11_isPriced_9 : decode cX11_isPriced 9 = .ok (.if_icmp .eq 7, 3) := dc_159 (gB_l lq_cX11_isPriced (p := 9) (o := 159) rfl) (gB_l lq_cX11_isPriced (p := 10) (o := 0) rfl) (gB_l lq_cX11_isPriced (p := 11) (o := 7) rfl) rfl
theorem dX11_isPriced_12 : decode cX11_isPriced 12 = .ok (.iconst 1, 1) := dc_4 (gB_l lq_cX11_isPriced (p := 12) (o := 4) rfl)
theorem dX11_isPriced_13 : decode cX11_isPriced 13 = .ok (.goto 4, 3) := dc_167 (gB_l lq_cX11_isPriced (p := 13) (o := 167) rfl) (gB_l lq_cX11_isPriced (p := 14) (o := 0) rfl) (gB_l lq_cX11_isPriced (p := 15) (o := 4) rfl) rfl
theorem dX11_isPriced_16 : decode cX11_isPriced 16 = .ok (.iconst 0, 1) := dc_3 (gB_l lq_cX11_isPriced (p := 16) (o := 3) rfl)
theorem dX11_isPriced_17 : decode cX11_isPriced 17 = .ok (.ireturn, 1) := dc_172 (gB_l lq_cX11_isPriced (p := 17) (o := 172) rfl)
abbrev r0_cX11_isSlot : List Nat := [26, 155, 0, 12, 26, 6, 162, 0, 7, 4, 167, 0, 4, 3, 172]
theorem lq_cX11_isSlot : (cX11_isSlot).data.toList.map UInt8.toNat = r0_cX11_isSlot := by decide +kernel
theorem dX11_isSlot_0 : decode cX11_isSlot 0 = .ok (.iload_n 0, 1) := dc_26 (gB_l lq_cX11_isSlot (p := 0) (o := 26) rfl)
theorem dX11_isSlot_1 : decode cX11_isSlot 1 = .ok (.ifCond .lt 12, 3) := dc_155 (gB_l lq_cX11_isSlot (p := 1) (o := 155) rfl) (gB_l lq_cX11_isSlot (p := 2) (o := 0) rfl) (gB_l lq_cX11_isSlot (p := 3) (o := 12) rfl) rfl
theorem dX11_isSlot_4 : decode cX11_isSlot 4 = .ok (.iload_n 0, 1) := dc_26 (gB_l lq_cX11_isSlot (p := 4) (o := 26) rfl)
theorem dX11_isSlot_5 : decode cX11_isSlot 5 = .ok (.iconst 3, 1) := dc_6 (gB_l lq_cX11_isSlot (p := 5) (o := 6) rfl)
theorem dX11_isSlot_6 : decode cX11_isSlot 6 = .ok (.if_icmp .ge 7, 3) := dc_162 (gB_l lq_cX11_isSlot (p := 6) (o := 162) rfl) (gB_l lq_cX11_isSlot (p := 7) (o := 0) rfl) (gB_l lq_cX11_isSlot (p := 8) (o := 7) rfl) rfl
theorem dX11_isSlot_9 : decode cX11_isSlot 9 = .ok (.iconst 1, 1) := dc_4 (gB_l lq_cX11_isSlot (p := 9) (o := 4) rfl)
theorem dX11_isSlot_10 : decode cX11_isSlot 10 = .ok (.goto 4, 3) := dc_167 (gB_l lq_cX11_isSlot (p := 10) (o := 167) rfl) (gB_l lq_cX11_isSlot (p := 11) (o := 0) rfl) (gB_l lq_cX11_isSlot (p := 12) (o := 4) rfl) rfl
theorem dX11_isSlot_13 : decode cX11_isSlot 13 = .ok (.iconst 0, 1) := dc_3 (gB_l lq_cX11_isSlot (p := 13) (o := 3) rfl)
theorem dX11_isSlot_14 : decode cX11_isSlot 14 = .ok (.ireturn, 1) := dc_172 (gB_l lq_cX11_isSlot (p := 14) (o := 172) rfl)
abbrev r1_cX11_layers : List Nat := [1, 22, 42, 27, 182, 0, 97, 45, 42, 180, 0, 65, 182, 1, 12, 172]
def a0_cX11_layers : List Nat := [42, 27, 182, 0, 116, 78, 45, 198, 0, 11, 45, 28, 182, 0, 141, 154, 0, 6, 16, 254, 172, 42, 180, 0, 65, 45, 182, 0, 90, 45, 28, 184]
abbrev r0_cX11_layers : List Nat := a0_cX11_layers ++ r1_cX11_layers
theorem lq_cX11_layers : (cX11_layers).data.toList.map UInt8.toNat = r0_cX11_layers := by decide +kernel
theorem q1_cX11_layers : ∀ i, (r0_cX11_layers)[32 + i]? = (r1_cX11_layers)[i]? := chn (A := a0_cX11_layers) (B := r1_cX11_layers) (n := 0) (k := 32) rfl (ch0 (R := r0_cX11_layers))
theorem dX11_layers_0 : decode cX11_layers 0 = .ok (.aload_n 0, 1) := dc_42 (gB_l lq_cX11_layers (p := 0) (o := 42) rfl)
theorem dX11_layers_1 : decode cX11_layers 1 = .ok (.iload_n 1, 1) := dc_27 (gB_l lq_cX11_layers (p := 1) (o := 27) rfl)
theorem dX11_layers_2 : decode cX11_layers 2 = .ok (.invokevirtual 116, 3) := dc_182 (gB_l lq_cX11_layers (p := 2) (o := 182) rfl) (gB_l lq_cX11_layers (p := 3) (o := 0) rfl) (gB_l lq_cX11_layers (p := 4) (o := 116) rfl) rfl
theorem dX11_layers_5 : decode cX11_layers 5 = .ok (.astore_n 3, 1) := dc_78 (gB_l lq_cX11_layers (p := 5) (o := 78) rfl)
theorem dX11_layers_6 : decode cX11_layers 6 = .ok (.aload_n 3, 1) := dc_45 (gB_l lq_cX11_layers (p := 6) (o := 45) rfl)
theorem dX11_layers_7 : decode cX11_layers 7 = .ok (.ifnull 11, 3) := dc_198 (gB_l lq_cX11_layers (p := 7) (o := 198) rfl) (gB_l lq_cX11_layers (p := 8) (o := 0) rfl) (gB_l lq_cX11_layers (p := 9) (o := 11) rfl) rfl
theorem dX11_layers_10 : decode cX11_layers 10 = .ok (.aload_n 3, 1) := dc_45 (gB_l lq_cX11_layers (p := 10) (o := 45) rfl)
theorem dX11_layers_11 : decode cX11_layers 11 = .ok (.iload_n 2, 1) := dc_28 (gB_l lq_cX11_layers (p := 11) (o := 28) rfl)
theorem dX11_layers_12 : decode cX11_layers 12 = .ok (.invokevirtual 141, 3) := dc_182 (gB_l lq_cX11_layers (p := 12) (o := 182) rfl) (gB_l lq_cX11_layers (p := 13) (o := 0) rfl) (gB_l lq_cX11_layers (p := 14) (o := 141) rfl) rfl
theorem dX11_layers_15 : decode cX11_layers 15 = .ok (.ifCond .ne 6, 3) := dc_154 (gB_l lq_cX11_layers (p := 15) (o := 154) rfl) (gB_l lq_cX11_layers (p := 16) (o := 0) rfl) (gB_l lq_cX11_layers (p := 17) (o := 6) rfl) rfl
theorem dX11_layers_18 : decode cX11_layers 18 = .ok (.bipush (-2), 2) := dc_16 (gB_l lq_cX11_layers (p := 18) (o := 16) rfl) (gB_l lq_cX11_layers (p := 19) (o := 254) rfl) rfl
theorem dX11_layers_20 : decode cX11_layers 20 = .ok (.ireturn, 1) := dc_172 (gB_l lq_cX11_layers (p := 20) (o := 172) rfl)
theorem dX11_layers_21 : decode cX11_layers 21 = .ok (.aload_n 0, 1) := dc_42 (gB_l lq_cX11_layers (p := 21) (o := 42) rfl)
theorem dX11_layers_22 : decode cX11_layers 22 = .ok (.getfield 65, 3) := dc_180 (gB_l lq_cX11_layers (p := 22) (o := 180) rfl) (gB_l lq_cX11_layers (p := 23) (o := 0) rfl) (gB_l lq_cX11_layers (p := 24) (o := 65) rfl) rfl
theorem dX11_layers_25 : decode cX11_layers 25 = .ok (.aload_n 3, 1) := dc_45 (gB_l lq_cX11_layers (p := 25) (o := 45) rfl)
theorem dX11_layers_26 : decode cX11_layers 26 = .ok (.invokevirtual 90, 3) := dc_182 (gB_l lq_cX11_layers (p := 26) (o := 182) rfl) (gB_l lq_cX11_layers (p := 27) (o := 0) rfl) (gB_l lq_cX11_layers (p := 28) (o := 90) rfl) rfl
theorem dX11_layers_29 : decode cX11_layers 29 = .ok (.aload_n 3, 1) := dc_45 (gB_l lq_cX11_layers (p := 29) (o := 45) rfl)
theorem dX11_layers_30 : decode cX11_layers 30 = .ok (.iload_n 2, 1) := dc_28 (gB_l lq_cX11_layers (p := 30) (o := 28) rfl)
theorem dX11_layers_31 : decode cX11_layers 31 = .ok (.invokestatic 278, 3) := dc_184 (gB_l lq_cX11_layers (p := 31) (o := 184) rfl) (gB_c lq_cX11_layers q1_cX11_layers 0 (o := 1) rfl) (gB_c lq_cX11_layers q1_cX11_layers 1 (o := 22) rfl) rfl
theorem dX11_layers_34 : decode cX11_layers 34 = .ok (.aload_n 0, 1) := dc_42 (gB_c lq_cX11_layers q1_cX11_layers 2 (o := 42) rfl)
theorem dX11_layers_35 : decode cX11_layers 35 = .ok (.iload_n 1, 1) := dc_27 (gB_c lq_cX11_layers q1_cX11_layers 3 (o := 27) rfl)
theorem dX11_layers_36 : decode cX11_layers 36 = .ok (.invokevirtual 97, 3) := dc_182 (gB_c lq_cX11_layers q1_cX11_layers 4 (o := 182) rfl) (gB_c lq_cX11_layers q1_cX11_layers 5 (o := 0) rfl) (gB_c lq_cX11_layers q1_cX11_layers 6 (o := 97) rfl) rfl
theorem dX11_layers_39 : decode cX11_layers 39 = .ok (.aload_n 3, 1) := dc_45 (gB_c lq_cX11_layers q1_cX11_layers 7 (o := 45) rfl)
theorem dX11_layers_40 : decode cX11_layers 40 = .ok (.aload_n 0, 1) := dc_42 (gB_c lq_cX11_layers q1_cX11_layers 8 (o := 42) rfl)
theorem dX11_layers_41 : decode cX11_layers 41 = .ok (.getfield 65, 3) := dc_180 (gB_c lq_cX11_layers q1_cX11_layers 9 (o := 180) rfl) (gB_c lq_cX11_layers q1_cX11_layers 10 (o := 0) rfl) (gB_c lq_cX11_layers q1_cX11_layers 11 (o := 65) rfl) rfl
theorem dX11_layers_44 : decode cX11_layers 44 = .ok (.invokevirtual 268, 3) := dc_182 (gB_c lq_cX11_layers q1_cX11_layers 12 (o := 182) rfl) (gB_c lq_cX11_layers q1_cX11_layers 13 (o := 1) rfl) (gB_c lq_cX11_layers q1_cX11_layers 14 (o := 12) rfl) rfl
theorem dX11_layers_47 : decode cX11_layers 47 = .ok (.ireturn, 1) := dc_172 (gB_c lq_cX11_layers q1_cX11_layers 15 (o := 172) rfl)
abbrev r0_cX11_least : List Nat := [42, 27, 28, 182, 0, 189, 78, 45, 199, 0, 8, 16, 254, 167, 0, 7, 45, 180, 0, 193, 172]
theorem lq_cX11_least : (cX11_least).data.toList.map UInt8.toNat = r0_cX11_least := by decide +kernel
theorem dX11_least_0 : decode cX11_least 0 = .ok (.aload_n 0, 1) := dc_42 (gB_l lq_cX11_least (p := 0) (o := 42) rfl)
theorem dX11_least_1 : decode cX11_least 1 = .ok (.iload_n 1, 1) := dc_27 (gB_l lq_cX11_least (p := 1) (o := 27) rfl)
theorem dX11_least_2 : decode cX11_least 2 = .ok (.iload_n 2, 1) := dc_28 (gB_l lq_cX11_least (p := 2) (o := 28) rfl)
theorem dX11_least_3 : decode cX11_least 3 = .ok (.invokevirtual 189, 3) := dc_182 (gB_l lq_cX11_least (p := 3) (o := 182) rfl) (gB_l lq_cX11_least (p := 4) (o := 0) rfl) (gB_l lq_cX11_least (p := 5) (o := 189) rfl) rfl
theorem dX11_least_6 : decode cX11_least 6 = .ok (.astore_n 3, 1) := dc_78 (gB_l lq_cX11_least (p := 6) (o := 78) rfl)
theorem dX11_least_7 : decode cX11_least 7 = .ok (.aload_n 3, 1) := dc_45 (gB_l lq_cX11_least (p := 7) (o := 45) rfl)
theorem dX11_least_8 : decode cX11_least 8 = .ok (.ifnonnull 8, 3) := dc_199 (gB_l lq_cX11_least (p := 8) (o := 199) rfl) (gB_l lq_cX11_least (p := 9) (o := 0) rfl) (gB_l lq_cX11_least (p := 10) (o := 8) rfl) rfl
theorem dX11_least_11 : decode cX11_least 11 = .ok (.bipush (-2), 2) := dc_16 (gB_l lq_cX11_least (p := 11) (o := 16) rfl) (gB_l lq_cX11_least (p := 12) (o := 254) rfl) rfl
theorem dX11_least_13 : decode cX11_least 13 = .ok (.goto 7, 3) := dc_167 (gB_l lq_cX11_least (p := 13) (o := 167) rfl) (gB_l lq_cX11_least (p := 14) (o := 0) rfl) (gB_l lq_cX11_least (p := 15) (o := 7) rfl) rfl
theorem dX11_least_16 : decode cX11_least 16 = .ok (.aload_n 3, 1) := dc_45 (gB_l lq_cX11_least (p := 16) (o := 45) rfl)
theorem dX11_least_17 : decode cX11_least 17 = .ok (.getfield 193, 3) := dc_180 (gB_l lq_cX11_least (p := 17) (o := 180) rfl) (gB_l lq_cX11_least (p := 18) (o := 0) rfl) (gB_l lq_cX11_least (p := 19) (o := 193) rfl) rfl
theorem dX11_least_20 : decode cX11_least 20 = .ok (.ireturn, 1) := dc_172 (gB_l lq_cX11_least (p := 20) (o := 172) rfl)
abbrev r1_cX11_line : List Nat := [167, 0, 10, 25, 4, 28, 29, 182, 0, 148, 172]
def a0_cX11_line : List Nat := [42, 27, 182, 0, 116, 58, 4, 25, 4, 198, 0, 21, 25, 4, 28, 182, 0, 141, 153, 0, 12, 25, 4, 29, 182, 0, 141, 154, 0, 8, 16, 254]
abbrev r0_cX11_line : List Nat := a0_cX11_line ++ r1_cX11_line
theorem lq_cX11_line : (cX11_line).data.toList.map UInt8.toNat = r0_cX11_line := by decide +kernel
theorem q1_cX11_line : ∀ i, (r0_cX11_line)[32 + i]? = (r1_cX11_line)[i]? := chn (A := a0_cX11_line) (B := r1_cX11_line) (n := 0) (k := 32) rfl (ch0 (R := r0_cX11_line))
theorem dX11_line_0 : decode cX11_line 0 = .ok (.aload_n 0, 1) := dc_42 (gB_l lq_cX11_line (p := 0) (o := 42) rfl)
theorem dX11_line_1 : decode cX11_line 1 = .ok (.iload_n 1, 1) := dc_27 (gB_l lq_cX11_line (p := 1) (o := 27) rfl)
theorem dX11_line_2 : decode cX11_line 2 = .ok (.invokevirtual 116, 3) := dc_182 (gB_l lq_cX11_line (p := 2) (o := 182) rfl) (gB_l lq_cX11_line (p := 3) (o := 0) rfl) (gB_l lq_cX11_line (p := 4) (o := 116) rfl) rfl
theorem dX11_line_5 : decode cX11_line 5 = .ok (.astore 4, 2) := dc_58 (gB_l lq_cX11_line (p := 5) (o := 58) rfl) (gB_l lq_cX11_line (p := 6) (o := 4) rfl)
theorem dX11_line_7 : decode cX11_line 7 = .ok (.aload 4, 2) := dc_25 (gB_l lq_cX11_line (p := 7) (o := 25) rfl) (gB_l lq_cX11_line (p := 8) (o := 4) rfl)
theorem dX11_line_9 : decode cX11_line 9 = .ok (.ifnull 21, 3) := dc_198 (gB_l lq_cX11_line (p := 9) (o := 198) rfl) (gB_l lq_cX11_line (p := 10) (o := 0) rfl) (gB_l lq_cX11_line (p := 11) (o := 21) rfl) rfl
theorem dX11_line_12 : decode cX11_line 12 = .ok (.aload 4, 2) := dc_25 (gB_l lq_cX11_line (p := 12) (o := 25) rfl) (gB_l lq_cX11_line (p := 13) (o := 4) rfl)
theorem dX11_line_14 : decode cX11_line 14 = .ok (.iload_n 2, 1) := dc_28 (gB_l lq_cX11_line (p := 14) (o := 28) rfl)
theorem dX11_line_15 : decode cX11_line 15 = .ok (.invokevirtual 141, 3) := dc_182 (gB_l lq_cX11_line (p := 15) (o := 182) rfl) (gB_l lq_cX11_line (p := 16) (o := 0) rfl) (gB_l lq_cX11_line (p := 17) (o := 141) rfl) rfl
theorem dX11_line_18 : decode cX11_line 18 = .ok (.ifCond .eq 12, 3) := dc_153 (gB_l lq_cX11_line (p := 18) (o := 153) rfl) (gB_l lq_cX11_line (p := 19) (o := 0) rfl) (gB_l lq_cX11_line (p := 20) (o := 12) rfl) rfl
theorem dX11_line_21 : decode cX11_line 21 = .ok (.aload 4, 2) := dc_25 (gB_l lq_cX11_line (p := 21) (o := 25) rfl) (gB_l lq_cX11_line (p := 22) (o := 4) rfl)
theorem dX11_line_23 : decode cX11_line 23 = .ok (.iload_n 3, 1) := dc_29 (gB_l lq_cX11_line (p := 23) (o := 29) rfl)
theorem dX11_line_24 : decode cX11_line 24 = .ok (.invokevirtual 141, 3) := dc_182 (gB_l lq_cX11_line (p := 24) (o := 182) rfl) (gB_l lq_cX11_line (p := 25) (o := 0) rfl) (gB_l lq_cX11_line (p := 26) (o := 141) rfl) rfl
theorem dX11_line_27 : decode cX11_line 27 = .ok (.ifCond .ne 8, 3) := dc_154 (gB_l lq_cX11_line (p := 27) (o := 154) rfl) (gB_l lq_cX11_line (p := 28) (o := 0) rfl) (gB_l lq_cX11_line (p := 29) (o := 8) rfl) rfl
theorem dX11_line_30 : decode cX11_line 30 = .ok (.bipush (-2), 2) := dc_16 (gB_l lq_cX11_line (p := 30) (o := 16) rfl) (gB_l lq_cX11_line (p := 31) (o := 254) rfl) rfl
theorem dX11_line_32 : decode cX11_line 32 = .ok (.goto 10, 3) := dc_167 (gB_c lq_cX11_line q1_cX11_line 0 (o := 167) rfl) (gB_c lq_cX11_line q1_cX11_line 1 (o := 0) rfl) (gB_c lq_cX11_line q1_cX11_line 2 (o := 10) rfl) rfl
theorem dX11_line_35 : decode cX11_line 35 = .ok (.aload 4, 2) := dc_25 (gB_c lq_cX11_line q1_cX11_line 3 (o := 25) rfl) (gB_c lq_cX11_line q1_cX11_line 4 (o := 4) rfl)
theorem dX11_line_37 : decode cX11_line 37 = .ok (.iload_n 2, 1) := dc_28 (gB_c lq_cX11_line q1_cX11_line 5 (o := 28) rfl)
theorem dX11_line_38 : decode cX11_line 38 = .ok (.iload_n 3, 1) := dc_29 (gB_c lq_cX11_line q1_cX11_line 6 (o := 29) rfl)
theorem dX11_line_39 : decode cX11_line 39 = .ok (.invokevirtual 148, 3) := dc_182 (gB_c lq_cX11_line q1_cX11_line 7 (o := 182) rfl) (gB_c lq_cX11_line q1_cX11_line 8 (o := 0) rfl) (gB_c lq_cX11_line q1_cX11_line 9 (o := 148) rfl) rfl
theorem dX11_line_42 : decode cX11_line 42 = .ok (.ireturn, 1) := dc_172 (gB_c lq_cX11_line q1_cX11_line 10 (o := 172) rfl)
abbrev r0_cX11_longest : List Nat := [42, 27, 182, 0, 116, 77, 44, 199, 0, 8, 16, 254, 167, 0, 7, 44, 184, 0, 186, 172]
theorem lq_cX11_longest : (cX11_longest).data.toList.map UInt8.toNat = r0_cX11_longest := by decide +kernel
theorem dX11_longest_0 : decode cX11_longest 0 = .ok (.aload_n 0, 1) := dc_42 (gB_l lq_cX11_longest (p := 0) (o := 42) rfl)
theorem dX11_longest_1 : decode cX11_longest 1 = .ok (.iload_n 1, 1) := dc_27 (gB_l lq_cX11_longest (p := 1) (o := 27) rfl)
theorem dX11_longest_2 : decode cX11_longest 2 = .ok (.invokevirtual 116, 3) := dc_182 (gB_l lq_cX11_longest (p := 2) (o := 182) rfl) (gB_l lq_cX11_longest (p := 3) (o := 0) rfl) (gB_l lq_cX11_longest (p := 4) (o := 116) rfl) rfl
theorem dX11_longest_5 : decode cX11_longest 5 = .ok (.astore_n 2, 1) := dc_77 (gB_l lq_cX11_longest (p := 5) (o := 77) rfl)
theorem dX11_longest_6 : decode cX11_longest 6 = .ok (.aload_n 2, 1) := dc_44 (gB_l lq_cX11_longest (p := 6) (o := 44) rfl)
theorem dX11_longest_7 : decode cX11_longest 7 = .ok (.ifnonnull 8, 3) := dc_199 (gB_l lq_cX11_longest (p := 7) (o := 199) rfl) (gB_l lq_cX11_longest (p := 8) (o := 0) rfl) (gB_l lq_cX11_longest (p := 9) (o := 8) rfl) rfl
theorem dX11_longest_10 : decode cX11_longest 10 = .ok (.bipush (-2), 2) := dc_16 (gB_l lq_cX11_longest (p := 10) (o := 16) rfl) (gB_l lq_cX11_longest (p := 11) (o := 254) rfl) rfl
theorem dX11_longest_12 : decode cX11_longest 12 = .ok (.goto 7, 3) := dc_167 (gB_l lq_cX11_longest (p := 12) (o := 167) rfl) (gB_l lq_cX11_longest (p := 13) (o := 0) rfl) (gB_l lq_cX11_longest (p := 14) (o := 7) rfl) rfl
theorem dX11_longest_15 : decode cX11_longest 15 = .ok (.aload_n 2, 1) := dc_44 (gB_l lq_cX11_longest (p := 15) (o := 44) rfl)
theorem dX11_longest_16 : decode cX11_longest 16 = .ok (.invokestatic 186, 3) := dc_184 (gB_l lq_cX11_longest (p := 16) (o := 184) rfl) (gB_l lq_cX11_longest (p := 17) (o := 0) rfl) (gB_l lq_cX11_longest (p := 18) (o := 186) rfl) rfl
theorem dX11_longest_19 : decode cX11_longest 19 = .ok (.ireturn, 1) := dc_172 (gB_l lq_cX11_longest (p := 19) (o := 172) rfl)
abbrev r2_cX11_look : List Nat := [100, 172, 45, 184, 0, 123, 172, 45, 184, 0, 129, 172, 45, 184, 0, 132, 172, 45, 184, 0, 135, 172, 45, 184, 0, 138, 172, 16, 254, 172]
def a1_cX11_look : List Nat := [0, 0, 0, 47, 0, 0, 0, 52, 0, 0, 0, 57, 0, 0, 0, 62, 0, 0, 0, 67, 0, 0, 0, 72, 45, 180, 0, 120, 172, 45, 180, 0]
abbrev r1_cX11_look : List Nat := a1_cX11_look ++ r2_cX11_look
def a0_cX11_look : List Nat := [42, 27, 182, 0, 116, 78, 45, 199, 0, 6, 16, 254, 172, 28, 170, 0, 0, 0, 0, 77, 0, 0, 0, 0, 0, 0, 0, 6, 0, 0, 0, 42]
abbrev r0_cX11_look : List Nat := a0_cX11_look ++ r1_cX11_look
theorem lq_cX11_look : (cX11_look).data.toList.map UInt8.toNat = r0_cX11_look := by decide +kernel
theorem q1_cX11_look : ∀ i, (r0_cX11_look)[32 + i]? = (r1_cX11_look)[i]? := chn (A := a0_cX11_look) (B := r1_cX11_look) (n := 0) (k := 32) rfl (ch0 (R := r0_cX11_look))
theorem q2_cX11_look : ∀ i, (r0_cX11_look)[64 + i]? = (r2_cX11_look)[i]? := chn (A := a1_cX11_look) (B := r2_cX11_look) (n := 32) (k := 32) rfl q1_cX11_look
theorem dX11_look_0 : decode cX11_look 0 = .ok (.aload_n 0, 1) := dc_42 (gB_l lq_cX11_look (p := 0) (o := 42) rfl)
theorem dX11_look_1 : decode cX11_look 1 = .ok (.iload_n 1, 1) := dc_27 (gB_l lq_cX11_look (p := 1) (o := 27) rfl)
theorem dX11_look_2 : decode cX11_look 2 = .ok (.invokevirtual 116, 3) := dc_182 (gB_l lq_cX11_look (p := 2) (o := 182) rfl) (gB_l lq_cX11_look (p := 3) (o := 0) rfl) (gB_l lq_cX11_look (p := 4) (o := 116) rfl) rfl
theorem dX11_look_5 : decode cX11_look 5 = .ok (.astore_n 3, 1) := dc_78 (gB_l lq_cX11_look (p := 5) (o := 78) rfl)
theorem dX11_look_6 : decode cX11_look 6 = .ok (.aload_n 3, 1) := dc_45 (gB_l lq_cX11_look (p := 6) (o := 45) rfl)
theorem dX11_look_7 : decode cX11_look 7 = .ok (.ifnonnull 6, 3) := dc_199 (gB_l lq_cX11_look (p := 7) (o := 199) rfl) (gB_l lq_cX11_look (p := 8) (o := 0) rfl) (gB_l lq_cX11_look (p := 9) (o := 6) rfl) rfl
theorem dX11_look_10 : decode cX11_look 10 = .ok (.bipush (-2), 2) := dc_16 (gB_l lq_cX11_look (p := 10) (o := 16) rfl) (gB_l lq_cX11_look (p := 11) (o := 254) rfl) rfl
theorem dX11_look_12 : decode cX11_look 12 = .ok (.ireturn, 1) := dc_172 (gB_l lq_cX11_look (p := 12) (o := 172) rfl)
theorem dX11_look_13 : decode cX11_look 13 = .ok (.iload_n 2, 1) := dc_28 (gB_l lq_cX11_look (p := 13) (o := 28) rfl)
theorem dX11_look_14 : decode cX11_look 14 = .ok (.tableswitch 77 0 6 #[42, 47, 52, 57, 62, 67, 72], 42) := by decide +kernel
theorem dX11_look_56 : decode cX11_look 56 = .ok (.aload_n 3, 1) := dc_45 (gB_c lq_cX11_look q1_cX11_look 24 (o := 45) rfl)
theorem dX11_look_57 : decode cX11_look 57 = .ok (.getfield 120, 3) := dc_180 (gB_c lq_cX11_look q1_cX11_look 25 (o := 180) rfl) (gB_c lq_cX11_look q1_cX11_look 26 (o := 0) rfl) (gB_c lq_cX11_look q1_cX11_look 27 (o := 120) rfl) rfl
theorem dX11_look_60 : decode cX11_look 60 = .ok (.ireturn, 1) := dc_172 (gB_c lq_cX11_look q1_cX11_look 28 (o := 172) rfl)
theorem dX11_look_61 : decode cX11_look 61 = .ok (.aload_n 3, 1) := dc_45 (gB_c lq_cX11_look q1_cX11_look 29 (o := 45) rfl)
theorem dX11_look_62 : decode cX11_look 62 = .ok (.getfield 100, 3) := dc_180 (gB_c lq_cX11_look q1_cX11_look 30 (o := 180) rfl) (gB_c lq_cX11_look q1_cX11_look 31 (o := 0) rfl) (gB_c lq_cX11_look q2_cX11_look 0 (o := 100) rfl) rfl
theorem dX11_look_65 : decode cX11_look 65 = .ok (.ireturn, 1) := dc_172 (gB_c lq_cX11_look q2_cX11_look 1 (o := 172) rfl)
theorem dX11_look_66 : decode cX11_look 66 = .ok (.aload_n 3, 1) := dc_45 (gB_c lq_cX11_look q2_cX11_look 2 (o := 45) rfl)
theorem dX11_look_67 : decode cX11_look 67 = .ok (.invokestatic 123, 3) := dc_184 (gB_c lq_cX11_look q2_cX11_look 3 (o := 184) rfl) (gB_c lq_cX11_look q2_cX11_look 4 (o := 0) rfl) (gB_c lq_cX11_look q2_cX11_look 5 (o := 123) rfl) rfl
theorem dX11_look_70 : decode cX11_look 70 = .ok (.ireturn, 1) := dc_172 (gB_c lq_cX11_look q2_cX11_look 6 (o := 172) rfl)
theorem dX11_look_71 : decode cX11_look 71 = .ok (.aload_n 3, 1) := dc_45 (gB_c lq_cX11_look q2_cX11_look 7 (o := 45) rfl)
theorem dX11_look_72 : decode cX11_look 72 = .ok (.invokestatic 129, 3) := dc_184 (gB_c lq_cX11_look q2_cX11_look 8 (o := 184) rfl) (gB_c lq_cX11_look q2_cX11_look 9 (o := 0) rfl) (gB_c lq_cX11_look q2_cX11_look 10 (o := 129) rfl) rfl
theorem dX11_look_75 : decode cX11_look 75 = .ok (.ireturn, 1) := dc_172 (gB_c lq_cX11_look q2_cX11_look 11 (o := 172) rfl)
theorem dX11_look_76 : decode cX11_look 76 = .ok (.aload_n 3, 1) := dc_45 (gB_c lq_cX11_look q2_cX11_look 12 (o := 45) rfl)
theorem dX11_look_77 : decode cX11_look 77 = .ok (.invokestatic 132, 3) := dc_184 (gB_c lq_cX11_look q2_cX11_look 13 (o := 184) rfl) (gB_c lq_cX11_look q2_cX11_look 14 (o := 0) rfl) (gB_c lq_cX11_look q2_cX11_look 15 (o := 132) rfl) rfl
theorem dX11_look_80 : decode cX11_look 80 = .ok (.ireturn, 1) := dc_172 (gB_c lq_cX11_look q2_cX11_look 16 (o := 172) rfl)
theorem dX11_look_81 : decode cX11_look 81 = .ok (.aload_n 3, 1) := dc_45 (gB_c lq_cX11_look q2_cX11_look 17 (o := 45) rfl)
theorem dX11_look_82 : decode cX11_look 82 = .ok (.invokestatic 135, 3) := dc_184 (gB_c lq_cX11_look q2_cX11_look 18 (o := 184) rfl) (gB_c lq_cX11_look q2_cX11_look 19 (o := 0) rfl) (gB_c lq_cX11_look q2_cX11_look 20 (o := 135) rfl) rfl
theorem dX11_look_85 : decode cX11_look 85 = .ok (.ireturn, 1) := dc_172 (gB_c lq_cX11_look q2_cX11_look 21 (o := 172) rfl)
theorem dX11_look_86 : decode cX11_look 86 = .ok (.aload_n 3, 1) := dc_45 (gB_c lq_cX11_look q2_cX11_look 22 (o := 45) rfl)
theorem dX11_look_87 : decode cX11_look 87 = .ok (.invokestatic 138, 3) := dc_184 (gB_c lq_cX11_look q2_cX11_look 23 (o := 184) rfl) (gB_c lq_cX11_look q2_cX11_look 24 (o := 0) rfl) (gB_c lq_cX11_look q2_cX11_look 25 (o := 138) rfl) rfl
theorem dX11_look_90 : decode cX11_look 90 = .ok (.ireturn, 1) := dc_172 (gB_c lq_cX11_look q2_cX11_look 26 (o := 172) rfl)
theorem dX11_look_91 : decode cX11_look 91 = .ok (.bipush (-2), 2) := dc_16 (gB_c lq_cX11_look q2_cX11_look 27 (o := 16) rfl) (gB_c lq_cX11_look q2_cX11_look 28 (o := 254) rfl) rfl
theorem dX11_look_93 : decode cX11_look 93 = .ok (.ireturn, 1) := dc_172 (gB_c lq_cX11_look q2_cX11_look 29 (o := 172) rfl)
abbrev r2_cX11_merges : List Nat := [172]
def a1_cX11_merges : List Nat := [154, 0, 6, 16, 250, 172, 42, 180, 0, 65, 25, 4, 182, 0, 90, 25, 4, 28, 29, 182, 1, 33, 42, 27, 182, 0, 97, 25, 4, 180, 0, 120]
abbrev r1_cX11_merges : List Nat := a1_cX11_merges ++ r2_cX11_merges
def a0_cX11_merges : List Nat := [42, 27, 182, 0, 116, 58, 4, 25, 4, 198, 0, 13, 25, 4, 28, 29, 182, 1, 25, 154, 0, 6, 16, 254, 172, 25, 4, 28, 29, 182, 0, 148]
abbrev r0_cX11_merges : List Nat := a0_cX11_merges ++ r1_cX11_merges
theorem lq_cX11_merges : (cX11_merges).data.toList.map UInt8.toNat = r0_cX11_merges := by decide +kernel
theorem q1_cX11_merges : ∀ i, (r0_cX11_merges)[32 + i]? = (r1_cX11_merges)[i]? := chn (A := a0_cX11_merges) (B := r1_cX11_merges) (n := 0) (k := 32) rfl (ch0 (R := r0_cX11_merges))
theorem q2_cX11_merges : ∀ i, (r0_cX11_merges)[64 + i]? = (r2_cX11_merges)[i]? := chn (A := a1_cX11_merges) (B := r2_cX11_merges) (n := 32) (k := 32) rfl q1_cX11_merges
theorem dX11_merges_0 : decode cX11_merges 0 = .ok (.aload_n 0, 1) := dc_42 (gB_l lq_cX11_merges (p := 0) (o := 42) rfl)
theorem dX11_merges_1 : decode cX11_merges 1 = .ok (.iload_n 1, 1) := dc_27 (gB_l lq_cX11_merges (p := 1) (o := 27) rfl)
theorem dX11_merges_2 : decode cX11_merges 2 = .ok (.invokevirtual 116, 3) := dc_182 (gB_l lq_cX11_merges (p := 2) (o := 182) rfl) (gB_l lq_cX11_merges (p := 3) (o := 0) rfl) (gB_l lq_cX11_merges (p := 4) (o := 116) rfl) rfl
theorem dX11_merges_5 : decode cX11_merges 5 = .ok (.astore 4, 2) := dc_58 (gB_l lq_cX11_merges (p := 5) (o := 58) rfl) (gB_l lq_cX11_merges (p := 6) (o := 4) rfl)
theorem dX11_merges_7 : decode cX11_merges 7 = .ok (.aload 4, 2) := dc_25 (gB_l lq_cX11_merges (p := 7) (o := 25) rfl) (gB_l lq_cX11_merges (p := 8) (o := 4) rfl)
theorem dX11_merges_9 : decode cX11_merges 9 = .ok (.ifnull 13, 3) := dc_198 (gB_l lq_cX11_merges (p := 9) (o := 198) rfl) (gB_l lq_cX11_merges (p := 10) (o := 0) rfl) (gB_l lq_cX11_merges (p := 11) (o := 13) rfl) rfl
theorem dX11_merges_12 : decode cX11_merges 12 = .ok (.aload 4, 2) := dc_25 (gB_l lq_cX11_merges (p := 12) (o := 25) rfl) (gB_l lq_cX11_merges (p := 13) (o := 4) rfl)
theorem dX11_merges_14 : decode cX11_merges 14 = .ok (.iload_n 2, 1) := dc_28 (gB_l lq_cX11_merges (p := 14) (o := 28) rfl)
theorem dX11_merges_15 : decode cX11_merges 15 = .ok (.iload_n 3, 1) := dc_29 (gB_l lq_cX11_merges (p := 15) (o := 29) rfl)
theorem dX11_merges_16 : decode cX11_merges 16 = .ok (.invokevirtual 281, 3) := dc_182 (gB_l lq_cX11_merges (p := 16) (o := 182) rfl) (gB_l lq_cX11_merges (p := 17) (o := 1) rfl) (gB_l lq_cX11_merges (p := 18) (o := 25) rfl) rfl
theorem dX11_merges_19 : decode cX11_merges 19 = .ok (.ifCond .ne 6, 3) := dc_154 (gB_l lq_cX11_merges (p := 19) (o := 154) rfl) (gB_l lq_cX11_merges (p := 20) (o := 0) rfl) (gB_l lq_cX11_merges (p := 21) (o := 6) rfl) rfl
theorem dX11_merges_22 : decode cX11_merges 22 = .ok (.bipush (-2), 2) := dc_16 (gB_l lq_cX11_merges (p := 22) (o := 16) rfl) (gB_l lq_cX11_merges (p := 23) (o := 254) rfl) rfl
theorem dX11_merges_24 : decode cX11_merges 24 = .ok (.ireturn, 1) := dc_172 (gB_l lq_cX11_merges (p := 24) (o := 172) rfl)
theorem dX11_merges_25 : decode cX11_merges 25 = .ok (.aload 4, 2) := dc_25 (gB_l lq_cX11_merges (p := 25) (o := 25) rfl) (gB_l lq_cX11_merges (p := 26) (o := 4) rfl)
theorem dX11_merges_27 : decode cX11_merges 27 = .ok (.iload_n 2, 1) := dc_28 (gB_l lq_cX11_merges (p := 27) (o := 28) rfl)
theorem dX11_merges_28 : decode cX11_merges 28 = .ok (.iload_n 3, 1) := dc_29 (gB_l lq_cX11_merges (p := 28) (o := 29) rfl)
theorem dX11_merges_29 : decode cX11_merges 29 = .ok (.invokevirtual 148, 3) := dc_182 (gB_l lq_cX11_merges (p := 29) (o := 182) rfl) (gB_l lq_cX11_merges (p := 30) (o := 0) rfl) (gB_l lq_cX11_merges (p := 31) (o := 148) rfl) rfl
theorem dX11_merges_32 : decode cX11_merges 32 = .ok (.ifCond .ne 6, 3) := dc_154 (gB_c lq_cX11_merges q1_cX11_merges 0 (o := 154) rfl) (gB_c lq_cX11_merges q1_cX11_merges 1 (o := 0) rfl) (gB_c lq_cX11_merges q1_cX11_merges 2 (o := 6) rfl) rfl
theorem dX11_merges_35 : decode cX11_merges 35 = .ok (.bipush (-6), 2) := dc_16 (gB_c lq_cX11_merges q1_cX11_merges 3 (o := 16) rfl) (gB_c lq_cX11_merges q1_cX11_merges 4 (o := 250) rfl) rfl
theorem dX11_merges_37 : decode cX11_merges 37 = .ok (.ireturn, 1) := dc_172 (gB_c lq_cX11_merges q1_cX11_merges 5 (o := 172) rfl)
theorem dX11_merges_38 : decode cX11_merges 38 = .ok (.aload_n 0, 1) := dc_42 (gB_c lq_cX11_merges q1_cX11_merges 6 (o := 42) rfl)
theorem dX11_merges_39 : decode cX11_merges 39 = .ok (.getfield 65, 3) := dc_180 (gB_c lq_cX11_merges q1_cX11_merges 7 (o := 180) rfl) (gB_c lq_cX11_merges q1_cX11_merges 8 (o := 0) rfl) (gB_c lq_cX11_merges q1_cX11_merges 9 (o := 65) rfl) rfl
theorem dX11_merges_42 : decode cX11_merges 42 = .ok (.aload 4, 2) := dc_25 (gB_c lq_cX11_merges q1_cX11_merges 10 (o := 25) rfl) (gB_c lq_cX11_merges q1_cX11_merges 11 (o := 4) rfl)
theorem dX11_merges_44 : decode cX11_merges 44 = .ok (.invokevirtual 90, 3) := dc_182 (gB_c lq_cX11_merges q1_cX11_merges 12 (o := 182) rfl) (gB_c lq_cX11_merges q1_cX11_merges 13 (o := 0) rfl) (gB_c lq_cX11_merges q1_cX11_merges 14 (o := 90) rfl) rfl
theorem dX11_merges_47 : decode cX11_merges 47 = .ok (.aload 4, 2) := dc_25 (gB_c lq_cX11_merges q1_cX11_merges 15 (o := 25) rfl) (gB_c lq_cX11_merges q1_cX11_merges 16 (o := 4) rfl)
theorem dX11_merges_49 : decode cX11_merges 49 = .ok (.iload_n 2, 1) := dc_28 (gB_c lq_cX11_merges q1_cX11_merges 17 (o := 28) rfl)
theorem dX11_merges_50 : decode cX11_merges 50 = .ok (.iload_n 3, 1) := dc_29 (gB_c lq_cX11_merges q1_cX11_merges 18 (o := 29) rfl)
theorem dX11_merges_51 : decode cX11_merges 51 = .ok (.invokevirtual 289, 3) := dc_182 (gB_c lq_cX11_merges q1_cX11_merges 19 (o := 182) rfl) (gB_c lq_cX11_merges q1_cX11_merges 20 (o := 1) rfl) (gB_c lq_cX11_merges q1_cX11_merges 21 (o := 33) rfl) rfl
theorem dX11_merges_54 : decode cX11_merges 54 = .ok (.aload_n 0, 1) := dc_42 (gB_c lq_cX11_merges q1_cX11_merges 22 (o := 42) rfl)
theorem dX11_merges_55 : decode cX11_merges 55 = .ok (.iload_n 1, 1) := dc_27 (gB_c lq_cX11_merges q1_cX11_merges 23 (o := 27) rfl)
theorem dX11_merges_56 : decode cX11_merges 56 = .ok (.invokevirtual 97, 3) := dc_182 (gB_c lq_cX11_merges q1_cX11_merges 24 (o := 182) rfl) (gB_c lq_cX11_merges q1_cX11_merges 25 (o := 0) rfl) (gB_c lq_cX11_merges q1_cX11_merges 26 (o := 97) rfl) rfl
theorem dX11_merges_59 : decode cX11_merges 59 = .ok (.aload 4, 2) := dc_25 (gB_c lq_cX11_merges q1_cX11_merges 27 (o := 25) rfl) (gB_c lq_cX11_merges q1_cX11_merges 28 (o := 4) rfl)
theorem dX11_merges_61 : decode cX11_merges 61 = .ok (.getfield 120, 3) := dc_180 (gB_c lq_cX11_merges q1_cX11_merges 29 (o := 180) rfl) (gB_c lq_cX11_merges q1_cX11_merges 30 (o := 0) rfl) (gB_c lq_cX11_merges q1_cX11_merges 31 (o := 120) rfl) rfl
theorem dX11_merges_64 : decode cX11_merges 64 = .ok (.ireturn, 1) := dc_172 (gB_c lq_cX11_merges q2_cX11_merges 0 (o := 172) rfl)
abbrev r0_cX11_minor : List Nat := [42, 27, 182, 0, 116, 77, 44, 199, 0, 6, 16, 254, 172, 42, 180, 0, 69, 44, 182, 0, 90, 42, 180, 0, 69, 184, 0, 221, 172]
theorem lq_cX11_minor : (cX11_minor).data.toList.map UInt8.toNat = r0_cX11_minor := by decide +kernel
theorem dX11_minor_0 : decode cX11_minor 0 = .ok (.aload_n 0, 1) := dc_42 (gB_l lq_cX11_minor (p := 0) (o := 42) rfl)
theorem dX11_minor_1 : decode cX11_minor 1 = .ok (.iload_n 1, 1) := dc_27 (gB_l lq_cX11_minor (p := 1) (o := 27) rfl)
theorem dX11_minor_2 : decode cX11_minor 2 = .ok (.invokevirtual 116, 3) := dc_182 (gB_l lq_cX11_minor (p := 2) (o := 182) rfl) (gB_l lq_cX11_minor (p := 3) (o := 0) rfl) (gB_l lq_cX11_minor (p := 4) (o := 116) rfl) rfl
theorem dX11_minor_5 : decode cX11_minor 5 = .ok (.astore_n 2, 1) := dc_77 (gB_l lq_cX11_minor (p := 5) (o := 77) rfl)
theorem dX11_minor_6 : decode cX11_minor 6 = .ok (.aload_n 2, 1) := dc_44 (gB_l lq_cX11_minor (p := 6) (o := 44) rfl)
theorem dX11_minor_7 : decode cX11_minor 7 = .ok (.ifnonnull 6, 3) := dc_199 (gB_l lq_cX11_minor (p := 7) (o := 199) rfl) (gB_l lq_cX11_minor (p := 8) (o := 0) rfl) (gB_l lq_cX11_minor (p := 9) (o := 6) rfl) rfl
theorem dX11_minor_10 : decode cX11_minor 10 = .ok (.bipush (-2), 2) := dc_16 (gB_l lq_cX11_minor (p := 10) (o := 16) rfl) (gB_l lq_cX11_minor (p := 11) (o := 254) rfl) rfl
theorem dX11_minor_12 : decode cX11_minor 12 = .ok (.ireturn, 1) := dc_172 (gB_l lq_cX11_minor (p := 12) (o := 172) rfl)
theorem dX11_minor_13 : decode cX11_minor 13 = .ok (.aload_n 0, 1) := dc_42 (gB_l lq_cX11_minor (p := 13) (o := 42) rfl)
theorem dX11_minor_14 : decode cX11_minor 14 = .ok (.getfield 69, 3) := dc_180 (gB_l lq_cX11_minor (p := 14) (o := 180) rfl) (gB_l lq_cX11_minor (p := 15) (o := 0) rfl) (gB_l lq_cX11_minor (p := 16) (o := 69) rfl) rfl
theorem dX11_minor_17 : decode cX11_minor 17 = .ok (.aload_n 2, 1) := dc_44 (gB_l lq_cX11_minor (p := 17) (o := 44) rfl)
theorem dX11_minor_18 : decode cX11_minor 18 = .ok (.invokevirtual 90, 3) := dc_182 (gB_l lq_cX11_minor (p := 18) (o := 182) rfl) (gB_l lq_cX11_minor (p := 19) (o := 0) rfl) (gB_l lq_cX11_minor (p := 20) (o := 90) rfl) rfl
theorem dX11_minor_21 : decode cX11_minor 21 = .ok (.aload_n 0, 1) := dc_42 (gB_l lq_cX11_minor (p := 21) (o := 42) rfl)
theorem dX11_minor_22 : decode cX11_minor 22 = .ok (.getfield 69, 3) := dc_180 (gB_l lq_cX11_minor (p := 22) (o := 180) rfl) (gB_l lq_cX11_minor (p := 23) (o := 0) rfl) (gB_l lq_cX11_minor (p := 24) (o := 69) rfl) rfl
theorem dX11_minor_25 : decode cX11_minor 25 = .ok (.invokestatic 221, 3) := dc_184 (gB_l lq_cX11_minor (p := 25) (o := 184) rfl) (gB_l lq_cX11_minor (p := 26) (o := 0) rfl) (gB_l lq_cX11_minor (p := 27) (o := 221) rfl) rfl
theorem dX11_minor_28 : decode cX11_minor 28 = .ok (.ireturn, 1) := dc_172 (gB_l lq_cX11_minor (p := 28) (o := 172) rfl)
abbrev r1_cX11_moves : List Nat := [172, 42, 180, 0, 65, 25, 4, 182, 0, 90, 25, 4, 28, 29, 182, 1, 0, 42, 27, 182, 0, 97, 42, 180, 0, 65, 180, 0, 156, 28, 46, 172]
def a0_cX11_moves : List Nat := [42, 27, 182, 0, 116, 58, 4, 25, 4, 198, 0, 21, 25, 4, 28, 182, 0, 141, 153, 0, 12, 25, 4, 29, 182, 0, 141, 154, 0, 6, 16, 254]
abbrev r0_cX11_moves : List Nat := a0_cX11_moves ++ r1_cX11_moves
theorem lq_cX11_moves : (cX11_moves).data.toList.map UInt8.toNat = r0_cX11_moves := by decide +kernel
theorem q1_cX11_moves : ∀ i, (r0_cX11_moves)[32 + i]? = (r1_cX11_moves)[i]? := chn (A := a0_cX11_moves) (B := r1_cX11_moves) (n := 0) (k := 32) rfl (ch0 (R := r0_cX11_moves))
theorem dX11_moves_0 : decode cX11_moves 0 = .ok (.aload_n 0, 1) := dc_42 (gB_l lq_cX11_moves (p := 0) (o := 42) rfl)
theorem dX11_moves_1 : decode cX11_moves 1 = .ok (.iload_n 1, 1) := dc_27 (gB_l lq_cX11_moves (p := 1) (o := 27) rfl)
theorem dX11_moves_2 : decode cX11_moves 2 = .ok (.invokevirtual 116, 3) := dc_182 (gB_l lq_cX11_moves (p := 2) (o := 182) rfl) (gB_l lq_cX11_moves (p := 3) (o := 0) rfl) (gB_l lq_cX11_moves (p := 4) (o := 116) rfl) rfl
theorem dX11_moves_5 : decode cX11_moves 5 = .ok (.astore 4, 2) := dc_58 (gB_l lq_cX11_moves (p := 5) (o := 58) rfl) (gB_l lq_cX11_moves (p := 6) (o := 4) rfl)
theorem dX11_moves_7 : decode cX11_moves 7 = .ok (.aload 4, 2) := dc_25 (gB_l lq_cX11_moves (p := 7) (o := 25) rfl) (gB_l lq_cX11_moves (p := 8) (o := 4) rfl)
theorem dX11_moves_9 : decode cX11_moves 9 = .ok (.ifnull 21, 3) := dc_198 (gB_l lq_cX11_moves (p := 9) (o := 198) rfl) (gB_l lq_cX11_moves (p := 10) (o := 0) rfl) (gB_l lq_cX11_moves (p := 11) (o := 21) rfl) rfl
theorem dX11_moves_12 : decode cX11_moves 12 = .ok (.aload 4, 2) := dc_25 (gB_l lq_cX11_moves (p := 12) (o := 25) rfl) (gB_l lq_cX11_moves (p := 13) (o := 4) rfl)
theorem dX11_moves_14 : decode cX11_moves 14 = .ok (.iload_n 2, 1) := dc_28 (gB_l lq_cX11_moves (p := 14) (o := 28) rfl)
theorem dX11_moves_15 : decode cX11_moves 15 = .ok (.invokevirtual 141, 3) := dc_182 (gB_l lq_cX11_moves (p := 15) (o := 182) rfl) (gB_l lq_cX11_moves (p := 16) (o := 0) rfl) (gB_l lq_cX11_moves (p := 17) (o := 141) rfl) rfl
theorem dX11_moves_18 : decode cX11_moves 18 = .ok (.ifCond .eq 12, 3) := dc_153 (gB_l lq_cX11_moves (p := 18) (o := 153) rfl) (gB_l lq_cX11_moves (p := 19) (o := 0) rfl) (gB_l lq_cX11_moves (p := 20) (o := 12) rfl) rfl
theorem dX11_moves_21 : decode cX11_moves 21 = .ok (.aload 4, 2) := dc_25 (gB_l lq_cX11_moves (p := 21) (o := 25) rfl) (gB_l lq_cX11_moves (p := 22) (o := 4) rfl)
theorem dX11_moves_23 : decode cX11_moves 23 = .ok (.iload_n 3, 1) := dc_29 (gB_l lq_cX11_moves (p := 23) (o := 29) rfl)
theorem dX11_moves_24 : decode cX11_moves 24 = .ok (.invokevirtual 141, 3) := dc_182 (gB_l lq_cX11_moves (p := 24) (o := 182) rfl) (gB_l lq_cX11_moves (p := 25) (o := 0) rfl) (gB_l lq_cX11_moves (p := 26) (o := 141) rfl) rfl
theorem dX11_moves_27 : decode cX11_moves 27 = .ok (.ifCond .ne 6, 3) := dc_154 (gB_l lq_cX11_moves (p := 27) (o := 154) rfl) (gB_l lq_cX11_moves (p := 28) (o := 0) rfl) (gB_l lq_cX11_moves (p := 29) (o := 6) rfl) rfl
theorem dX11_moves_30 : decode cX11_moves 30 = .ok (.bipush (-2), 2) := dc_16 (gB_l lq_cX11_moves (p := 30) (o := 16) rfl) (gB_l lq_cX11_moves (p := 31) (o := 254) rfl) rfl
theorem dX11_moves_32 : decode cX11_moves 32 = .ok (.ireturn, 1) := dc_172 (gB_c lq_cX11_moves q1_cX11_moves 0 (o := 172) rfl)
theorem dX11_moves_33 : decode cX11_moves 33 = .ok (.aload_n 0, 1) := dc_42 (gB_c lq_cX11_moves q1_cX11_moves 1 (o := 42) rfl)
theorem dX11_moves_34 : decode cX11_moves 34 = .ok (.getfield 65, 3) := dc_180 (gB_c lq_cX11_moves q1_cX11_moves 2 (o := 180) rfl) (gB_c lq_cX11_moves q1_cX11_moves 3 (o := 0) rfl) (gB_c lq_cX11_moves q1_cX11_moves 4 (o := 65) rfl) rfl
theorem dX11_moves_37 : decode cX11_moves 37 = .ok (.aload 4, 2) := dc_25 (gB_c lq_cX11_moves q1_cX11_moves 5 (o := 25) rfl) (gB_c lq_cX11_moves q1_cX11_moves 6 (o := 4) rfl)
theorem dX11_moves_39 : decode cX11_moves 39 = .ok (.invokevirtual 90, 3) := dc_182 (gB_c lq_cX11_moves q1_cX11_moves 7 (o := 182) rfl) (gB_c lq_cX11_moves q1_cX11_moves 8 (o := 0) rfl) (gB_c lq_cX11_moves q1_cX11_moves 9 (o := 90) rfl) rfl
theorem dX11_moves_42 : decode cX11_moves 42 = .ok (.aload 4, 2) := dc_25 (gB_c lq_cX11_moves q1_cX11_moves 10 (o := 25) rfl) (gB_c lq_cX11_moves q1_cX11_moves 11 (o := 4) rfl)
theorem dX11_moves_44 : decode cX11_moves 44 = .ok (.iload_n 2, 1) := dc_28 (gB_c lq_cX11_moves q1_cX11_moves 12 (o := 28) rfl)
theorem dX11_moves_45 : decode cX11_moves 45 = .ok (.iload_n 3, 1) := dc_29 (gB_c lq_cX11_moves q1_cX11_moves 13 (o := 29) rfl)
theorem dX11_moves_46 : decode cX11_moves 46 = .ok (.invokevirtual 256, 3) := dc_182 (gB_c lq_cX11_moves q1_cX11_moves 14 (o := 182) rfl) (gB_c lq_cX11_moves q1_cX11_moves 15 (o := 1) rfl) (gB_c lq_cX11_moves q1_cX11_moves 16 (o := 0) rfl) rfl
theorem dX11_moves_49 : decode cX11_moves 49 = .ok (.aload_n 0, 1) := dc_42 (gB_c lq_cX11_moves q1_cX11_moves 17 (o := 42) rfl)
theorem dX11_moves_50 : decode cX11_moves 50 = .ok (.iload_n 1, 1) := dc_27 (gB_c lq_cX11_moves q1_cX11_moves 18 (o := 27) rfl)
theorem dX11_moves_51 : decode cX11_moves 51 = .ok (.invokevirtual 97, 3) := dc_182 (gB_c lq_cX11_moves q1_cX11_moves 19 (o := 182) rfl) (gB_c lq_cX11_moves q1_cX11_moves 20 (o := 0) rfl) (gB_c lq_cX11_moves q1_cX11_moves 21 (o := 97) rfl) rfl
theorem dX11_moves_54 : decode cX11_moves 54 = .ok (.aload_n 0, 1) := dc_42 (gB_c lq_cX11_moves q1_cX11_moves 22 (o := 42) rfl)
theorem dX11_moves_55 : decode cX11_moves 55 = .ok (.getfield 65, 3) := dc_180 (gB_c lq_cX11_moves q1_cX11_moves 23 (o := 180) rfl) (gB_c lq_cX11_moves q1_cX11_moves 24 (o := 0) rfl) (gB_c lq_cX11_moves q1_cX11_moves 25 (o := 65) rfl) rfl
theorem dX11_moves_58 : decode cX11_moves 58 = .ok (.getfield 156, 3) := dc_180 (gB_c lq_cX11_moves q1_cX11_moves 26 (o := 180) rfl) (gB_c lq_cX11_moves q1_cX11_moves 27 (o := 0) rfl) (gB_c lq_cX11_moves q1_cX11_moves 28 (o := 156) rfl) rfl
theorem dX11_moves_61 : decode cX11_moves 61 = .ok (.iload_n 2, 1) := dc_28 (gB_c lq_cX11_moves q1_cX11_moves 29 (o := 28) rfl)
theorem dX11_moves_62 : decode cX11_moves 62 = .ok (.iaload, 1) := dc_46 (gB_c lq_cX11_moves q1_cX11_moves 30 (o := 46) rfl)
theorem dX11_moves_63 : decode cX11_moves 63 = .ok (.ireturn, 1) := dc_172 (gB_c lq_cX11_moves q1_cX11_moves 31 (o := 172) rfl)
abbrev r0_cX11_near : List Nat := [42, 27, 182, 0, 116, 78, 45, 198, 0, 11, 45, 28, 182, 0, 141, 154, 0, 8, 16, 254, 167, 0, 9, 45, 180, 0, 144, 28, 46, 172]
theorem lq_cX11_near : (cX11_near).data.toList.map UInt8.toNat = r0_cX11_near := by decide +kernel
theorem dX11_near_0 : decode cX11_near 0 = .ok (.aload_n 0, 1) := dc_42 (gB_l lq_cX11_near (p := 0) (o := 42) rfl)
theorem dX11_near_1 : decode cX11_near 1 = .ok (.iload_n 1, 1) := dc_27 (gB_l lq_cX11_near (p := 1) (o := 27) rfl)
theorem dX11_near_2 : decode cX11_near 2 = .ok (.invokevirtual 116, 3) := dc_182 (gB_l lq_cX11_near (p := 2) (o := 182) rfl) (gB_l lq_cX11_near (p := 3) (o := 0) rfl) (gB_l lq_cX11_near (p := 4) (o := 116) rfl) rfl
theorem dX11_near_5 : decode cX11_near 5 = .ok (.astore_n 3, 1) := dc_78 (gB_l lq_cX11_near (p := 5) (o := 78) rfl)
theorem dX11_near_6 : decode cX11_near 6 = .ok (.aload_n 3, 1) := dc_45 (gB_l lq_cX11_near (p := 6) (o := 45) rfl)
theorem dX11_near_7 : decode cX11_near 7 = .ok (.ifnull 11, 3) := dc_198 (gB_l lq_cX11_near (p := 7) (o := 198) rfl) (gB_l lq_cX11_near (p := 8) (o := 0) rfl) (gB_l lq_cX11_near (p := 9) (o := 11) rfl) rfl
theorem dX11_near_10 : decode cX11_near 10 = .ok (.aload_n 3, 1) := dc_45 (gB_l lq_cX11_near (p := 10) (o := 45) rfl)
theorem dX11_near_11 : decode cX11_near 11 = .ok (.iload_n 2, 1) := dc_28 (gB_l lq_cX11_near (p := 11) (o := 28) rfl)
theorem dX11_near_12 : decode cX11_near 12 = .ok (.invokevirtual 141, 3) := dc_182 (gB_l lq_cX11_near (p := 12) (o := 182) rfl) (gB_l lq_cX11_near (p := 13) (o := 0) rfl) (gB_l lq_cX11_near (p := 14) (o := 141) rfl) rfl
theorem dX11_near_15 : decode cX11_near 15 = .ok (.ifCond .ne 8, 3) := dc_154 (gB_l lq_cX11_near (p := 15) (o := 154) rfl) (gB_l lq_cX11_near (p := 16) (o := 0) rfl) (gB_l lq_cX11_near (p := 17) (o := 8) rfl) rfl
theorem dX11_near_18 : decode cX11_near 18 = .ok (.bipush (-2), 2) := dc_16 (gB_l lq_cX11_near (p := 18) (o := 16) rfl) (gB_l lq_cX11_near (p := 19) (o := 254) rfl) rfl
theorem dX11_near_20 : decode cX11_near 20 = .ok (.goto 9, 3) := dc_167 (gB_l lq_cX11_near (p := 20) (o := 167) rfl) (gB_l lq_cX11_near (p := 21) (o := 0) rfl) (gB_l lq_cX11_near (p := 22) (o := 9) rfl) rfl
theorem dX11_near_23 : decode cX11_near 23 = .ok (.aload_n 3, 1) := dc_45 (gB_l lq_cX11_near (p := 23) (o := 45) rfl)
theorem dX11_near_24 : decode cX11_near 24 = .ok (.getfield 144, 3) := dc_180 (gB_l lq_cX11_near (p := 24) (o := 180) rfl) (gB_l lq_cX11_near (p := 25) (o := 0) rfl) (gB_l lq_cX11_near (p := 26) (o := 144) rfl) rfl
theorem dX11_near_27 : decode cX11_near 27 = .ok (.iload_n 2, 1) := dc_28 (gB_l lq_cX11_near (p := 27) (o := 28) rfl)
theorem dX11_near_28 : decode cX11_near 28 = .ok (.iaload, 1) := dc_46 (gB_l lq_cX11_near (p := 28) (o := 46) rfl)
theorem dX11_near_29 : decode cX11_near 29 = .ok (.ireturn, 1) := dc_172 (gB_l lq_cX11_near (p := 29) (o := 172) rfl)
abbrev r0_cX11_netIn : List Nat := [27, 184, 0, 83, 153, 0, 24, 42, 180, 0, 32, 27, 50, 180, 0, 120, 158, 0, 12, 42, 180, 0, 32, 27, 50, 167, 0, 4, 1, 176]
theorem lq_cX11_netIn : (cX11_netIn).data.toList.map UInt8.toNat = r0_cX11_netIn := by decide +kernel
theorem dX11_netIn_0 : decode cX11_netIn 0 = .ok (.iload_n 1, 1) := dc_27 (gB_l lq_cX11_netIn (p := 0) (o := 27) rfl)
theorem dX11_netIn_1 : decode cX11_netIn 1 = .ok (.invokestatic 83, 3) := dc_184 (gB_l lq_cX11_netIn (p := 1) (o := 184) rfl) (gB_l lq_cX11_netIn (p := 2) (o := 0) rfl) (gB_l lq_cX11_netIn (p := 3) (o := 83) rfl) rfl
theorem dX11_netIn_4 : decode cX11_netIn 4 = .ok (.ifCond .eq 24, 3) := dc_153 (gB_l lq_cX11_netIn (p := 4) (o := 153) rfl) (gB_l lq_cX11_netIn (p := 5) (o := 0) rfl) (gB_l lq_cX11_netIn (p := 6) (o := 24) rfl) rfl
theorem dX11_netIn_7 : decode cX11_netIn 7 = .ok (.aload_n 0, 1) := dc_42 (gB_l lq_cX11_netIn (p := 7) (o := 42) rfl)
theorem dX11_netIn_8 : decode cX11_netIn 8 = .ok (.getfield 32, 3) := dc_180 (gB_l lq_cX11_netIn (p := 8) (o := 180) rfl) (gB_l lq_cX11_netIn (p := 9) (o := 0) rfl) (gB_l lq_cX11_netIn (p := 10) (o := 32) rfl) rfl
theorem dX11_netIn_11 : decode cX11_netIn 11 = .ok (.iload_n 1, 1) := dc_27 (gB_l lq_cX11_netIn (p := 11) (o := 27) rfl)
theorem dX11_netIn_12 : decode cX11_netIn 12 = .ok (.aaload, 1) := dc_50 (gB_l lq_cX11_netIn (p := 12) (o := 50) rfl)
theorem dX11_netIn_13 : decode cX11_netIn 13 = .ok (.getfield 120, 3) := dc_180 (gB_l lq_cX11_netIn (p := 13) (o := 180) rfl) (gB_l lq_cX11_netIn (p := 14) (o := 0) rfl) (gB_l lq_cX11_netIn (p := 15) (o := 120) rfl) rfl
theorem dX11_netIn_16 : decode cX11_netIn 16 = .ok (.ifCond .le 12, 3) := dc_158 (gB_l lq_cX11_netIn (p := 16) (o := 158) rfl) (gB_l lq_cX11_netIn (p := 17) (o := 0) rfl) (gB_l lq_cX11_netIn (p := 18) (o := 12) rfl) rfl
theorem dX11_netIn_19 : decode cX11_netIn 19 = .ok (.aload_n 0, 1) := dc_42 (gB_l lq_cX11_netIn (p := 19) (o := 42) rfl)
theorem dX11_netIn_20 : decode cX11_netIn 20 = .ok (.getfield 32, 3) := dc_180 (gB_l lq_cX11_netIn (p := 20) (o := 180) rfl) (gB_l lq_cX11_netIn (p := 21) (o := 0) rfl) (gB_l lq_cX11_netIn (p := 22) (o := 32) rfl) rfl
theorem dX11_netIn_23 : decode cX11_netIn 23 = .ok (.iload_n 1, 1) := dc_27 (gB_l lq_cX11_netIn (p := 23) (o := 27) rfl)
theorem dX11_netIn_24 : decode cX11_netIn 24 = .ok (.aaload, 1) := dc_50 (gB_l lq_cX11_netIn (p := 24) (o := 50) rfl)
theorem dX11_netIn_25 : decode cX11_netIn 25 = .ok (.goto 4, 3) := dc_167 (gB_l lq_cX11_netIn (p := 25) (o := 167) rfl) (gB_l lq_cX11_netIn (p := 26) (o := 0) rfl) (gB_l lq_cX11_netIn (p := 27) (o := 4) rfl) rfl
theorem dX11_netIn_28 : decode cX11_netIn 28 = .ok (.aconst_null, 1) := dc_1 (gB_l lq_cX11_netIn (p := 28) (o := 1) rfl)
theorem dX11_netIn_29 : decode cX11_netIn 29 = .ok (.areturn, 1) := dc_176 (gB_l lq_cX11_netIn (p := 29) (o := 176) rfl)
abbrev r0_cX11_noteAct : List Nat := [42, 180, 0, 65, 42, 180, 0, 32, 27, 50, 182, 1, 72, 154, 0, 15, 42, 180, 0, 61, 27, 42, 180, 0, 65, 182, 1, 76, 177]
theorem lq_cX11_noteAct : (cX11_noteAct).data.toList.map UInt8.toNat = r0_cX11_noteAct := by decide +kernel
theorem dX11_noteAct_0 : decode cX11_noteAct 0 = .ok (.aload_n 0, 1) := dc_42 (gB_l lq_cX11_noteAct (p := 0) (o := 42) rfl)
theorem dX11_noteAct_1 : decode cX11_noteAct 1 = .ok (.getfield 65, 3) := dc_180 (gB_l lq_cX11_noteAct (p := 1) (o := 180) rfl) (gB_l lq_cX11_noteAct (p := 2) (o := 0) rfl) (gB_l lq_cX11_noteAct (p := 3) (o := 65) rfl) rfl
theorem dX11_noteAct_4 : decode cX11_noteAct 4 = .ok (.aload_n 0, 1) := dc_42 (gB_l lq_cX11_noteAct (p := 4) (o := 42) rfl)
theorem dX11_noteAct_5 : decode cX11_noteAct 5 = .ok (.getfield 32, 3) := dc_180 (gB_l lq_cX11_noteAct (p := 5) (o := 180) rfl) (gB_l lq_cX11_noteAct (p := 6) (o := 0) rfl) (gB_l lq_cX11_noteAct (p := 7) (o := 32) rfl) rfl
theorem dX11_noteAct_8 : decode cX11_noteAct 8 = .ok (.iload_n 1, 1) := dc_27 (gB_l lq_cX11_noteAct (p := 8) (o := 27) rfl)
theorem dX11_noteAct_9 : decode cX11_noteAct 9 = .ok (.aaload, 1) := dc_50 (gB_l lq_cX11_noteAct (p := 9) (o := 50) rfl)
theorem dX11_noteAct_10 : decode cX11_noteAct 10 = .ok (.invokevirtual 328, 3) := dc_182 (gB_l lq_cX11_noteAct (p := 10) (o := 182) rfl) (gB_l lq_cX11_noteAct (p := 11) (o := 1) rfl) (gB_l lq_cX11_noteAct (p := 12) (o := 72) rfl) rfl
theorem dX11_noteAct_13 : decode cX11_noteAct 13 = .ok (.ifCond .ne 15, 3) := dc_154 (gB_l lq_cX11_noteAct (p := 13) (o := 154) rfl) (gB_l lq_cX11_noteAct (p := 14) (o := 0) rfl) (gB_l lq_cX11_noteAct (p := 15) (o := 15) rfl) rfl
theorem dX11_noteAct_16 : decode cX11_noteAct 16 = .ok (.aload_n 0, 1) := dc_42 (gB_l lq_cX11_noteAct (p := 16) (o := 42) rfl)
theorem dX11_noteAct_17 : decode cX11_noteAct 17 = .ok (.getfield 61, 3) := dc_180 (gB_l lq_cX11_noteAct (p := 17) (o := 180) rfl) (gB_l lq_cX11_noteAct (p := 18) (o := 0) rfl) (gB_l lq_cX11_noteAct (p := 19) (o := 61) rfl) rfl
theorem dX11_noteAct_20 : decode cX11_noteAct 20 = .ok (.iload_n 1, 1) := dc_27 (gB_l lq_cX11_noteAct (p := 20) (o := 27) rfl)
theorem dX11_noteAct_21 : decode cX11_noteAct 21 = .ok (.aload_n 0, 1) := dc_42 (gB_l lq_cX11_noteAct (p := 21) (o := 42) rfl)
theorem dX11_noteAct_22 : decode cX11_noteAct 22 = .ok (.getfield 65, 3) := dc_180 (gB_l lq_cX11_noteAct (p := 22) (o := 180) rfl) (gB_l lq_cX11_noteAct (p := 23) (o := 0) rfl) (gB_l lq_cX11_noteAct (p := 24) (o := 65) rfl) rfl
theorem dX11_noteAct_25 : decode cX11_noteAct 25 = .ok (.invokevirtual 332, 3) := dc_182 (gB_l lq_cX11_noteAct (p := 25) (o := 182) rfl) (gB_l lq_cX11_noteAct (p := 26) (o := 1) rfl) (gB_l lq_cX11_noteAct (p := 27) (o := 76) rfl) rfl
theorem dX11_noteAct_28 : decode cX11_noteAct 28 = .ok (.return_, 1) := dc_177 (gB_l lq_cX11_noteAct (p := 28) (o := 177) rfl)
abbrev r0_cX11_octet : List Nat := [42, 180, 0, 18, 27, 182, 1, 52, 172]
theorem lq_cX11_octet : (cX11_octet).data.toList.map UInt8.toNat = r0_cX11_octet := by decide +kernel
theorem dX11_octet_0 : decode cX11_octet 0 = .ok (.aload_n 0, 1) := dc_42 (gB_l lq_cX11_octet (p := 0) (o := 42) rfl)
theorem dX11_octet_1 : decode cX11_octet 1 = .ok (.getfield 18, 3) := dc_180 (gB_l lq_cX11_octet (p := 1) (o := 180) rfl) (gB_l lq_cX11_octet (p := 2) (o := 0) rfl) (gB_l lq_cX11_octet (p := 3) (o := 18) rfl) rfl
theorem dX11_octet_4 : decode cX11_octet 4 = .ok (.iload_n 1, 1) := dc_27 (gB_l lq_cX11_octet (p := 4) (o := 27) rfl)
theorem dX11_octet_5 : decode cX11_octet 5 = .ok (.invokevirtual 308, 3) := dc_182 (gB_l lq_cX11_octet (p := 5) (o := 182) rfl) (gB_l lq_cX11_octet (p := 6) (o := 1) rfl) (gB_l lq_cX11_octet (p := 7) (o := 52) rfl) rfl
theorem dX11_octet_8 : decode cX11_octet 8 = .ok (.ireturn, 1) := dc_172 (gB_l lq_cX11_octet (p := 8) (o := 172) rfl)
abbrev r0_cX11_place : List Nat := [42, 27, 182, 0, 116, 78, 45, 198, 0, 11, 45, 28, 182, 0, 141, 154, 0, 8, 16, 254, 167, 0, 8, 45, 28, 182, 0, 159, 172]
theorem lq_cX11_place : (cX11_place).data.toList.map UInt8.toNat = r0_cX11_place := by decide +kernel
theorem dX11_place_0 : decode cX11_place 0 = .ok (.aload_n 0, 1) := dc_42 (gB_l lq_cX11_place (p := 0) (o := 42) rfl)
theorem dX11_place_1 : decode cX11_place 1 = .ok (.iload_n 1, 1) := dc_27 (gB_l lq_cX11_place (p := 1) (o := 27) rfl)
theorem dX11_place_2 : decode cX11_place 2 = .ok (.invokevirtual 116, 3) := dc_182 (gB_l lq_cX11_place (p := 2) (o := 182) rfl) (gB_l lq_cX11_place (p := 3) (o := 0) rfl) (gB_l lq_cX11_place (p := 4) (o := 116) rfl) rfl
theorem dX11_place_5 : decode cX11_place 5 = .ok (.astore_n 3, 1) := dc_78 (gB_l lq_cX11_place (p := 5) (o := 78) rfl)
theorem dX11_place_6 : decode cX11_place 6 = .ok (.aload_n 3, 1) := dc_45 (gB_l lq_cX11_place (p := 6) (o := 45) rfl)
theorem dX11_place_7 : decode cX11_place 7 = .ok (.ifnull 11, 3) := dc_198 (gB_l lq_cX11_place (p := 7) (o := 198) rfl) (gB_l lq_cX11_place (p := 8) (o := 0) rfl) (gB_l lq_cX11_place (p := 9) (o := 11) rfl) rfl
theorem dX11_place_10 : decode cX11_place 10 = .ok (.aload_n 3, 1) := dc_45 (gB_l lq_cX11_place (p := 10) (o := 45) rfl)
theorem dX11_place_11 : decode cX11_place 11 = .ok (.iload_n 2, 1) := dc_28 (gB_l lq_cX11_place (p := 11) (o := 28) rfl)
theorem dX11_place_12 : decode cX11_place 12 = .ok (.invokevirtual 141, 3) := dc_182 (gB_l lq_cX11_place (p := 12) (o := 182) rfl) (gB_l lq_cX11_place (p := 13) (o := 0) rfl) (gB_l lq_cX11_place (p := 14) (o := 141) rfl) rfl
theorem dX11_place_15 : decode cX11_place 15 = .ok (.ifCond .ne 8, 3) := dc_154 (gB_l lq_cX11_place (p := 15) (o := 154) rfl) (gB_l lq_cX11_place (p := 16) (o := 0) rfl) (gB_l lq_cX11_place (p := 17) (o := 8) rfl) rfl
theorem dX11_place_18 : decode cX11_place 18 = .ok (.bipush (-2), 2) := dc_16 (gB_l lq_cX11_place (p := 18) (o := 16) rfl) (gB_l lq_cX11_place (p := 19) (o := 254) rfl) rfl
theorem dX11_place_20 : decode cX11_place 20 = .ok (.goto 8, 3) := dc_167 (gB_l lq_cX11_place (p := 20) (o := 167) rfl) (gB_l lq_cX11_place (p := 21) (o := 0) rfl) (gB_l lq_cX11_place (p := 22) (o := 8) rfl) rfl
theorem dX11_place_23 : decode cX11_place 23 = .ok (.aload_n 3, 1) := dc_45 (gB_l lq_cX11_place (p := 23) (o := 45) rfl)
theorem dX11_place_24 : decode cX11_place 24 = .ok (.iload_n 2, 1) := dc_28 (gB_l lq_cX11_place (p := 24) (o := 28) rfl)
theorem dX11_place_25 : decode cX11_place 25 = .ok (.invokevirtual 159, 3) := dc_182 (gB_l lq_cX11_place (p := 25) (o := 182) rfl) (gB_l lq_cX11_place (p := 26) (o := 0) rfl) (gB_l lq_cX11_place (p := 27) (o := 159) rfl) rfl
theorem dX11_place_28 : decode cX11_place 28 = .ok (.ireturn, 1) := dc_172 (gB_l lq_cX11_place (p := 28) (o := 172) rfl)
abbrev r1_cX11_polish : List Nat := [15, 54, 4, 42, 27, 182, 0, 97, 21, 4, 172]
def a0_cX11_polish : List Nat := [42, 27, 182, 0, 116, 78, 45, 198, 0, 10, 28, 184, 0, 163, 154, 0, 6, 16, 254, 172, 42, 180, 0, 65, 45, 182, 0, 90, 45, 28, 184, 1]
abbrev r0_cX11_polish : List Nat := a0_cX11_polish ++ r1_cX11_polish
theorem lq_cX11_polish : (cX11_polish).data.toList.map UInt8.toNat = r0_cX11_polish := by decide +kernel
theorem q1_cX11_polish : ∀ i, (r0_cX11_polish)[32 + i]? = (r1_cX11_polish)[i]? := chn (A := a0_cX11_polish) (B := r1_cX11_polish) (n := 0) (k := 32) rfl (ch0 (R := r0_cX11_polish))
theorem dX11_polish_0 : decode cX11_polish 0 = .ok (.aload_n 0, 1) := dc_42 (gB_l lq_cX11_polish (p := 0) (o := 42) rfl)
theorem dX11_polish_1 : decode cX11_polish 1 = .ok (.iload_n 1, 1) := dc_27 (gB_l lq_cX11_polish (p := 1) (o := 27) rfl)
theorem dX11_polish_2 : decode cX11_polish 2 = .ok (.invokevirtual 116, 3) := dc_182 (gB_l lq_cX11_polish (p := 2) (o := 182) rfl) (gB_l lq_cX11_polish (p := 3) (o := 0) rfl) (gB_l lq_cX11_polish (p := 4) (o := 116) rfl) rfl
theorem dX11_polish_5 : decode cX11_polish 5 = .ok (.astore_n 3, 1) := dc_78 (gB_l lq_cX11_polish (p := 5) (o := 78) rfl)
theorem dX11_polish_6 : decode cX11_polish 6 = .ok (.aload_n 3, 1) := dc_45 (gB_l lq_cX11_polish (p := 6) (o := 45) rfl)
theorem dX11_polish_7 : decode cX11_polish 7 = .ok (.ifnull 10, 3) := dc_198 (gB_l lq_cX11_polish (p := 7) (o := 198) rfl) (gB_l lq_cX11_polish (p := 8) (o := 0) rfl) (gB_l lq_cX11_polish (p := 9) (o := 10) rfl) rfl
theorem dX11_polish_10 : decode cX11_polish 10 = .ok (.iload_n 2, 1) := dc_28 (gB_l lq_cX11_polish (p := 10) (o := 28) rfl)
theorem dX11_polish_11 : decode cX11_polish 11 = .ok (.invokestatic 163, 3) := dc_184 (gB_l lq_cX11_polish (p := 11) (o := 184) rfl) (gB_l lq_cX11_polish (p := 12) (o := 0) rfl) (gB_l lq_cX11_polish (p := 13) (o := 163) rfl) rfl
theorem dX11_polish_14 : decode cX11_polish 14 = .ok (.ifCond .ne 6, 3) := dc_154 (gB_l lq_cX11_polish (p := 14) (o := 154) rfl) (gB_l lq_cX11_polish (p := 15) (o := 0) rfl) (gB_l lq_cX11_polish (p := 16) (o := 6) rfl) rfl
theorem dX11_polish_17 : decode cX11_polish 17 = .ok (.bipush (-2), 2) := dc_16 (gB_l lq_cX11_polish (p := 17) (o := 16) rfl) (gB_l lq_cX11_polish (p := 18) (o := 254) rfl) rfl
theorem dX11_polish_19 : decode cX11_polish 19 = .ok (.ireturn, 1) := dc_172 (gB_l lq_cX11_polish (p := 19) (o := 172) rfl)
theorem dX11_polish_20 : decode cX11_polish 20 = .ok (.aload_n 0, 1) := dc_42 (gB_l lq_cX11_polish (p := 20) (o := 42) rfl)
theorem dX11_polish_21 : decode cX11_polish 21 = .ok (.getfield 65, 3) := dc_180 (gB_l lq_cX11_polish (p := 21) (o := 180) rfl) (gB_l lq_cX11_polish (p := 22) (o := 0) rfl) (gB_l lq_cX11_polish (p := 23) (o := 65) rfl) rfl
theorem dX11_polish_24 : decode cX11_polish 24 = .ok (.aload_n 3, 1) := dc_45 (gB_l lq_cX11_polish (p := 24) (o := 45) rfl)
theorem dX11_polish_25 : decode cX11_polish 25 = .ok (.invokevirtual 90, 3) := dc_182 (gB_l lq_cX11_polish (p := 25) (o := 182) rfl) (gB_l lq_cX11_polish (p := 26) (o := 0) rfl) (gB_l lq_cX11_polish (p := 27) (o := 90) rfl) rfl
theorem dX11_polish_28 : decode cX11_polish 28 = .ok (.aload_n 3, 1) := dc_45 (gB_l lq_cX11_polish (p := 28) (o := 45) rfl)
theorem dX11_polish_29 : decode cX11_polish 29 = .ok (.iload_n 2, 1) := dc_28 (gB_l lq_cX11_polish (p := 29) (o := 28) rfl)
theorem dX11_polish_30 : decode cX11_polish 30 = .ok (.invokestatic 271, 3) := dc_184 (gB_l lq_cX11_polish (p := 30) (o := 184) rfl) (gB_l lq_cX11_polish (p := 31) (o := 1) rfl) (gB_c lq_cX11_polish q1_cX11_polish 0 (o := 15) rfl) rfl
theorem dX11_polish_33 : decode cX11_polish 33 = .ok (.istore 4, 2) := dc_54 (gB_c lq_cX11_polish q1_cX11_polish 1 (o := 54) rfl) (gB_c lq_cX11_polish q1_cX11_polish 2 (o := 4) rfl)
theorem dX11_polish_35 : decode cX11_polish 35 = .ok (.aload_n 0, 1) := dc_42 (gB_c lq_cX11_polish q1_cX11_polish 3 (o := 42) rfl)
theorem dX11_polish_36 : decode cX11_polish 36 = .ok (.iload_n 1, 1) := dc_27 (gB_c lq_cX11_polish q1_cX11_polish 4 (o := 27) rfl)
theorem dX11_polish_37 : decode cX11_polish 37 = .ok (.invokevirtual 97, 3) := dc_182 (gB_c lq_cX11_polish q1_cX11_polish 5 (o := 182) rfl) (gB_c lq_cX11_polish q1_cX11_polish 6 (o := 0) rfl) (gB_c lq_cX11_polish q1_cX11_polish 7 (o := 97) rfl) rfl
theorem dX11_polish_40 : decode cX11_polish 40 = .ok (.iload 4, 2) := dc_21 (gB_c lq_cX11_polish q1_cX11_polish 8 (o := 21) rfl) (gB_c lq_cX11_polish q1_cX11_polish 9 (o := 4) rfl)
theorem dX11_polish_42 : decode cX11_polish 42 = .ok (.ireturn, 1) := dc_172 (gB_c lq_cX11_polish q1_cX11_polish 10 (o := 172) rfl)
abbrev r1_cX11_polished : List Nat := [28, 184, 1, 15, 87, 42, 180, 0, 69, 28, 184, 0, 166, 172]
def a0_cX11_polished : List Nat := [42, 27, 182, 0, 116, 78, 45, 198, 0, 10, 28, 184, 0, 163, 154, 0, 6, 16, 254, 172, 42, 180, 0, 69, 45, 182, 0, 90, 42, 180, 0, 69]
abbrev r0_cX11_polished : List Nat := a0_cX11_polished ++ r1_cX11_polished
theorem lq_cX11_polished : (cX11_polished).data.toList.map UInt8.toNat = r0_cX11_polished := by decide +kernel
theorem q1_cX11_polished : ∀ i, (r0_cX11_polished)[32 + i]? = (r1_cX11_polished)[i]? := chn (A := a0_cX11_polished) (B := r1_cX11_polished) (n := 0) (k := 32) rfl (ch0 (R := r0_cX11_polished))
theorem dX11_polished_0 : decode cX11_polished 0 = .ok (.aload_n 0, 1) := dc_42 (gB_l lq_cX11_polished (p := 0) (o := 42) rfl)
theorem dX11_polished_1 : decode cX11_polished 1 = .ok (.iload_n 1, 1) := dc_27 (gB_l lq_cX11_polished (p := 1) (o := 27) rfl)
theorem dX11_polished_2 : decode cX11_polished 2 = .ok (.invokevirtual 116, 3) := dc_182 (gB_l lq_cX11_polished (p := 2) (o := 182) rfl) (gB_l lq_cX11_polished (p := 3) (o := 0) rfl) (gB_l lq_cX11_polished (p := 4) (o := 116) rfl) rfl
theorem dX11_polished_5 : decode cX11_polished 5 = .ok (.astore_n 3, 1) := dc_78 (gB_l lq_cX11_polished (p := 5) (o := 78) rfl)
theorem dX11_polished_6 : decode cX11_polished 6 = .ok (.aload_n 3, 1) := dc_45 (gB_l lq_cX11_polished (p := 6) (o := 45) rfl)
theorem dX11_polished_7 : decode cX11_polished 7 = .ok (.ifnull 10, 3) := dc_198 (gB_l lq_cX11_polished (p := 7) (o := 198) rfl) (gB_l lq_cX11_polished (p := 8) (o := 0) rfl) (gB_l lq_cX11_polished (p := 9) (o := 10) rfl) rfl
theorem dX11_polished_10 : decode cX11_polished 10 = .ok (.iload_n 2, 1) := dc_28 (gB_l lq_cX11_polished (p := 10) (o := 28) rfl)
theorem dX11_polished_11 : decode cX11_polished 11 = .ok (.invokestatic 163, 3) := dc_184 (gB_l lq_cX11_polished (p := 11) (o := 184) rfl) (gB_l lq_cX11_polished (p := 12) (o := 0) rfl) (gB_l lq_cX11_polished (p := 13) (o := 163) rfl) rfl
theorem dX11_polished_14 : decode cX11_polished 14 = .ok (.ifCond .ne 6, 3) := dc_154 (gB_l lq_cX11_polished (p := 14) (o := 154) rfl) (gB_l lq_cX11_polished (p := 15) (o := 0) rfl) (gB_l lq_cX11_polished (p := 16) (o := 6) rfl) rfl
theorem dX11_polished_17 : decode cX11_polished 17 = .ok (.bipush (-2), 2) := dc_16 (gB_l lq_cX11_polished (p := 17) (o := 16) rfl) (gB_l lq_cX11_polished (p := 18) (o := 254) rfl) rfl
theorem dX11_polished_19 : decode cX11_polished 19 = .ok (.ireturn, 1) := dc_172 (gB_l lq_cX11_polished (p := 19) (o := 172) rfl)
theorem dX11_polished_20 : decode cX11_polished 20 = .ok (.aload_n 0, 1) := dc_42 (gB_l lq_cX11_polished (p := 20) (o := 42) rfl)
theorem dX11_polished_21 : decode cX11_polished 21 = .ok (.getfield 69, 3) := dc_180 (gB_l lq_cX11_polished (p := 21) (o := 180) rfl) (gB_l lq_cX11_polished (p := 22) (o := 0) rfl) (gB_l lq_cX11_polished (p := 23) (o := 69) rfl) rfl
theorem dX11_polished_24 : decode cX11_polished 24 = .ok (.aload_n 3, 1) := dc_45 (gB_l lq_cX11_polished (p := 24) (o := 45) rfl)
theorem dX11_polished_25 : decode cX11_polished 25 = .ok (.invokevirtual 90, 3) := dc_182 (gB_l lq_cX11_polished (p := 25) (o := 182) rfl) (gB_l lq_cX11_polished (p := 26) (o := 0) rfl) (gB_l lq_cX11_polished (p := 27) (o := 90) rfl) rfl
theorem dX11_polished_28 : decode cX11_polished 28 = .ok (.aload_n 0, 1) := dc_42 (gB_l lq_cX11_polished (p := 28) (o := 42) rfl)
theorem dX11_polished_29 : decode cX11_polished 29 = .ok (.getfield 69, 3) := dc_180 (gB_l lq_cX11_polished (p := 29) (o := 180) rfl) (gB_l lq_cX11_polished (p := 30) (o := 0) rfl) (gB_l lq_cX11_polished (p := 31) (o := 69) rfl) rfl
theorem dX11_polished_32 : decode cX11_polished 32 = .ok (.iload_n 2, 1) := dc_28 (gB_c lq_cX11_polished q1_cX11_polished 0 (o := 28) rfl)
theorem dX11_polished_33 : decode cX11_polished 33 = .ok (.invokestatic 271, 3) := dc_184 (gB_c lq_cX11_polished q1_cX11_polished 1 (o := 184) rfl) (gB_c lq_cX11_polished q1_cX11_polished 2 (o := 1) rfl) (gB_c lq_cX11_polished q1_cX11_polished 3 (o := 15) rfl) rfl
theorem dX11_polished_36 : decode cX11_polished 36 = .ok (.pop, 1) := dc_87 (gB_c lq_cX11_polished q1_cX11_polished 4 (o := 87) rfl)
theorem dX11_polished_37 : decode cX11_polished 37 = .ok (.aload_n 0, 1) := dc_42 (gB_c lq_cX11_polished q1_cX11_polished 5 (o := 42) rfl)
theorem dX11_polished_38 : decode cX11_polished 38 = .ok (.getfield 69, 3) := dc_180 (gB_c lq_cX11_polished q1_cX11_polished 6 (o := 180) rfl) (gB_c lq_cX11_polished q1_cX11_polished 7 (o := 0) rfl) (gB_c lq_cX11_polished q1_cX11_polished 8 (o := 69) rfl) rfl
theorem dX11_polished_41 : decode cX11_polished 41 = .ok (.iload_n 2, 1) := dc_28 (gB_c lq_cX11_polished q1_cX11_polished 9 (o := 28) rfl)
theorem dX11_polished_42 : decode cX11_polished 42 = .ok (.invokestatic 166, 3) := dc_184 (gB_c lq_cX11_polished q1_cX11_polished 10 (o := 184) rfl) (gB_c lq_cX11_polished q1_cX11_polished 11 (o := 0) rfl) (gB_c lq_cX11_polished q1_cX11_polished 12 (o := 166) rfl) rfl
theorem dX11_polished_45 : decode cX11_polished 45 = .ok (.ireturn, 1) := dc_172 (gB_c lq_cX11_polished q1_cX11_polished 13 (o := 172) rfl)
abbrev r1_cX11_price : List Nat := [28, 184, 0, 175, 162, 0, 6, 16, 254, 172, 25, 4, 28, 29, 184, 0, 180, 172]
def a0_cX11_price : List Nat := [42, 27, 182, 0, 116, 58, 4, 25, 4, 198, 0, 10, 28, 184, 0, 172, 154, 0, 6, 16, 254, 172, 25, 4, 29, 182, 0, 141, 153, 0, 11, 29]
abbrev r0_cX11_price : List Nat := a0_cX11_price ++ r1_cX11_price
theorem lq_cX11_price : (cX11_price).data.toList.map UInt8.toNat = r0_cX11_price := by decide +kernel
theorem q1_cX11_price : ∀ i, (r0_cX11_price)[32 + i]? = (r1_cX11_price)[i]? := chn (A := a0_cX11_price) (B := r1_cX11_price) (n := 0) (k := 32) rfl (ch0 (R := r0_cX11_price))
theorem dX11_price_0 : decode cX11_price 0 = .ok (.aload_n 0, 1) := dc_42 (gB_l lq_cX11_price (p := 0) (o := 42) rfl)
theorem dX11_price_1 : decode cX11_price 1 = .ok (.iload_n 1, 1) := dc_27 (gB_l lq_cX11_price (p := 1) (o := 27) rfl)
theorem dX11_price_2 : decode cX11_price 2 = .ok (.invokevirtual 116, 3) := dc_182 (gB_l lq_cX11_price (p := 2) (o := 182) rfl) (gB_l lq_cX11_price (p := 3) (o := 0) rfl) (gB_l lq_cX11_price (p := 4) (o := 116) rfl) rfl
theorem dX11_price_5 : decode cX11_price 5 = .ok (.astore 4, 2) := dc_58 (gB_l lq_cX11_price (p := 5) (o := 58) rfl) (gB_l lq_cX11_price (p := 6) (o := 4) rfl)
theorem dX11_price_7 : decode cX11_price 7 = .ok (.aload 4, 2) := dc_25 (gB_l lq_cX11_price (p := 7) (o := 25) rfl) (gB_l lq_cX11_price (p := 8) (o := 4) rfl)
theorem dX11_price_9 : decode cX11_price 9 = .ok (.ifnull 10, 3) := dc_198 (gB_l lq_cX11_price (p := 9) (o := 198) rfl) (gB_l lq_cX11_price (p := 10) (o := 0) rfl) (gB_l lq_cX11_price (p := 11) (o := 10) rfl) rfl
theorem dX11_price_12 : decode cX11_price 12 = .ok (.iload_n 2, 1) := dc_28 (gB_l lq_cX11_price (p := 12) (o := 28) rfl)
theorem dX11_price_13 : decode cX11_price 13 = .ok (.invokestatic 172, 3) := dc_184 (gB_l lq_cX11_price (p := 13) (o := 184) rfl) (gB_l lq_cX11_price (p := 14) (o := 0) rfl) (gB_l lq_cX11_price (p := 15) (o := 172) rfl) rfl
theorem dX11_price_16 : decode cX11_price 16 = .ok (.ifCond .ne 6, 3) := dc_154 (gB_l lq_cX11_price (p := 16) (o := 154) rfl) (gB_l lq_cX11_price (p := 17) (o := 0) rfl) (gB_l lq_cX11_price (p := 18) (o := 6) rfl) rfl
theorem dX11_price_19 : decode cX11_price 19 = .ok (.bipush (-2), 2) := dc_16 (gB_l lq_cX11_price (p := 19) (o := 16) rfl) (gB_l lq_cX11_price (p := 20) (o := 254) rfl) rfl
theorem dX11_price_21 : decode cX11_price 21 = .ok (.ireturn, 1) := dc_172 (gB_l lq_cX11_price (p := 21) (o := 172) rfl)
theorem dX11_price_22 : decode cX11_price 22 = .ok (.aload 4, 2) := dc_25 (gB_l lq_cX11_price (p := 22) (o := 25) rfl) (gB_l lq_cX11_price (p := 23) (o := 4) rfl)
theorem dX11_price_24 : decode cX11_price 24 = .ok (.iload_n 3, 1) := dc_29 (gB_l lq_cX11_price (p := 24) (o := 29) rfl)
theorem dX11_price_25 : decode cX11_price 25 = .ok (.invokevirtual 141, 3) := dc_182 (gB_l lq_cX11_price (p := 25) (o := 182) rfl) (gB_l lq_cX11_price (p := 26) (o := 0) rfl) (gB_l lq_cX11_price (p := 27) (o := 141) rfl) rfl
theorem dX11_price_28 : decode cX11_price 28 = .ok (.ifCond .eq 11, 3) := dc_153 (gB_l lq_cX11_price (p := 28) (o := 153) rfl) (gB_l lq_cX11_price (p := 29) (o := 0) rfl) (gB_l lq_cX11_price (p := 30) (o := 11) rfl) rfl
theorem dX11_price_31 : decode cX11_price 31 = .ok (.iload_n 3, 1) := dc_29 (gB_l lq_cX11_price (p := 31) (o := 29) rfl)
theorem dX11_price_32 : decode cX11_price 32 = .ok (.iload_n 2, 1) := dc_28 (gB_c lq_cX11_price q1_cX11_price 0 (o := 28) rfl)
theorem dX11_price_33 : decode cX11_price 33 = .ok (.invokestatic 175, 3) := dc_184 (gB_c lq_cX11_price q1_cX11_price 1 (o := 184) rfl) (gB_c lq_cX11_price q1_cX11_price 2 (o := 0) rfl) (gB_c lq_cX11_price q1_cX11_price 3 (o := 175) rfl) rfl
theorem dX11_price_36 : decode cX11_price 36 = .ok (.if_icmp .ge 6, 3) := dc_162 (gB_c lq_cX11_price q1_cX11_price 4 (o := 162) rfl) (gB_c lq_cX11_price q1_cX11_price 5 (o := 0) rfl) (gB_c lq_cX11_price q1_cX11_price 6 (o := 6) rfl) rfl
theorem dX11_price_39 : decode cX11_price 39 = .ok (.bipush (-2), 2) := dc_16 (gB_c lq_cX11_price q1_cX11_price 7 (o := 16) rfl) (gB_c lq_cX11_price q1_cX11_price 8 (o := 254) rfl) rfl
theorem dX11_price_41 : decode cX11_price 41 = .ok (.ireturn, 1) := dc_172 (gB_c lq_cX11_price q1_cX11_price 9 (o := 172) rfl)
theorem dX11_price_42 : decode cX11_price 42 = .ok (.aload 4, 2) := dc_25 (gB_c lq_cX11_price q1_cX11_price 10 (o := 25) rfl) (gB_c lq_cX11_price q1_cX11_price 11 (o := 4) rfl)
theorem dX11_price_44 : decode cX11_price 44 = .ok (.iload_n 2, 1) := dc_28 (gB_c lq_cX11_price q1_cX11_price 12 (o := 28) rfl)
theorem dX11_price_45 : decode cX11_price 45 = .ok (.iload_n 3, 1) := dc_29 (gB_c lq_cX11_price q1_cX11_price 13 (o := 29) rfl)
theorem dX11_price_46 : decode cX11_price 46 = .ok (.invokestatic 180, 3) := dc_184 (gB_c lq_cX11_price q1_cX11_price 14 (o := 184) rfl) (gB_c lq_cX11_price q1_cX11_price 15 (o := 0) rfl) (gB_c lq_cX11_price q1_cX11_price 16 (o := 180) rfl) rfl
theorem dX11_price_49 : decode cX11_price 49 = .ok (.ireturn, 1) := dc_172 (gB_c lq_cX11_price q1_cX11_price 17 (o := 172) rfl)
abbrev r1_cX11_reverse : List Nat := [0, 156, 3, 46, 172]
def a0_cX11_reverse : List Nat := [42, 27, 182, 0, 116, 77, 44, 199, 0, 6, 16, 254, 172, 42, 180, 0, 65, 44, 182, 0, 90, 44, 182, 1, 3, 42, 27, 182, 0, 97, 44, 180]
abbrev r0_cX11_reverse : List Nat := a0_cX11_reverse ++ r1_cX11_reverse
theorem lq_cX11_reverse : (cX11_reverse).data.toList.map UInt8.toNat = r0_cX11_reverse := by decide +kernel
theorem q1_cX11_reverse : ∀ i, (r0_cX11_reverse)[32 + i]? = (r1_cX11_reverse)[i]? := chn (A := a0_cX11_reverse) (B := r1_cX11_reverse) (n := 0) (k := 32) rfl (ch0 (R := r0_cX11_reverse))
theorem dX11_reverse_0 : decode cX11_reverse 0 = .ok (.aload_n 0, 1) := dc_42 (gB_l lq_cX11_reverse (p := 0) (o := 42) rfl)
theorem dX11_reverse_1 : decode cX11_reverse 1 = .ok (.iload_n 1, 1) := dc_27 (gB_l lq_cX11_reverse (p := 1) (o := 27) rfl)
theorem dX11_reverse_2 : decode cX11_reverse 2 = .ok (.invokevirtual 116, 3) := dc_182 (gB_l lq_cX11_reverse (p := 2) (o := 182) rfl) (gB_l lq_cX11_reverse (p := 3) (o := 0) rfl) (gB_l lq_cX11_reverse (p := 4) (o := 116) rfl) rfl
theorem dX11_reverse_5 : decode cX11_reverse 5 = .ok (.astore_n 2, 1) := dc_77 (gB_l lq_cX11_reverse (p := 5) (o := 77) rfl)
theorem dX11_reverse_6 : decode cX11_reverse 6 = .ok (.aload_n 2, 1) := dc_44 (gB_l lq_cX11_reverse (p := 6) (o := 44) rfl)
theorem dX11_reverse_7 : decode cX11_reverse 7 = .ok (.ifnonnull 6, 3) := dc_199 (gB_l lq_cX11_reverse (p := 7) (o := 199) rfl) (gB_l lq_cX11_reverse (p := 8) (o := 0) rfl) (gB_l lq_cX11_reverse (p := 9) (o := 6) rfl) rfl
theorem dX11_reverse_10 : decode cX11_reverse 10 = .ok (.bipush (-2), 2) := dc_16 (gB_l lq_cX11_reverse (p := 10) (o := 16) rfl) (gB_l lq_cX11_reverse (p := 11) (o := 254) rfl) rfl
theorem dX11_reverse_12 : decode cX11_reverse 12 = .ok (.ireturn, 1) := dc_172 (gB_l lq_cX11_reverse (p := 12) (o := 172) rfl)
theorem dX11_reverse_13 : decode cX11_reverse 13 = .ok (.aload_n 0, 1) := dc_42 (gB_l lq_cX11_reverse (p := 13) (o := 42) rfl)
theorem dX11_reverse_14 : decode cX11_reverse 14 = .ok (.getfield 65, 3) := dc_180 (gB_l lq_cX11_reverse (p := 14) (o := 180) rfl) (gB_l lq_cX11_reverse (p := 15) (o := 0) rfl) (gB_l lq_cX11_reverse (p := 16) (o := 65) rfl) rfl
theorem dX11_reverse_17 : decode cX11_reverse 17 = .ok (.aload_n 2, 1) := dc_44 (gB_l lq_cX11_reverse (p := 17) (o := 44) rfl)
theorem dX11_reverse_18 : decode cX11_reverse 18 = .ok (.invokevirtual 90, 3) := dc_182 (gB_l lq_cX11_reverse (p := 18) (o := 182) rfl) (gB_l lq_cX11_reverse (p := 19) (o := 0) rfl) (gB_l lq_cX11_reverse (p := 20) (o := 90) rfl) rfl
theorem dX11_reverse_21 : decode cX11_reverse 21 = .ok (.aload_n 2, 1) := dc_44 (gB_l lq_cX11_reverse (p := 21) (o := 44) rfl)
theorem dX11_reverse_22 : decode cX11_reverse 22 = .ok (.invokevirtual 259, 3) := dc_182 (gB_l lq_cX11_reverse (p := 22) (o := 182) rfl) (gB_l lq_cX11_reverse (p := 23) (o := 1) rfl) (gB_l lq_cX11_reverse (p := 24) (o := 3) rfl) rfl
theorem dX11_reverse_25 : decode cX11_reverse 25 = .ok (.aload_n 0, 1) := dc_42 (gB_l lq_cX11_reverse (p := 25) (o := 42) rfl)
theorem dX11_reverse_26 : decode cX11_reverse 26 = .ok (.iload_n 1, 1) := dc_27 (gB_l lq_cX11_reverse (p := 26) (o := 27) rfl)
theorem dX11_reverse_27 : decode cX11_reverse 27 = .ok (.invokevirtual 97, 3) := dc_182 (gB_l lq_cX11_reverse (p := 27) (o := 182) rfl) (gB_l lq_cX11_reverse (p := 28) (o := 0) rfl) (gB_l lq_cX11_reverse (p := 29) (o := 97) rfl) rfl
theorem dX11_reverse_30 : decode cX11_reverse 30 = .ok (.aload_n 2, 1) := dc_44 (gB_l lq_cX11_reverse (p := 30) (o := 44) rfl)
theorem dX11_reverse_31 : decode cX11_reverse 31 = .ok (.getfield 156, 3) := dc_180 (gB_l lq_cX11_reverse (p := 31) (o := 180) rfl) (gB_c lq_cX11_reverse q1_cX11_reverse 0 (o := 0) rfl) (gB_c lq_cX11_reverse q1_cX11_reverse 1 (o := 156) rfl) rfl
theorem dX11_reverse_34 : decode cX11_reverse 34 = .ok (.iconst 0, 1) := dc_3 (gB_c lq_cX11_reverse q1_cX11_reverse 2 (o := 3) rfl)
theorem dX11_reverse_35 : decode cX11_reverse 35 = .ok (.iaload, 1) := dc_46 (gB_c lq_cX11_reverse q1_cX11_reverse 3 (o := 46) rfl)
theorem dX11_reverse_36 : decode cX11_reverse 36 = .ok (.ireturn, 1) := dc_172 (gB_c lq_cX11_reverse q1_cX11_reverse 4 (o := 172) rfl)
abbrev r0_cX11_row : List Nat := [42, 27, 182, 0, 116, 78, 45, 198, 0, 11, 45, 28, 182, 0, 141, 154, 0, 8, 16, 254, 167, 0, 9, 45, 180, 0, 156, 28, 46, 172]
theorem lq_cX11_row : (cX11_row).data.toList.map UInt8.toNat = r0_cX11_row := by decide +kernel
theorem dX11_row_0 : decode cX11_row 0 = .ok (.aload_n 0, 1) := dc_42 (gB_l lq_cX11_row (p := 0) (o := 42) rfl)
theorem dX11_row_1 : decode cX11_row 1 = .ok (.iload_n 1, 1) := dc_27 (gB_l lq_cX11_row (p := 1) (o := 27) rfl)
theorem dX11_row_2 : decode cX11_row 2 = .ok (.invokevirtual 116, 3) := dc_182 (gB_l lq_cX11_row (p := 2) (o := 182) rfl) (gB_l lq_cX11_row (p := 3) (o := 0) rfl) (gB_l lq_cX11_row (p := 4) (o := 116) rfl) rfl
theorem dX11_row_5 : decode cX11_row 5 = .ok (.astore_n 3, 1) := dc_78 (gB_l lq_cX11_row (p := 5) (o := 78) rfl)
theorem dX11_row_6 : decode cX11_row 6 = .ok (.aload_n 3, 1) := dc_45 (gB_l lq_cX11_row (p := 6) (o := 45) rfl)
theorem dX11_row_7 : decode cX11_row 7 = .ok (.ifnull 11, 3) := dc_198 (gB_l lq_cX11_row (p := 7) (o := 198) rfl) (gB_l lq_cX11_row (p := 8) (o := 0) rfl) (gB_l lq_cX11_row (p := 9) (o := 11) rfl) rfl
theorem dX11_row_10 : decode cX11_row 10 = .ok (.aload_n 3, 1) := dc_45 (gB_l lq_cX11_row (p := 10) (o := 45) rfl)
theorem dX11_row_11 : decode cX11_row 11 = .ok (.iload_n 2, 1) := dc_28 (gB_l lq_cX11_row (p := 11) (o := 28) rfl)
theorem dX11_row_12 : decode cX11_row 12 = .ok (.invokevirtual 141, 3) := dc_182 (gB_l lq_cX11_row (p := 12) (o := 182) rfl) (gB_l lq_cX11_row (p := 13) (o := 0) rfl) (gB_l lq_cX11_row (p := 14) (o := 141) rfl) rfl
theorem dX11_row_15 : decode cX11_row 15 = .ok (.ifCond .ne 8, 3) := dc_154 (gB_l lq_cX11_row (p := 15) (o := 154) rfl) (gB_l lq_cX11_row (p := 16) (o := 0) rfl) (gB_l lq_cX11_row (p := 17) (o := 8) rfl) rfl
theorem dX11_row_18 : decode cX11_row 18 = .ok (.bipush (-2), 2) := dc_16 (gB_l lq_cX11_row (p := 18) (o := 16) rfl) (gB_l lq_cX11_row (p := 19) (o := 254) rfl) rfl
theorem dX11_row_20 : decode cX11_row 20 = .ok (.goto 9, 3) := dc_167 (gB_l lq_cX11_row (p := 20) (o := 167) rfl) (gB_l lq_cX11_row (p := 21) (o := 0) rfl) (gB_l lq_cX11_row (p := 22) (o := 9) rfl) rfl
theorem dX11_row_23 : decode cX11_row 23 = .ok (.aload_n 3, 1) := dc_45 (gB_l lq_cX11_row (p := 23) (o := 45) rfl)
theorem dX11_row_24 : decode cX11_row 24 = .ok (.getfield 156, 3) := dc_180 (gB_l lq_cX11_row (p := 24) (o := 180) rfl) (gB_l lq_cX11_row (p := 25) (o := 0) rfl) (gB_l lq_cX11_row (p := 26) (o := 156) rfl) rfl
theorem dX11_row_27 : decode cX11_row 27 = .ok (.iload_n 2, 1) := dc_28 (gB_l lq_cX11_row (p := 27) (o := 28) rfl)
theorem dX11_row_28 : decode cX11_row 28 = .ok (.iaload, 1) := dc_46 (gB_l lq_cX11_row (p := 28) (o := 46) rfl)
theorem dX11_row_29 : decode cX11_row 29 = .ok (.ireturn, 1) := dc_172 (gB_l lq_cX11_row (p := 29) (o := 172) rfl)
abbrev r2_cX11_split : List Nat := [4, 28, 184, 0, 234, 172, 25, 4, 28, 184, 0, 237, 172, 16, 254, 172]
def a1_cX11_split : List Nat := [0, 0, 0, 48, 0, 0, 0, 0, 0, 0, 0, 2, 0, 0, 0, 27, 0, 0, 0, 34, 0, 0, 0, 41, 25, 4, 28, 184, 0, 231, 172, 25]
abbrev r1_cX11_split : List Nat := a1_cX11_split ++ r2_cX11_split
def a0_cX11_split : List Nat := [42, 27, 182, 0, 116, 58, 4, 25, 4, 198, 0, 16, 28, 155, 0, 12, 28, 25, 4, 182, 0, 228, 164, 0, 6, 16, 254, 172, 29, 170, 0, 0]
abbrev r0_cX11_split : List Nat := a0_cX11_split ++ r1_cX11_split
theorem lq_cX11_split : (cX11_split).data.toList.map UInt8.toNat = r0_cX11_split := by decide +kernel
theorem q1_cX11_split : ∀ i, (r0_cX11_split)[32 + i]? = (r1_cX11_split)[i]? := chn (A := a0_cX11_split) (B := r1_cX11_split) (n := 0) (k := 32) rfl (ch0 (R := r0_cX11_split))
theorem q2_cX11_split : ∀ i, (r0_cX11_split)[64 + i]? = (r2_cX11_split)[i]? := chn (A := a1_cX11_split) (B := r2_cX11_split) (n := 32) (k := 32) rfl q1_cX11_split
theorem dX11_split_0 : decode cX11_split 0 = .ok (.aload_n 0, 1) := dc_42 (gB_l lq_cX11_split (p := 0) (o := 42) rfl)
theorem dX11_split_1 : decode cX11_split 1 = .ok (.iload_n 1, 1) := dc_27 (gB_l lq_cX11_split (p := 1) (o := 27) rfl)
theorem dX11_split_2 : decode cX11_split 2 = .ok (.invokevirtual 116, 3) := dc_182 (gB_l lq_cX11_split (p := 2) (o := 182) rfl) (gB_l lq_cX11_split (p := 3) (o := 0) rfl) (gB_l lq_cX11_split (p := 4) (o := 116) rfl) rfl
theorem dX11_split_5 : decode cX11_split 5 = .ok (.astore 4, 2) := dc_58 (gB_l lq_cX11_split (p := 5) (o := 58) rfl) (gB_l lq_cX11_split (p := 6) (o := 4) rfl)
theorem dX11_split_7 : decode cX11_split 7 = .ok (.aload 4, 2) := dc_25 (gB_l lq_cX11_split (p := 7) (o := 25) rfl) (gB_l lq_cX11_split (p := 8) (o := 4) rfl)
theorem dX11_split_9 : decode cX11_split 9 = .ok (.ifnull 16, 3) := dc_198 (gB_l lq_cX11_split (p := 9) (o := 198) rfl) (gB_l lq_cX11_split (p := 10) (o := 0) rfl) (gB_l lq_cX11_split (p := 11) (o := 16) rfl) rfl
theorem dX11_split_12 : decode cX11_split 12 = .ok (.iload_n 2, 1) := dc_28 (gB_l lq_cX11_split (p := 12) (o := 28) rfl)
theorem dX11_split_13 : decode cX11_split 13 = .ok (.ifCond .lt 12, 3) := dc_155 (gB_l lq_cX11_split (p := 13) (o := 155) rfl) (gB_l lq_cX11_split (p := 14) (o := 0) rfl) (gB_l lq_cX11_split (p := 15) (o := 12) rfl) rfl
theorem dX11_split_16 : decode cX11_split 16 = .ok (.iload_n 2, 1) := dc_28 (gB_l lq_cX11_split (p := 16) (o := 28) rfl)
theorem dX11_split_17 : decode cX11_split 17 = .ok (.aload 4, 2) := dc_25 (gB_l lq_cX11_split (p := 17) (o := 25) rfl) (gB_l lq_cX11_split (p := 18) (o := 4) rfl)
theorem dX11_split_19 : decode cX11_split 19 = .ok (.invokevirtual 228, 3) := dc_182 (gB_l lq_cX11_split (p := 19) (o := 182) rfl) (gB_l lq_cX11_split (p := 20) (o := 0) rfl) (gB_l lq_cX11_split (p := 21) (o := 228) rfl) rfl
theorem dX11_split_22 : decode cX11_split 22 = .ok (.if_icmp .le 6, 3) := dc_164 (gB_l lq_cX11_split (p := 22) (o := 164) rfl) (gB_l lq_cX11_split (p := 23) (o := 0) rfl) (gB_l lq_cX11_split (p := 24) (o := 6) rfl) rfl
theorem dX11_split_25 : decode cX11_split 25 = .ok (.bipush (-2), 2) := dc_16 (gB_l lq_cX11_split (p := 25) (o := 16) rfl) (gB_l lq_cX11_split (p := 26) (o := 254) rfl) rfl
theorem dX11_split_27 : decode cX11_split 27 = .ok (.ireturn, 1) := dc_172 (gB_l lq_cX11_split (p := 27) (o := 172) rfl)
theorem dX11_split_28 : decode cX11_split 28 = .ok (.iload_n 3, 1) := dc_29 (gB_l lq_cX11_split (p := 28) (o := 29) rfl)
theorem dX11_split_29 : decode cX11_split 29 = .ok (.tableswitch 48 0 2 #[27, 34, 41], 27) := by decide +kernel
theorem dX11_split_56 : decode cX11_split 56 = .ok (.aload 4, 2) := dc_25 (gB_c lq_cX11_split q1_cX11_split 24 (o := 25) rfl) (gB_c lq_cX11_split q1_cX11_split 25 (o := 4) rfl)
theorem dX11_split_58 : decode cX11_split 58 = .ok (.iload_n 2, 1) := dc_28 (gB_c lq_cX11_split q1_cX11_split 26 (o := 28) rfl)
theorem dX11_split_59 : decode cX11_split 59 = .ok (.invokestatic 231, 3) := dc_184 (gB_c lq_cX11_split q1_cX11_split 27 (o := 184) rfl) (gB_c lq_cX11_split q1_cX11_split 28 (o := 0) rfl) (gB_c lq_cX11_split q1_cX11_split 29 (o := 231) rfl) rfl
theorem dX11_split_62 : decode cX11_split 62 = .ok (.ireturn, 1) := dc_172 (gB_c lq_cX11_split q1_cX11_split 30 (o := 172) rfl)
theorem dX11_split_63 : decode cX11_split 63 = .ok (.aload 4, 2) := dc_25 (gB_c lq_cX11_split q1_cX11_split 31 (o := 25) rfl) (gB_c lq_cX11_split q2_cX11_split 0 (o := 4) rfl)
theorem dX11_split_65 : decode cX11_split 65 = .ok (.iload_n 2, 1) := dc_28 (gB_c lq_cX11_split q2_cX11_split 1 (o := 28) rfl)
theorem dX11_split_66 : decode cX11_split 66 = .ok (.invokestatic 234, 3) := dc_184 (gB_c lq_cX11_split q2_cX11_split 2 (o := 184) rfl) (gB_c lq_cX11_split q2_cX11_split 3 (o := 0) rfl) (gB_c lq_cX11_split q2_cX11_split 4 (o := 234) rfl) rfl
theorem dX11_split_69 : decode cX11_split 69 = .ok (.ireturn, 1) := dc_172 (gB_c lq_cX11_split q2_cX11_split 5 (o := 172) rfl)
theorem dX11_split_70 : decode cX11_split 70 = .ok (.aload 4, 2) := dc_25 (gB_c lq_cX11_split q2_cX11_split 6 (o := 25) rfl) (gB_c lq_cX11_split q2_cX11_split 7 (o := 4) rfl)
theorem dX11_split_72 : decode cX11_split 72 = .ok (.iload_n 2, 1) := dc_28 (gB_c lq_cX11_split q2_cX11_split 8 (o := 28) rfl)
theorem dX11_split_73 : decode cX11_split 73 = .ok (.invokestatic 237, 3) := dc_184 (gB_c lq_cX11_split q2_cX11_split 9 (o := 184) rfl) (gB_c lq_cX11_split q2_cX11_split 10 (o := 0) rfl) (gB_c lq_cX11_split q2_cX11_split 11 (o := 237) rfl) rfl
theorem dX11_split_76 : decode cX11_split 76 = .ok (.ireturn, 1) := dc_172 (gB_c lq_cX11_split q2_cX11_split 12 (o := 172) rfl)
theorem dX11_split_77 : decode cX11_split 77 = .ok (.bipush (-2), 2) := dc_16 (gB_c lq_cX11_split q2_cX11_split 13 (o := 16) rfl) (gB_c lq_cX11_split q2_cX11_split 14 (o := 254) rfl) rfl
theorem dX11_split_79 : decode cX11_split 79 = .ok (.ireturn, 1) := dc_172 (gB_c lq_cX11_split q2_cX11_split 15 (o := 172) rfl)
abbrev r1_cX11_swaps : List Nat := [172, 42, 180, 0, 65, 25, 4, 182, 0, 90, 25, 4, 28, 29, 182, 0, 252, 42, 27, 182, 0, 97, 42, 180, 0, 65, 180, 0, 156, 28, 46, 172]
def a0_cX11_swaps : List Nat := [42, 27, 182, 0, 116, 58, 4, 25, 4, 198, 0, 21, 25, 4, 28, 182, 0, 141, 153, 0, 12, 25, 4, 29, 182, 0, 141, 154, 0, 6, 16, 254]
abbrev r0_cX11_swaps : List Nat := a0_cX11_swaps ++ r1_cX11_swaps
theorem lq_cX11_swaps : (cX11_swaps).data.toList.map UInt8.toNat = r0_cX11_swaps := by decide +kernel
theorem q1_cX11_swaps : ∀ i, (r0_cX11_swaps)[32 + i]? = (r1_cX11_swaps)[i]? := chn (A := a0_cX11_swaps) (B := r1_cX11_swaps) (n := 0) (k := 32) rfl (ch0 (R := r0_cX11_swaps))
theorem dX11_swaps_0 : decode cX11_swaps 0 = .ok (.aload_n 0, 1) := dc_42 (gB_l lq_cX11_swaps (p := 0) (o := 42) rfl)
theorem dX11_swaps_1 : decode cX11_swaps 1 = .ok (.iload_n 1, 1) := dc_27 (gB_l lq_cX11_swaps (p := 1) (o := 27) rfl)
theorem dX11_swaps_2 : decode cX11_swaps 2 = .ok (.invokevirtual 116, 3) := dc_182 (gB_l lq_cX11_swaps (p := 2) (o := 182) rfl) (gB_l lq_cX11_swaps (p := 3) (o := 0) rfl) (gB_l lq_cX11_swaps (p := 4) (o := 116) rfl) rfl
theorem dX11_swaps_5 : decode cX11_swaps 5 = .ok (.astore 4, 2) := dc_58 (gB_l lq_cX11_swaps (p := 5) (o := 58) rfl) (gB_l lq_cX11_swaps (p := 6) (o := 4) rfl)
theorem dX11_swaps_7 : decode cX11_swaps 7 = .ok (.aload 4, 2) := dc_25 (gB_l lq_cX11_swaps (p := 7) (o := 25) rfl) (gB_l lq_cX11_swaps (p := 8) (o := 4) rfl)
theorem dX11_swaps_9 : decode cX11_swaps 9 = .ok (.ifnull 21, 3) := dc_198 (gB_l lq_cX11_swaps (p := 9) (o := 198) rfl) (gB_l lq_cX11_swaps (p := 10) (o := 0) rfl) (gB_l lq_cX11_swaps (p := 11) (o := 21) rfl) rfl
theorem dX11_swaps_12 : decode cX11_swaps 12 = .ok (.aload 4, 2) := dc_25 (gB_l lq_cX11_swaps (p := 12) (o := 25) rfl) (gB_l lq_cX11_swaps (p := 13) (o := 4) rfl)
theorem dX11_swaps_14 : decode cX11_swaps 14 = .ok (.iload_n 2, 1) := dc_28 (gB_l lq_cX11_swaps (p := 14) (o := 28) rfl)
theorem dX11_swaps_15 : decode cX11_swaps 15 = .ok (.invokevirtual 141, 3) := dc_182 (gB_l lq_cX11_swaps (p := 15) (o := 182) rfl) (gB_l lq_cX11_swaps (p := 16) (o := 0) rfl) (gB_l lq_cX11_swaps (p := 17) (o := 141) rfl) rfl
theorem dX11_swaps_18 : decode cX11_swaps 18 = .ok (.ifCond .eq 12, 3) := dc_153 (gB_l lq_cX11_swaps (p := 18) (o := 153) rfl) (gB_l lq_cX11_swaps (p := 19) (o := 0) rfl) (gB_l lq_cX11_swaps (p := 20) (o := 12) rfl) rfl
theorem dX11_swaps_21 : decode cX11_swaps 21 = .ok (.aload 4, 2) := dc_25 (gB_l lq_cX11_swaps (p := 21) (o := 25) rfl) (gB_l lq_cX11_swaps (p := 22) (o := 4) rfl)
theorem dX11_swaps_23 : decode cX11_swaps 23 = .ok (.iload_n 3, 1) := dc_29 (gB_l lq_cX11_swaps (p := 23) (o := 29) rfl)
theorem dX11_swaps_24 : decode cX11_swaps 24 = .ok (.invokevirtual 141, 3) := dc_182 (gB_l lq_cX11_swaps (p := 24) (o := 182) rfl) (gB_l lq_cX11_swaps (p := 25) (o := 0) rfl) (gB_l lq_cX11_swaps (p := 26) (o := 141) rfl) rfl
theorem dX11_swaps_27 : decode cX11_swaps 27 = .ok (.ifCond .ne 6, 3) := dc_154 (gB_l lq_cX11_swaps (p := 27) (o := 154) rfl) (gB_l lq_cX11_swaps (p := 28) (o := 0) rfl) (gB_l lq_cX11_swaps (p := 29) (o := 6) rfl) rfl
theorem dX11_swaps_30 : decode cX11_swaps 30 = .ok (.bipush (-2), 2) := dc_16 (gB_l lq_cX11_swaps (p := 30) (o := 16) rfl) (gB_l lq_cX11_swaps (p := 31) (o := 254) rfl) rfl
theorem dX11_swaps_32 : decode cX11_swaps 32 = .ok (.ireturn, 1) := dc_172 (gB_c lq_cX11_swaps q1_cX11_swaps 0 (o := 172) rfl)
theorem dX11_swaps_33 : decode cX11_swaps 33 = .ok (.aload_n 0, 1) := dc_42 (gB_c lq_cX11_swaps q1_cX11_swaps 1 (o := 42) rfl)
theorem dX11_swaps_34 : decode cX11_swaps 34 = .ok (.getfield 65, 3) := dc_180 (gB_c lq_cX11_swaps q1_cX11_swaps 2 (o := 180) rfl) (gB_c lq_cX11_swaps q1_cX11_swaps 3 (o := 0) rfl) (gB_c lq_cX11_swaps q1_cX11_swaps 4 (o := 65) rfl) rfl
theorem dX11_swaps_37 : decode cX11_swaps 37 = .ok (.aload 4, 2) := dc_25 (gB_c lq_cX11_swaps q1_cX11_swaps 5 (o := 25) rfl) (gB_c lq_cX11_swaps q1_cX11_swaps 6 (o := 4) rfl)
theorem dX11_swaps_39 : decode cX11_swaps 39 = .ok (.invokevirtual 90, 3) := dc_182 (gB_c lq_cX11_swaps q1_cX11_swaps 7 (o := 182) rfl) (gB_c lq_cX11_swaps q1_cX11_swaps 8 (o := 0) rfl) (gB_c lq_cX11_swaps q1_cX11_swaps 9 (o := 90) rfl) rfl
theorem dX11_swaps_42 : decode cX11_swaps 42 = .ok (.aload 4, 2) := dc_25 (gB_c lq_cX11_swaps q1_cX11_swaps 10 (o := 25) rfl) (gB_c lq_cX11_swaps q1_cX11_swaps 11 (o := 4) rfl)
theorem dX11_swaps_44 : decode cX11_swaps 44 = .ok (.iload_n 2, 1) := dc_28 (gB_c lq_cX11_swaps q1_cX11_swaps 12 (o := 28) rfl)
theorem dX11_swaps_45 : decode cX11_swaps 45 = .ok (.iload_n 3, 1) := dc_29 (gB_c lq_cX11_swaps q1_cX11_swaps 13 (o := 29) rfl)
theorem dX11_swaps_46 : decode cX11_swaps 46 = .ok (.invokevirtual 252, 3) := dc_182 (gB_c lq_cX11_swaps q1_cX11_swaps 14 (o := 182) rfl) (gB_c lq_cX11_swaps q1_cX11_swaps 15 (o := 0) rfl) (gB_c lq_cX11_swaps q1_cX11_swaps 16 (o := 252) rfl) rfl
theorem dX11_swaps_49 : decode cX11_swaps 49 = .ok (.aload_n 0, 1) := dc_42 (gB_c lq_cX11_swaps q1_cX11_swaps 17 (o := 42) rfl)
theorem dX11_swaps_50 : decode cX11_swaps 50 = .ok (.iload_n 1, 1) := dc_27 (gB_c lq_cX11_swaps q1_cX11_swaps 18 (o := 27) rfl)
theorem dX11_swaps_51 : decode cX11_swaps 51 = .ok (.invokevirtual 97, 3) := dc_182 (gB_c lq_cX11_swaps q1_cX11_swaps 19 (o := 182) rfl) (gB_c lq_cX11_swaps q1_cX11_swaps 20 (o := 0) rfl) (gB_c lq_cX11_swaps q1_cX11_swaps 21 (o := 97) rfl) rfl
theorem dX11_swaps_54 : decode cX11_swaps 54 = .ok (.aload_n 0, 1) := dc_42 (gB_c lq_cX11_swaps q1_cX11_swaps 22 (o := 42) rfl)
theorem dX11_swaps_55 : decode cX11_swaps 55 = .ok (.getfield 65, 3) := dc_180 (gB_c lq_cX11_swaps q1_cX11_swaps 23 (o := 180) rfl) (gB_c lq_cX11_swaps q1_cX11_swaps 24 (o := 0) rfl) (gB_c lq_cX11_swaps q1_cX11_swaps 25 (o := 65) rfl) rfl
theorem dX11_swaps_58 : decode cX11_swaps 58 = .ok (.getfield 156, 3) := dc_180 (gB_c lq_cX11_swaps q1_cX11_swaps 26 (o := 180) rfl) (gB_c lq_cX11_swaps q1_cX11_swaps 27 (o := 0) rfl) (gB_c lq_cX11_swaps q1_cX11_swaps 28 (o := 156) rfl) rfl
theorem dX11_swaps_61 : decode cX11_swaps 61 = .ok (.iload_n 2, 1) := dc_28 (gB_c lq_cX11_swaps q1_cX11_swaps 29 (o := 28) rfl)
theorem dX11_swaps_62 : decode cX11_swaps 62 = .ok (.iaload, 1) := dc_46 (gB_c lq_cX11_swaps q1_cX11_swaps 30 (o := 46) rfl)
theorem dX11_swaps_63 : decode cX11_swaps 63 = .ok (.ireturn, 1) := dc_172 (gB_c lq_cX11_swaps q1_cX11_swaps 31 (o := 172) rfl)
abbrev r1_cX11_takes : List Nat := [180, 0, 198, 3, 25, 4, 180, 0, 156, 3, 16, 9, 184, 1, 6, 42, 27, 182, 0, 97, 25, 4, 42, 180, 0, 65, 182, 1, 12, 172]
def a0_cX11_takes : List Nat := [42, 27, 28, 182, 0, 189, 78, 45, 199, 0, 6, 16, 254, 172, 42, 180, 0, 32, 27, 50, 58, 4, 42, 180, 0, 65, 25, 4, 182, 0, 90, 45]
abbrev r0_cX11_takes : List Nat := a0_cX11_takes ++ r1_cX11_takes
theorem lq_cX11_takes : (cX11_takes).data.toList.map UInt8.toNat = r0_cX11_takes := by decide +kernel
theorem q1_cX11_takes : ∀ i, (r0_cX11_takes)[32 + i]? = (r1_cX11_takes)[i]? := chn (A := a0_cX11_takes) (B := r1_cX11_takes) (n := 0) (k := 32) rfl (ch0 (R := r0_cX11_takes))
theorem dX11_takes_0 : decode cX11_takes 0 = .ok (.aload_n 0, 1) := dc_42 (gB_l lq_cX11_takes (p := 0) (o := 42) rfl)
theorem dX11_takes_1 : decode cX11_takes 1 = .ok (.iload_n 1, 1) := dc_27 (gB_l lq_cX11_takes (p := 1) (o := 27) rfl)
theorem dX11_takes_2 : decode cX11_takes 2 = .ok (.iload_n 2, 1) := dc_28 (gB_l lq_cX11_takes (p := 2) (o := 28) rfl)
theorem dX11_takes_3 : decode cX11_takes 3 = .ok (.invokevirtual 189, 3) := dc_182 (gB_l lq_cX11_takes (p := 3) (o := 182) rfl) (gB_l lq_cX11_takes (p := 4) (o := 0) rfl) (gB_l lq_cX11_takes (p := 5) (o := 189) rfl) rfl
theorem dX11_takes_6 : decode cX11_takes 6 = .ok (.astore_n 3, 1) := dc_78 (gB_l lq_cX11_takes (p := 6) (o := 78) rfl)
theorem dX11_takes_7 : decode cX11_takes 7 = .ok (.aload_n 3, 1) := dc_45 (gB_l lq_cX11_takes (p := 7) (o := 45) rfl)
theorem dX11_takes_8 : decode cX11_takes 8 = .ok (.ifnonnull 6, 3) := dc_199 (gB_l lq_cX11_takes (p := 8) (o := 199) rfl) (gB_l lq_cX11_takes (p := 9) (o := 0) rfl) (gB_l lq_cX11_takes (p := 10) (o := 6) rfl) rfl
theorem dX11_takes_11 : decode cX11_takes 11 = .ok (.bipush (-2), 2) := dc_16 (gB_l lq_cX11_takes (p := 11) (o := 16) rfl) (gB_l lq_cX11_takes (p := 12) (o := 254) rfl) rfl
theorem dX11_takes_13 : decode cX11_takes 13 = .ok (.ireturn, 1) := dc_172 (gB_l lq_cX11_takes (p := 13) (o := 172) rfl)
theorem dX11_takes_14 : decode cX11_takes 14 = .ok (.aload_n 0, 1) := dc_42 (gB_l lq_cX11_takes (p := 14) (o := 42) rfl)
theorem dX11_takes_15 : decode cX11_takes 15 = .ok (.getfield 32, 3) := dc_180 (gB_l lq_cX11_takes (p := 15) (o := 180) rfl) (gB_l lq_cX11_takes (p := 16) (o := 0) rfl) (gB_l lq_cX11_takes (p := 17) (o := 32) rfl) rfl
theorem dX11_takes_18 : decode cX11_takes 18 = .ok (.iload_n 1, 1) := dc_27 (gB_l lq_cX11_takes (p := 18) (o := 27) rfl)
theorem dX11_takes_19 : decode cX11_takes 19 = .ok (.aaload, 1) := dc_50 (gB_l lq_cX11_takes (p := 19) (o := 50) rfl)
theorem dX11_takes_20 : decode cX11_takes 20 = .ok (.astore 4, 2) := dc_58 (gB_l lq_cX11_takes (p := 20) (o := 58) rfl) (gB_l lq_cX11_takes (p := 21) (o := 4) rfl)
theorem dX11_takes_22 : decode cX11_takes 22 = .ok (.aload_n 0, 1) := dc_42 (gB_l lq_cX11_takes (p := 22) (o := 42) rfl)
theorem dX11_takes_23 : decode cX11_takes 23 = .ok (.getfield 65, 3) := dc_180 (gB_l lq_cX11_takes (p := 23) (o := 180) rfl) (gB_l lq_cX11_takes (p := 24) (o := 0) rfl) (gB_l lq_cX11_takes (p := 25) (o := 65) rfl) rfl
theorem dX11_takes_26 : decode cX11_takes 26 = .ok (.aload 4, 2) := dc_25 (gB_l lq_cX11_takes (p := 26) (o := 25) rfl) (gB_l lq_cX11_takes (p := 27) (o := 4) rfl)
theorem dX11_takes_28 : decode cX11_takes 28 = .ok (.invokevirtual 90, 3) := dc_182 (gB_l lq_cX11_takes (p := 28) (o := 182) rfl) (gB_l lq_cX11_takes (p := 29) (o := 0) rfl) (gB_l lq_cX11_takes (p := 30) (o := 90) rfl) rfl
theorem dX11_takes_31 : decode cX11_takes 31 = .ok (.aload_n 3, 1) := dc_45 (gB_l lq_cX11_takes (p := 31) (o := 45) rfl)
theorem dX11_takes_32 : decode cX11_takes 32 = .ok (.getfield 198, 3) := dc_180 (gB_c lq_cX11_takes q1_cX11_takes 0 (o := 180) rfl) (gB_c lq_cX11_takes q1_cX11_takes 1 (o := 0) rfl) (gB_c lq_cX11_takes q1_cX11_takes 2 (o := 198) rfl) rfl
theorem dX11_takes_35 : decode cX11_takes 35 = .ok (.iconst 0, 1) := dc_3 (gB_c lq_cX11_takes q1_cX11_takes 3 (o := 3) rfl)
theorem dX11_takes_36 : decode cX11_takes 36 = .ok (.aload 4, 2) := dc_25 (gB_c lq_cX11_takes q1_cX11_takes 4 (o := 25) rfl) (gB_c lq_cX11_takes q1_cX11_takes 5 (o := 4) rfl)
theorem dX11_takes_38 : decode cX11_takes 38 = .ok (.getfield 156, 3) := dc_180 (gB_c lq_cX11_takes q1_cX11_takes 6 (o := 180) rfl) (gB_c lq_cX11_takes q1_cX11_takes 7 (o := 0) rfl) (gB_c lq_cX11_takes q1_cX11_takes 8 (o := 156) rfl) rfl
theorem dX11_takes_41 : decode cX11_takes 41 = .ok (.iconst 0, 1) := dc_3 (gB_c lq_cX11_takes q1_cX11_takes 9 (o := 3) rfl)
theorem dX11_takes_42 : decode cX11_takes 42 = .ok (.bipush 9, 2) := dc_16 (gB_c lq_cX11_takes q1_cX11_takes 10 (o := 16) rfl) (gB_c lq_cX11_takes q1_cX11_takes 11 (o := 9) rfl) rfl
theorem dX11_takes_44 : decode cX11_takes 44 = .ok (.invokestatic 262, 3) := dc_184 (gB_c lq_cX11_takes q1_cX11_takes 12 (o := 184) rfl) (gB_c lq_cX11_takes q1_cX11_takes 13 (o := 1) rfl) (gB_c lq_cX11_takes q1_cX11_takes 14 (o := 6) rfl) rfl
theorem dX11_takes_47 : decode cX11_takes 47 = .ok (.aload_n 0, 1) := dc_42 (gB_c lq_cX11_takes q1_cX11_takes 15 (o := 42) rfl)
theorem dX11_takes_48 : decode cX11_takes 48 = .ok (.iload_n 1, 1) := dc_27 (gB_c lq_cX11_takes q1_cX11_takes 16 (o := 27) rfl)
theorem dX11_takes_49 : decode cX11_takes 49 = .ok (.invokevirtual 97, 3) := dc_182 (gB_c lq_cX11_takes q1_cX11_takes 17 (o := 182) rfl) (gB_c lq_cX11_takes q1_cX11_takes 18 (o := 0) rfl) (gB_c lq_cX11_takes q1_cX11_takes 19 (o := 97) rfl) rfl
theorem dX11_takes_52 : decode cX11_takes 52 = .ok (.aload 4, 2) := dc_25 (gB_c lq_cX11_takes q1_cX11_takes 20 (o := 25) rfl) (gB_c lq_cX11_takes q1_cX11_takes 21 (o := 4) rfl)
theorem dX11_takes_54 : decode cX11_takes 54 = .ok (.aload_n 0, 1) := dc_42 (gB_c lq_cX11_takes q1_cX11_takes 22 (o := 42) rfl)
theorem dX11_takes_55 : decode cX11_takes 55 = .ok (.getfield 65, 3) := dc_180 (gB_c lq_cX11_takes q1_cX11_takes 23 (o := 180) rfl) (gB_c lq_cX11_takes q1_cX11_takes 24 (o := 0) rfl) (gB_c lq_cX11_takes q1_cX11_takes 25 (o := 65) rfl) rfl
theorem dX11_takes_58 : decode cX11_takes 58 = .ok (.invokevirtual 268, 3) := dc_182 (gB_c lq_cX11_takes q1_cX11_takes 26 (o := 182) rfl) (gB_c lq_cX11_takes q1_cX11_takes 27 (o := 1) rfl) (gB_c lq_cX11_takes q1_cX11_takes 28 (o := 12) rfl) rfl
theorem dX11_takes_61 : decode cX11_takes 61 = .ok (.ireturn, 1) := dc_172 (gB_c lq_cX11_takes q1_cX11_takes 29 (o := 172) rfl)
abbrev r1_cX11_tell : List Nat := [0, 16, 42, 45, 182, 1, 43, 42, 45, 182, 1, 46, 167, 0, 8, 42, 45, 182, 1, 49, 42, 180, 0, 18, 180, 0, 79, 172]
def a0_cX11_tell : List Nat := [42, 27, 182, 0, 116, 78, 45, 198, 0, 12, 28, 155, 0, 8, 28, 4, 164, 0, 6, 16, 254, 172, 42, 180, 0, 18, 3, 181, 0, 79, 28, 154]
abbrev r0_cX11_tell : List Nat := a0_cX11_tell ++ r1_cX11_tell
theorem lq_cX11_tell : (cX11_tell).data.toList.map UInt8.toNat = r0_cX11_tell := by decide +kernel
theorem q1_cX11_tell : ∀ i, (r0_cX11_tell)[32 + i]? = (r1_cX11_tell)[i]? := chn (A := a0_cX11_tell) (B := r1_cX11_tell) (n := 0) (k := 32) rfl (ch0 (R := r0_cX11_tell))
theorem dX11_tell_0 : decode cX11_tell 0 = .ok (.aload_n 0, 1) := dc_42 (gB_l lq_cX11_tell (p := 0) (o := 42) rfl)
theorem dX11_tell_1 : decode cX11_tell 1 = .ok (.iload_n 1, 1) := dc_27 (gB_l lq_cX11_tell (p := 1) (o := 27) rfl)
theorem dX11_tell_2 : decode cX11_tell 2 = .ok (.invokevirtual 116, 3) := dc_182 (gB_l lq_cX11_tell (p := 2) (o := 182) rfl) (gB_l lq_cX11_tell (p := 3) (o := 0) rfl) (gB_l lq_cX11_tell (p := 4) (o := 116) rfl) rfl
theorem dX11_tell_5 : decode cX11_tell 5 = .ok (.astore_n 3, 1) := dc_78 (gB_l lq_cX11_tell (p := 5) (o := 78) rfl)
theorem dX11_tell_6 : decode cX11_tell 6 = .ok (.aload_n 3, 1) := dc_45 (gB_l lq_cX11_tell (p := 6) (o := 45) rfl)
theorem dX11_tell_7 : decode cX11_tell 7 = .ok (.ifnull 12, 3) := dc_198 (gB_l lq_cX11_tell (p := 7) (o := 198) rfl) (gB_l lq_cX11_tell (p := 8) (o := 0) rfl) (gB_l lq_cX11_tell (p := 9) (o := 12) rfl) rfl
theorem dX11_tell_10 : decode cX11_tell 10 = .ok (.iload_n 2, 1) := dc_28 (gB_l lq_cX11_tell (p := 10) (o := 28) rfl)
theorem dX11_tell_11 : decode cX11_tell 11 = .ok (.ifCond .lt 8, 3) := dc_155 (gB_l lq_cX11_tell (p := 11) (o := 155) rfl) (gB_l lq_cX11_tell (p := 12) (o := 0) rfl) (gB_l lq_cX11_tell (p := 13) (o := 8) rfl) rfl
theorem dX11_tell_14 : decode cX11_tell 14 = .ok (.iload_n 2, 1) := dc_28 (gB_l lq_cX11_tell (p := 14) (o := 28) rfl)
theorem dX11_tell_15 : decode cX11_tell 15 = .ok (.iconst 1, 1) := dc_4 (gB_l lq_cX11_tell (p := 15) (o := 4) rfl)
theorem dX11_tell_16 : decode cX11_tell 16 = .ok (.if_icmp .le 6, 3) := dc_164 (gB_l lq_cX11_tell (p := 16) (o := 164) rfl) (gB_l lq_cX11_tell (p := 17) (o := 0) rfl) (gB_l lq_cX11_tell (p := 18) (o := 6) rfl) rfl
theorem dX11_tell_19 : decode cX11_tell 19 = .ok (.bipush (-2), 2) := dc_16 (gB_l lq_cX11_tell (p := 19) (o := 16) rfl) (gB_l lq_cX11_tell (p := 20) (o := 254) rfl) rfl
theorem dX11_tell_21 : decode cX11_tell 21 = .ok (.ireturn, 1) := dc_172 (gB_l lq_cX11_tell (p := 21) (o := 172) rfl)
theorem dX11_tell_22 : decode cX11_tell 22 = .ok (.aload_n 0, 1) := dc_42 (gB_l lq_cX11_tell (p := 22) (o := 42) rfl)
theorem dX11_tell_23 : decode cX11_tell 23 = .ok (.getfield 18, 3) := dc_180 (gB_l lq_cX11_tell (p := 23) (o := 180) rfl) (gB_l lq_cX11_tell (p := 24) (o := 0) rfl) (gB_l lq_cX11_tell (p := 25) (o := 18) rfl) rfl
theorem dX11_tell_26 : decode cX11_tell 26 = .ok (.iconst 0, 1) := dc_3 (gB_l lq_cX11_tell (p := 26) (o := 3) rfl)
theorem dX11_tell_27 : decode cX11_tell 27 = .ok (.putfield 79, 3) := dc_181 (gB_l lq_cX11_tell (p := 27) (o := 181) rfl) (gB_l lq_cX11_tell (p := 28) (o := 0) rfl) (gB_l lq_cX11_tell (p := 29) (o := 79) rfl) rfl
theorem dX11_tell_30 : decode cX11_tell 30 = .ok (.iload_n 2, 1) := dc_28 (gB_l lq_cX11_tell (p := 30) (o := 28) rfl)
theorem dX11_tell_31 : decode cX11_tell 31 = .ok (.ifCond .ne 16, 3) := dc_154 (gB_l lq_cX11_tell (p := 31) (o := 154) rfl) (gB_c lq_cX11_tell q1_cX11_tell 0 (o := 0) rfl) (gB_c lq_cX11_tell q1_cX11_tell 1 (o := 16) rfl) rfl
theorem dX11_tell_34 : decode cX11_tell 34 = .ok (.aload_n 0, 1) := dc_42 (gB_c lq_cX11_tell q1_cX11_tell 2 (o := 42) rfl)
theorem dX11_tell_35 : decode cX11_tell 35 = .ok (.aload_n 3, 1) := dc_45 (gB_c lq_cX11_tell q1_cX11_tell 3 (o := 45) rfl)
theorem dX11_tell_36 : decode cX11_tell 36 = .ok (.invokevirtual 299, 3) := dc_182 (gB_c lq_cX11_tell q1_cX11_tell 4 (o := 182) rfl) (gB_c lq_cX11_tell q1_cX11_tell 5 (o := 1) rfl) (gB_c lq_cX11_tell q1_cX11_tell 6 (o := 43) rfl) rfl
theorem dX11_tell_39 : decode cX11_tell 39 = .ok (.aload_n 0, 1) := dc_42 (gB_c lq_cX11_tell q1_cX11_tell 7 (o := 42) rfl)
theorem dX11_tell_40 : decode cX11_tell 40 = .ok (.aload_n 3, 1) := dc_45 (gB_c lq_cX11_tell q1_cX11_tell 8 (o := 45) rfl)
theorem dX11_tell_41 : decode cX11_tell 41 = .ok (.invokevirtual 302, 3) := dc_182 (gB_c lq_cX11_tell q1_cX11_tell 9 (o := 182) rfl) (gB_c lq_cX11_tell q1_cX11_tell 10 (o := 1) rfl) (gB_c lq_cX11_tell q1_cX11_tell 11 (o := 46) rfl) rfl
theorem dX11_tell_44 : decode cX11_tell 44 = .ok (.goto 8, 3) := dc_167 (gB_c lq_cX11_tell q1_cX11_tell 12 (o := 167) rfl) (gB_c lq_cX11_tell q1_cX11_tell 13 (o := 0) rfl) (gB_c lq_cX11_tell q1_cX11_tell 14 (o := 8) rfl) rfl
theorem dX11_tell_47 : decode cX11_tell 47 = .ok (.aload_n 0, 1) := dc_42 (gB_c lq_cX11_tell q1_cX11_tell 15 (o := 42) rfl)
theorem dX11_tell_48 : decode cX11_tell 48 = .ok (.aload_n 3, 1) := dc_45 (gB_c lq_cX11_tell q1_cX11_tell 16 (o := 45) rfl)
theorem dX11_tell_49 : decode cX11_tell 49 = .ok (.invokevirtual 305, 3) := dc_182 (gB_c lq_cX11_tell q1_cX11_tell 17 (o := 182) rfl) (gB_c lq_cX11_tell q1_cX11_tell 18 (o := 1) rfl) (gB_c lq_cX11_tell q1_cX11_tell 19 (o := 49) rfl) rfl
theorem dX11_tell_52 : decode cX11_tell 52 = .ok (.aload_n 0, 1) := dc_42 (gB_c lq_cX11_tell q1_cX11_tell 20 (o := 42) rfl)
theorem dX11_tell_53 : decode cX11_tell 53 = .ok (.getfield 18, 3) := dc_180 (gB_c lq_cX11_tell q1_cX11_tell 21 (o := 180) rfl) (gB_c lq_cX11_tell q1_cX11_tell 22 (o := 0) rfl) (gB_c lq_cX11_tell q1_cX11_tell 23 (o := 18) rfl) rfl
theorem dX11_tell_56 : decode cX11_tell 56 = .ok (.getfield 79, 3) := dc_180 (gB_c lq_cX11_tell q1_cX11_tell 24 (o := 180) rfl) (gB_c lq_cX11_tell q1_cX11_tell 25 (o := 0) rfl) (gB_c lq_cX11_tell q1_cX11_tell 26 (o := 79) rfl) rfl
theorem dX11_tell_59 : decode cX11_tell 59 = .ok (.ireturn, 1) := dc_172 (gB_c lq_cX11_tell q1_cX11_tell 27 (o := 172) rfl)
abbrev r1_cX11_tellCuts : List Nat := [0, 180, 182, 1, 61, 132, 2, 1, 167, 255, 218, 177]
def a0_cX11_tellCuts : List Nat := [4, 61, 28, 43, 180, 0, 120, 162, 0, 36, 28, 4, 164, 0, 12, 42, 180, 0, 18, 16, 32, 182, 1, 64, 42, 180, 0, 18, 43, 3, 28, 184]
abbrev r0_cX11_tellCuts : List Nat := a0_cX11_tellCuts ++ r1_cX11_tellCuts
theorem lq_cX11_tellCuts : (cX11_tellCuts).data.toList.map UInt8.toNat = r0_cX11_tellCuts := by decide +kernel
theorem q1_cX11_tellCuts : ∀ i, (r0_cX11_tellCuts)[32 + i]? = (r1_cX11_tellCuts)[i]? := chn (A := a0_cX11_tellCuts) (B := r1_cX11_tellCuts) (n := 0) (k := 32) rfl (ch0 (R := r0_cX11_tellCuts))
theorem dX11_tellCuts_0 : decode cX11_tellCuts 0 = .ok (.iconst 1, 1) := dc_4 (gB_l lq_cX11_tellCuts (p := 0) (o := 4) rfl)
theorem dX11_tellCuts_1 : decode cX11_tellCuts 1 = .ok (.istore_n 2, 1) := dc_61 (gB_l lq_cX11_tellCuts (p := 1) (o := 61) rfl)
theorem dX11_tellCuts_2 : decode cX11_tellCuts 2 = .ok (.iload_n 2, 1) := dc_28 (gB_l lq_cX11_tellCuts (p := 2) (o := 28) rfl)
theorem dX11_tellCuts_3 : decode cX11_tellCuts 3 = .ok (.aload_n 1, 1) := dc_43 (gB_l lq_cX11_tellCuts (p := 3) (o := 43) rfl)
theorem dX11_tellCuts_4 : decode cX11_tellCuts 4 = .ok (.getfield 120, 3) := dc_180 (gB_l lq_cX11_tellCuts (p := 4) (o := 180) rfl) (gB_l lq_cX11_tellCuts (p := 5) (o := 0) rfl) (gB_l lq_cX11_tellCuts (p := 6) (o := 120) rfl) rfl
theorem dX11_tellCuts_7 : decode cX11_tellCuts 7 = .ok (.if_icmp .ge 36, 3) := dc_162 (gB_l lq_cX11_tellCuts (p := 7) (o := 162) rfl) (gB_l lq_cX11_tellCuts (p := 8) (o := 0) rfl) (gB_l lq_cX11_tellCuts (p := 9) (o := 36) rfl) rfl
theorem dX11_tellCuts_10 : decode cX11_tellCuts 10 = .ok (.iload_n 2, 1) := dc_28 (gB_l lq_cX11_tellCuts (p := 10) (o := 28) rfl)
theorem dX11_tellCuts_11 : decode cX11_tellCuts 11 = .ok (.iconst 1, 1) := dc_4 (gB_l lq_cX11_tellCuts (p := 11) (o := 4) rfl)
theorem dX11_tellCuts_12 : decode cX11_tellCuts 12 = .ok (.if_icmp .le 12, 3) := dc_164 (gB_l lq_cX11_tellCuts (p := 12) (o := 164) rfl) (gB_l lq_cX11_tellCuts (p := 13) (o := 0) rfl) (gB_l lq_cX11_tellCuts (p := 14) (o := 12) rfl) rfl
theorem dX11_tellCuts_15 : decode cX11_tellCuts 15 = .ok (.aload_n 0, 1) := dc_42 (gB_l lq_cX11_tellCuts (p := 15) (o := 42) rfl)
theorem dX11_tellCuts_16 : decode cX11_tellCuts 16 = .ok (.getfield 18, 3) := dc_180 (gB_l lq_cX11_tellCuts (p := 16) (o := 180) rfl) (gB_l lq_cX11_tellCuts (p := 17) (o := 0) rfl) (gB_l lq_cX11_tellCuts (p := 18) (o := 18) rfl) rfl
theorem dX11_tellCuts_19 : decode cX11_tellCuts 19 = .ok (.bipush 32, 2) := dc_16 (gB_l lq_cX11_tellCuts (p := 19) (o := 16) rfl) (gB_l lq_cX11_tellCuts (p := 20) (o := 32) rfl) rfl
theorem dX11_tellCuts_21 : decode cX11_tellCuts 21 = .ok (.invokevirtual 320, 3) := dc_182 (gB_l lq_cX11_tellCuts (p := 21) (o := 182) rfl) (gB_l lq_cX11_tellCuts (p := 22) (o := 1) rfl) (gB_l lq_cX11_tellCuts (p := 23) (o := 64) rfl) rfl
theorem dX11_tellCuts_24 : decode cX11_tellCuts 24 = .ok (.aload_n 0, 1) := dc_42 (gB_l lq_cX11_tellCuts (p := 24) (o := 42) rfl)
theorem dX11_tellCuts_25 : decode cX11_tellCuts 25 = .ok (.getfield 18, 3) := dc_180 (gB_l lq_cX11_tellCuts (p := 25) (o := 180) rfl) (gB_l lq_cX11_tellCuts (p := 26) (o := 0) rfl) (gB_l lq_cX11_tellCuts (p := 27) (o := 18) rfl) rfl
theorem dX11_tellCuts_28 : decode cX11_tellCuts 28 = .ok (.aload_n 1, 1) := dc_43 (gB_l lq_cX11_tellCuts (p := 28) (o := 43) rfl)
theorem dX11_tellCuts_29 : decode cX11_tellCuts 29 = .ok (.iconst 0, 1) := dc_3 (gB_l lq_cX11_tellCuts (p := 29) (o := 3) rfl)
theorem dX11_tellCuts_30 : decode cX11_tellCuts 30 = .ok (.iload_n 2, 1) := dc_28 (gB_l lq_cX11_tellCuts (p := 30) (o := 28) rfl)
theorem dX11_tellCuts_31 : decode cX11_tellCuts 31 = .ok (.invokestatic 180, 3) := dc_184 (gB_l lq_cX11_tellCuts (p := 31) (o := 184) rfl) (gB_c lq_cX11_tellCuts q1_cX11_tellCuts 0 (o := 0) rfl) (gB_c lq_cX11_tellCuts q1_cX11_tellCuts 1 (o := 180) rfl) rfl
theorem dX11_tellCuts_34 : decode cX11_tellCuts 34 = .ok (.invokevirtual 317, 3) := dc_182 (gB_c lq_cX11_tellCuts q1_cX11_tellCuts 2 (o := 182) rfl) (gB_c lq_cX11_tellCuts q1_cX11_tellCuts 3 (o := 1) rfl) (gB_c lq_cX11_tellCuts q1_cX11_tellCuts 4 (o := 61) rfl) rfl
theorem dX11_tellCuts_37 : decode cX11_tellCuts 37 = .ok (.iinc 2 1, 3) := dc_132 (gB_c lq_cX11_tellCuts q1_cX11_tellCuts 5 (o := 132) rfl) (gB_c lq_cX11_tellCuts q1_cX11_tellCuts 6 (o := 2) rfl) (gB_c lq_cX11_tellCuts q1_cX11_tellCuts 7 (o := 1) rfl) rfl
theorem dX11_tellCuts_40 : decode cX11_tellCuts 40 = .ok (.goto (-38), 3) := dc_167 (gB_c lq_cX11_tellCuts q1_cX11_tellCuts 8 (o := 167) rfl) (gB_c lq_cX11_tellCuts q1_cX11_tellCuts 9 (o := 255) rfl) (gB_c lq_cX11_tellCuts q1_cX11_tellCuts 10 (o := 218) rfl) rfl
theorem dX11_tellCuts_43 : decode cX11_tellCuts 43 = .ok (.return_, 1) := dc_177 (gB_c lq_cX11_tellCuts q1_cX11_tellCuts 11 (o := 177) rfl)
abbrev r1_cX11_tellLine : List Nat := [0, 18, 16, 61, 182, 1, 64, 42, 180, 0, 18, 29, 182, 1, 61, 177]
def a0_cX11_tellLine : List Nat := [42, 180, 0, 18, 27, 182, 1, 61, 42, 180, 0, 18, 16, 45, 182, 1, 64, 42, 180, 0, 18, 28, 182, 1, 61, 29, 4, 159, 0, 20, 42, 180]
abbrev r0_cX11_tellLine : List Nat := a0_cX11_tellLine ++ r1_cX11_tellLine
theorem lq_cX11_tellLine : (cX11_tellLine).data.toList.map UInt8.toNat = r0_cX11_tellLine := by decide +kernel
theorem q1_cX11_tellLine : ∀ i, (r0_cX11_tellLine)[32 + i]? = (r1_cX11_tellLine)[i]? := chn (A := a0_cX11_tellLine) (B := r1_cX11_tellLine) (n := 0) (k := 32) rfl (ch0 (R := r0_cX11_tellLine))
theorem dX11_tellLine_0 : decode cX11_tellLine 0 = .ok (.aload_n 0, 1) := dc_42 (gB_l lq_cX11_tellLine (p := 0) (o := 42) rfl)
theorem dX11_tellLine_1 : decode cX11_tellLine 1 = .ok (.getfield 18, 3) := dc_180 (gB_l lq_cX11_tellLine (p := 1) (o := 180) rfl) (gB_l lq_cX11_tellLine (p := 2) (o := 0) rfl) (gB_l lq_cX11_tellLine (p := 3) (o := 18) rfl) rfl
theorem dX11_tellLine_4 : decode cX11_tellLine 4 = .ok (.iload_n 1, 1) := dc_27 (gB_l lq_cX11_tellLine (p := 4) (o := 27) rfl)
theorem dX11_tellLine_5 : decode cX11_tellLine 5 = .ok (.invokevirtual 317, 3) := dc_182 (gB_l lq_cX11_tellLine (p := 5) (o := 182) rfl) (gB_l lq_cX11_tellLine (p := 6) (o := 1) rfl) (gB_l lq_cX11_tellLine (p := 7) (o := 61) rfl) rfl
theorem dX11_tellLine_8 : decode cX11_tellLine 8 = .ok (.aload_n 0, 1) := dc_42 (gB_l lq_cX11_tellLine (p := 8) (o := 42) rfl)
theorem dX11_tellLine_9 : decode cX11_tellLine 9 = .ok (.getfield 18, 3) := dc_180 (gB_l lq_cX11_tellLine (p := 9) (o := 180) rfl) (gB_l lq_cX11_tellLine (p := 10) (o := 0) rfl) (gB_l lq_cX11_tellLine (p := 11) (o := 18) rfl) rfl
theorem dX11_tellLine_12 : decode cX11_tellLine 12 = .ok (.bipush 45, 2) := dc_16 (gB_l lq_cX11_tellLine (p := 12) (o := 16) rfl) (gB_l lq_cX11_tellLine (p := 13) (o := 45) rfl) rfl
theorem dX11_tellLine_14 : decode cX11_tellLine 14 = .ok (.invokevirtual 320, 3) := dc_182 (gB_l lq_cX11_tellLine (p := 14) (o := 182) rfl) (gB_l lq_cX11_tellLine (p := 15) (o := 1) rfl) (gB_l lq_cX11_tellLine (p := 16) (o := 64) rfl) rfl
theorem dX11_tellLine_17 : decode cX11_tellLine 17 = .ok (.aload_n 0, 1) := dc_42 (gB_l lq_cX11_tellLine (p := 17) (o := 42) rfl)
theorem dX11_tellLine_18 : decode cX11_tellLine 18 = .ok (.getfield 18, 3) := dc_180 (gB_l lq_cX11_tellLine (p := 18) (o := 180) rfl) (gB_l lq_cX11_tellLine (p := 19) (o := 0) rfl) (gB_l lq_cX11_tellLine (p := 20) (o := 18) rfl) rfl
theorem dX11_tellLine_21 : decode cX11_tellLine 21 = .ok (.iload_n 2, 1) := dc_28 (gB_l lq_cX11_tellLine (p := 21) (o := 28) rfl)
theorem dX11_tellLine_22 : decode cX11_tellLine 22 = .ok (.invokevirtual 317, 3) := dc_182 (gB_l lq_cX11_tellLine (p := 22) (o := 182) rfl) (gB_l lq_cX11_tellLine (p := 23) (o := 1) rfl) (gB_l lq_cX11_tellLine (p := 24) (o := 61) rfl) rfl
theorem dX11_tellLine_25 : decode cX11_tellLine 25 = .ok (.iload_n 3, 1) := dc_29 (gB_l lq_cX11_tellLine (p := 25) (o := 29) rfl)
theorem dX11_tellLine_26 : decode cX11_tellLine 26 = .ok (.iconst 1, 1) := dc_4 (gB_l lq_cX11_tellLine (p := 26) (o := 4) rfl)
theorem dX11_tellLine_27 : decode cX11_tellLine 27 = .ok (.if_icmp .eq 20, 3) := dc_159 (gB_l lq_cX11_tellLine (p := 27) (o := 159) rfl) (gB_l lq_cX11_tellLine (p := 28) (o := 0) rfl) (gB_l lq_cX11_tellLine (p := 29) (o := 20) rfl) rfl
theorem dX11_tellLine_30 : decode cX11_tellLine 30 = .ok (.aload_n 0, 1) := dc_42 (gB_l lq_cX11_tellLine (p := 30) (o := 42) rfl)
theorem dX11_tellLine_31 : decode cX11_tellLine 31 = .ok (.getfield 18, 3) := dc_180 (gB_l lq_cX11_tellLine (p := 31) (o := 180) rfl) (gB_c lq_cX11_tellLine q1_cX11_tellLine 0 (o := 0) rfl) (gB_c lq_cX11_tellLine q1_cX11_tellLine 1 (o := 18) rfl) rfl
theorem dX11_tellLine_34 : decode cX11_tellLine 34 = .ok (.bipush 61, 2) := dc_16 (gB_c lq_cX11_tellLine q1_cX11_tellLine 2 (o := 16) rfl) (gB_c lq_cX11_tellLine q1_cX11_tellLine 3 (o := 61) rfl) rfl
theorem dX11_tellLine_36 : decode cX11_tellLine 36 = .ok (.invokevirtual 320, 3) := dc_182 (gB_c lq_cX11_tellLine q1_cX11_tellLine 4 (o := 182) rfl) (gB_c lq_cX11_tellLine q1_cX11_tellLine 5 (o := 1) rfl) (gB_c lq_cX11_tellLine q1_cX11_tellLine 6 (o := 64) rfl) rfl
theorem dX11_tellLine_39 : decode cX11_tellLine 39 = .ok (.aload_n 0, 1) := dc_42 (gB_c lq_cX11_tellLine q1_cX11_tellLine 7 (o := 42) rfl)
theorem dX11_tellLine_40 : decode cX11_tellLine 40 = .ok (.getfield 18, 3) := dc_180 (gB_c lq_cX11_tellLine q1_cX11_tellLine 8 (o := 180) rfl) (gB_c lq_cX11_tellLine q1_cX11_tellLine 9 (o := 0) rfl) (gB_c lq_cX11_tellLine q1_cX11_tellLine 10 (o := 18) rfl) rfl
theorem dX11_tellLine_43 : decode cX11_tellLine 43 = .ok (.iload_n 3, 1) := dc_29 (gB_c lq_cX11_tellLine q1_cX11_tellLine 11 (o := 29) rfl)
theorem dX11_tellLine_44 : decode cX11_tellLine 44 = .ok (.invokevirtual 317, 3) := dc_182 (gB_c lq_cX11_tellLine q1_cX11_tellLine 12 (o := 182) rfl) (gB_c lq_cX11_tellLine q1_cX11_tellLine 13 (o := 1) rfl) (gB_c lq_cX11_tellLine q1_cX11_tellLine 14 (o := 61) rfl) rfl
theorem dX11_tellLine_47 : decode cX11_tellLine 47 = .ok (.return_, 1) := dc_177 (gB_c lq_cX11_tellLine q1_cX11_tellLine 15 (o := 177) rfl)
abbrev r3_cX11_tellNet : List Nat := [0, 18, 16, 59, 182, 1, 64, 177]
def a2_cX11_tellNet : List Nat := [0, 18, 28, 182, 1, 64, 42, 29, 21, 4, 21, 5, 182, 1, 67, 16, 44, 61, 132, 4, 1, 167, 255, 210, 132, 3, 1, 167, 255, 191, 42, 180]
abbrev r2_cX11_tellNet : List Nat := a2_cX11_tellNet ++ r3_cX11_tellNet
def a1_cX11_tellNet : List Nat := [0, 63, 29, 4, 96, 54, 4, 21, 4, 43, 180, 0, 120, 162, 0, 43, 43, 29, 21, 4, 182, 0, 148, 54, 5, 21, 5, 158, 0, 23, 42, 180]
abbrev r1_cX11_tellNet : List Nat := a1_cX11_tellNet ++ r2_cX11_tellNet
def a0_cX11_tellNet : List Nat := [42, 180, 0, 18, 19, 1, 55, 182, 1, 57, 42, 180, 0, 18, 43, 180, 0, 120, 182, 1, 61, 16, 58, 61, 3, 62, 29, 43, 180, 0, 120, 162]
abbrev r0_cX11_tellNet : List Nat := a0_cX11_tellNet ++ r1_cX11_tellNet
theorem lq_cX11_tellNet : (cX11_tellNet).data.toList.map UInt8.toNat = r0_cX11_tellNet := by decide +kernel
theorem q1_cX11_tellNet : ∀ i, (r0_cX11_tellNet)[32 + i]? = (r1_cX11_tellNet)[i]? := chn (A := a0_cX11_tellNet) (B := r1_cX11_tellNet) (n := 0) (k := 32) rfl (ch0 (R := r0_cX11_tellNet))
theorem q2_cX11_tellNet : ∀ i, (r0_cX11_tellNet)[64 + i]? = (r2_cX11_tellNet)[i]? := chn (A := a1_cX11_tellNet) (B := r2_cX11_tellNet) (n := 32) (k := 32) rfl q1_cX11_tellNet
theorem q3_cX11_tellNet : ∀ i, (r0_cX11_tellNet)[96 + i]? = (r3_cX11_tellNet)[i]? := chn (A := a2_cX11_tellNet) (B := r3_cX11_tellNet) (n := 64) (k := 32) rfl q2_cX11_tellNet
theorem dX11_tellNet_0 : decode cX11_tellNet 0 = .ok (.aload_n 0, 1) := dc_42 (gB_l lq_cX11_tellNet (p := 0) (o := 42) rfl)
theorem dX11_tellNet_1 : decode cX11_tellNet 1 = .ok (.getfield 18, 3) := dc_180 (gB_l lq_cX11_tellNet (p := 1) (o := 180) rfl) (gB_l lq_cX11_tellNet (p := 2) (o := 0) rfl) (gB_l lq_cX11_tellNet (p := 3) (o := 18) rfl) rfl
theorem dX11_tellNet_4 : decode cX11_tellNet 4 = .ok (.ldc_w 311, 3) := dc_19 (gB_l lq_cX11_tellNet (p := 4) (o := 19) rfl) (gB_l lq_cX11_tellNet (p := 5) (o := 1) rfl) (gB_l lq_cX11_tellNet (p := 6) (o := 55) rfl) rfl
theorem dX11_tellNet_7 : decode cX11_tellNet 7 = .ok (.invokevirtual 313, 3) := dc_182 (gB_l lq_cX11_tellNet (p := 7) (o := 182) rfl) (gB_l lq_cX11_tellNet (p := 8) (o := 1) rfl) (gB_l lq_cX11_tellNet (p := 9) (o := 57) rfl) rfl
theorem dX11_tellNet_10 : decode cX11_tellNet 10 = .ok (.aload_n 0, 1) := dc_42 (gB_l lq_cX11_tellNet (p := 10) (o := 42) rfl)
theorem dX11_tellNet_11 : decode cX11_tellNet 11 = .ok (.getfield 18, 3) := dc_180 (gB_l lq_cX11_tellNet (p := 11) (o := 180) rfl) (gB_l lq_cX11_tellNet (p := 12) (o := 0) rfl) (gB_l lq_cX11_tellNet (p := 13) (o := 18) rfl) rfl
theorem dX11_tellNet_14 : decode cX11_tellNet 14 = .ok (.aload_n 1, 1) := dc_43 (gB_l lq_cX11_tellNet (p := 14) (o := 43) rfl)
theorem dX11_tellNet_15 : decode cX11_tellNet 15 = .ok (.getfield 120, 3) := dc_180 (gB_l lq_cX11_tellNet (p := 15) (o := 180) rfl) (gB_l lq_cX11_tellNet (p := 16) (o := 0) rfl) (gB_l lq_cX11_tellNet (p := 17) (o := 120) rfl) rfl
theorem dX11_tellNet_18 : decode cX11_tellNet 18 = .ok (.invokevirtual 317, 3) := dc_182 (gB_l lq_cX11_tellNet (p := 18) (o := 182) rfl) (gB_l lq_cX11_tellNet (p := 19) (o := 1) rfl) (gB_l lq_cX11_tellNet (p := 20) (o := 61) rfl) rfl
theorem dX11_tellNet_21 : decode cX11_tellNet 21 = .ok (.bipush 58, 2) := dc_16 (gB_l lq_cX11_tellNet (p := 21) (o := 16) rfl) (gB_l lq_cX11_tellNet (p := 22) (o := 58) rfl) rfl
theorem dX11_tellNet_23 : decode cX11_tellNet 23 = .ok (.istore_n 2, 1) := dc_61 (gB_l lq_cX11_tellNet (p := 23) (o := 61) rfl)
theorem dX11_tellNet_24 : decode cX11_tellNet 24 = .ok (.iconst 0, 1) := dc_3 (gB_l lq_cX11_tellNet (p := 24) (o := 3) rfl)
theorem dX11_tellNet_25 : decode cX11_tellNet 25 = .ok (.istore_n 3, 1) := dc_62 (gB_l lq_cX11_tellNet (p := 25) (o := 62) rfl)
theorem dX11_tellNet_26 : decode cX11_tellNet 26 = .ok (.iload_n 3, 1) := dc_29 (gB_l lq_cX11_tellNet (p := 26) (o := 29) rfl)
theorem dX11_tellNet_27 : decode cX11_tellNet 27 = .ok (.aload_n 1, 1) := dc_43 (gB_l lq_cX11_tellNet (p := 27) (o := 43) rfl)
theorem dX11_tellNet_28 : decode cX11_tellNet 28 = .ok (.getfield 120, 3) := dc_180 (gB_l lq_cX11_tellNet (p := 28) (o := 180) rfl) (gB_l lq_cX11_tellNet (p := 29) (o := 0) rfl) (gB_l lq_cX11_tellNet (p := 30) (o := 120) rfl) rfl
theorem dX11_tellNet_31 : decode cX11_tellNet 31 = .ok (.if_icmp .ge 63, 3) := dc_162 (gB_l lq_cX11_tellNet (p := 31) (o := 162) rfl) (gB_c lq_cX11_tellNet q1_cX11_tellNet 0 (o := 0) rfl) (gB_c lq_cX11_tellNet q1_cX11_tellNet 1 (o := 63) rfl) rfl
theorem dX11_tellNet_34 : decode cX11_tellNet 34 = .ok (.iload_n 3, 1) := dc_29 (gB_c lq_cX11_tellNet q1_cX11_tellNet 2 (o := 29) rfl)
theorem dX11_tellNet_35 : decode cX11_tellNet 35 = .ok (.iconst 1, 1) := dc_4 (gB_c lq_cX11_tellNet q1_cX11_tellNet 3 (o := 4) rfl)
theorem dX11_tellNet_36 : decode cX11_tellNet 36 = .ok (.iadd, 1) := dc_96 (gB_c lq_cX11_tellNet q1_cX11_tellNet 4 (o := 96) rfl)
theorem dX11_tellNet_37 : decode cX11_tellNet 37 = .ok (.istore 4, 2) := dc_54 (gB_c lq_cX11_tellNet q1_cX11_tellNet 5 (o := 54) rfl) (gB_c lq_cX11_tellNet q1_cX11_tellNet 6 (o := 4) rfl)
theorem dX11_tellNet_39 : decode cX11_tellNet 39 = .ok (.iload 4, 2) := dc_21 (gB_c lq_cX11_tellNet q1_cX11_tellNet 7 (o := 21) rfl) (gB_c lq_cX11_tellNet q1_cX11_tellNet 8 (o := 4) rfl)
theorem dX11_tellNet_41 : decode cX11_tellNet 41 = .ok (.aload_n 1, 1) := dc_43 (gB_c lq_cX11_tellNet q1_cX11_tellNet 9 (o := 43) rfl)
theorem dX11_tellNet_42 : decode cX11_tellNet 42 = .ok (.getfield 120, 3) := dc_180 (gB_c lq_cX11_tellNet q1_cX11_tellNet 10 (o := 180) rfl) (gB_c lq_cX11_tellNet q1_cX11_tellNet 11 (o := 0) rfl) (gB_c lq_cX11_tellNet q1_cX11_tellNet 12 (o := 120) rfl) rfl
theorem dX11_tellNet_45 : decode cX11_tellNet 45 = .ok (.if_icmp .ge 43, 3) := dc_162 (gB_c lq_cX11_tellNet q1_cX11_tellNet 13 (o := 162) rfl) (gB_c lq_cX11_tellNet q1_cX11_tellNet 14 (o := 0) rfl) (gB_c lq_cX11_tellNet q1_cX11_tellNet 15 (o := 43) rfl) rfl
theorem dX11_tellNet_48 : decode cX11_tellNet 48 = .ok (.aload_n 1, 1) := dc_43 (gB_c lq_cX11_tellNet q1_cX11_tellNet 16 (o := 43) rfl)
theorem dX11_tellNet_49 : decode cX11_tellNet 49 = .ok (.iload_n 3, 1) := dc_29 (gB_c lq_cX11_tellNet q1_cX11_tellNet 17 (o := 29) rfl)
theorem dX11_tellNet_50 : decode cX11_tellNet 50 = .ok (.iload 4, 2) := dc_21 (gB_c lq_cX11_tellNet q1_cX11_tellNet 18 (o := 21) rfl) (gB_c lq_cX11_tellNet q1_cX11_tellNet 19 (o := 4) rfl)
theorem dX11_tellNet_52 : decode cX11_tellNet 52 = .ok (.invokevirtual 148, 3) := dc_182 (gB_c lq_cX11_tellNet q1_cX11_tellNet 20 (o := 182) rfl) (gB_c lq_cX11_tellNet q1_cX11_tellNet 21 (o := 0) rfl) (gB_c lq_cX11_tellNet q1_cX11_tellNet 22 (o := 148) rfl) rfl
theorem dX11_tellNet_55 : decode cX11_tellNet 55 = .ok (.istore 5, 2) := dc_54 (gB_c lq_cX11_tellNet q1_cX11_tellNet 23 (o := 54) rfl) (gB_c lq_cX11_tellNet q1_cX11_tellNet 24 (o := 5) rfl)
theorem dX11_tellNet_57 : decode cX11_tellNet 57 = .ok (.iload 5, 2) := dc_21 (gB_c lq_cX11_tellNet q1_cX11_tellNet 25 (o := 21) rfl) (gB_c lq_cX11_tellNet q1_cX11_tellNet 26 (o := 5) rfl)
theorem dX11_tellNet_59 : decode cX11_tellNet 59 = .ok (.ifCond .le 23, 3) := dc_158 (gB_c lq_cX11_tellNet q1_cX11_tellNet 27 (o := 158) rfl) (gB_c lq_cX11_tellNet q1_cX11_tellNet 28 (o := 0) rfl) (gB_c lq_cX11_tellNet q1_cX11_tellNet 29 (o := 23) rfl) rfl
theorem dX11_tellNet_62 : decode cX11_tellNet 62 = .ok (.aload_n 0, 1) := dc_42 (gB_c lq_cX11_tellNet q1_cX11_tellNet 30 (o := 42) rfl)
theorem dX11_tellNet_63 : decode cX11_tellNet 63 = .ok (.getfield 18, 3) := dc_180 (gB_c lq_cX11_tellNet q1_cX11_tellNet 31 (o := 180) rfl) (gB_c lq_cX11_tellNet q2_cX11_tellNet 0 (o := 0) rfl) (gB_c lq_cX11_tellNet q2_cX11_tellNet 1 (o := 18) rfl) rfl
theorem dX11_tellNet_66 : decode cX11_tellNet 66 = .ok (.iload_n 2, 1) := dc_28 (gB_c lq_cX11_tellNet q2_cX11_tellNet 2 (o := 28) rfl)
theorem dX11_tellNet_67 : decode cX11_tellNet 67 = .ok (.invokevirtual 320, 3) := dc_182 (gB_c lq_cX11_tellNet q2_cX11_tellNet 3 (o := 182) rfl) (gB_c lq_cX11_tellNet q2_cX11_tellNet 4 (o := 1) rfl) (gB_c lq_cX11_tellNet q2_cX11_tellNet 5 (o := 64) rfl) rfl
theorem dX11_tellNet_70 : decode cX11_tellNet 70 = .ok (.aload_n 0, 1) := dc_42 (gB_c lq_cX11_tellNet q2_cX11_tellNet 6 (o := 42) rfl)
theorem dX11_tellNet_71 : decode cX11_tellNet 71 = .ok (.iload_n 3, 1) := dc_29 (gB_c lq_cX11_tellNet q2_cX11_tellNet 7 (o := 29) rfl)
theorem dX11_tellNet_72 : decode cX11_tellNet 72 = .ok (.iload 4, 2) := dc_21 (gB_c lq_cX11_tellNet q2_cX11_tellNet 8 (o := 21) rfl) (gB_c lq_cX11_tellNet q2_cX11_tellNet 9 (o := 4) rfl)
theorem dX11_tellNet_74 : decode cX11_tellNet 74 = .ok (.iload 5, 2) := dc_21 (gB_c lq_cX11_tellNet q2_cX11_tellNet 10 (o := 21) rfl) (gB_c lq_cX11_tellNet q2_cX11_tellNet 11 (o := 5) rfl)
theorem dX11_tellNet_76 : decode cX11_tellNet 76 = .ok (.invokevirtual 323, 3) := dc_182 (gB_c lq_cX11_tellNet q2_cX11_tellNet 12 (o := 182) rfl) (gB_c lq_cX11_tellNet q2_cX11_tellNet 13 (o := 1) rfl) (gB_c lq_cX11_tellNet q2_cX11_tellNet 14 (o := 67) rfl) rfl
theorem dX11_tellNet_79 : decode cX11_tellNet 79 = .ok (.bipush 44, 2) := dc_16 (gB_c lq_cX11_tellNet q2_cX11_tellNet 15 (o := 16) rfl) (gB_c lq_cX11_tellNet q2_cX11_tellNet 16 (o := 44) rfl) rfl
theorem dX11_tellNet_81 : decode cX11_tellNet 81 = .ok (.istore_n 2, 1) := dc_61 (gB_c lq_cX11_tellNet q2_cX11_tellNet 17 (o := 61) rfl)
theorem dX11_tellNet_82 : decode cX11_tellNet 82 = .ok (.iinc 4 1, 3) := dc_132 (gB_c lq_cX11_tellNet q2_cX11_tellNet 18 (o := 132) rfl) (gB_c lq_cX11_tellNet q2_cX11_tellNet 19 (o := 4) rfl) (gB_c lq_cX11_tellNet q2_cX11_tellNet 20 (o := 1) rfl) rfl
theorem dX11_tellNet_85 : decode cX11_tellNet 85 = .ok (.goto (-46), 3) := dc_167 (gB_c lq_cX11_tellNet q2_cX11_tellNet 21 (o := 167) rfl) (gB_c lq_cX11_tellNet q2_cX11_tellNet 22 (o := 255) rfl) (gB_c lq_cX11_tellNet q2_cX11_tellNet 23 (o := 210) rfl) rfl
theorem dX11_tellNet_88 : decode cX11_tellNet 88 = .ok (.iinc 3 1, 3) := dc_132 (gB_c lq_cX11_tellNet q2_cX11_tellNet 24 (o := 132) rfl) (gB_c lq_cX11_tellNet q2_cX11_tellNet 25 (o := 3) rfl) (gB_c lq_cX11_tellNet q2_cX11_tellNet 26 (o := 1) rfl) rfl
theorem dX11_tellNet_91 : decode cX11_tellNet 91 = .ok (.goto (-65), 3) := dc_167 (gB_c lq_cX11_tellNet q2_cX11_tellNet 27 (o := 167) rfl) (gB_c lq_cX11_tellNet q2_cX11_tellNet 28 (o := 255) rfl) (gB_c lq_cX11_tellNet q2_cX11_tellNet 29 (o := 191) rfl) rfl
theorem dX11_tellNet_94 : decode cX11_tellNet 94 = .ok (.aload_n 0, 1) := dc_42 (gB_c lq_cX11_tellNet q2_cX11_tellNet 30 (o := 42) rfl)
theorem dX11_tellNet_95 : decode cX11_tellNet 95 = .ok (.getfield 18, 3) := dc_180 (gB_c lq_cX11_tellNet q2_cX11_tellNet 31 (o := 180) rfl) (gB_c lq_cX11_tellNet q3_cX11_tellNet 0 (o := 0) rfl) (gB_c lq_cX11_tellNet q3_cX11_tellNet 1 (o := 18) rfl) rfl
theorem dX11_tellNet_98 : decode cX11_tellNet 98 = .ok (.bipush 59, 2) := dc_16 (gB_c lq_cX11_tellNet q3_cX11_tellNet 2 (o := 16) rfl) (gB_c lq_cX11_tellNet q3_cX11_tellNet 3 (o := 59) rfl) rfl
theorem dX11_tellNet_100 : decode cX11_tellNet 100 = .ok (.invokevirtual 320, 3) := dc_182 (gB_c lq_cX11_tellNet q3_cX11_tellNet 4 (o := 182) rfl) (gB_c lq_cX11_tellNet q3_cX11_tellNet 5 (o := 1) rfl) (gB_c lq_cX11_tellNet q3_cX11_tellNet 6 (o := 64) rfl) rfl
theorem dX11_tellNet_103 : decode cX11_tellNet 103 = .ok (.return_, 1) := dc_177 (gB_c lq_cX11_tellNet q3_cX11_tellNet 7 (o := 177) rfl)
abbrev r1_cX11_tellRow : List Nat := [61, 132, 2, 1, 167, 255, 232, 42, 180, 0, 18, 16, 59, 182, 1, 64, 177]
def a0_cX11_tellRow : List Nat := [42, 180, 0, 18, 19, 1, 70, 182, 1, 57, 3, 61, 28, 43, 180, 0, 120, 162, 0, 22, 42, 180, 0, 18, 43, 180, 0, 156, 28, 46, 182, 1]
abbrev r0_cX11_tellRow : List Nat := a0_cX11_tellRow ++ r1_cX11_tellRow
theorem lq_cX11_tellRow : (cX11_tellRow).data.toList.map UInt8.toNat = r0_cX11_tellRow := by decide +kernel
theorem q1_cX11_tellRow : ∀ i, (r0_cX11_tellRow)[32 + i]? = (r1_cX11_tellRow)[i]? := chn (A := a0_cX11_tellRow) (B := r1_cX11_tellRow) (n := 0) (k := 32) rfl (ch0 (R := r0_cX11_tellRow))
theorem dX11_tellRow_0 : decode cX11_tellRow 0 = .ok (.aload_n 0, 1) := dc_42 (gB_l lq_cX11_tellRow (p := 0) (o := 42) rfl)
theorem dX11_tellRow_1 : decode cX11_tellRow 1 = .ok (.getfield 18, 3) := dc_180 (gB_l lq_cX11_tellRow (p := 1) (o := 180) rfl) (gB_l lq_cX11_tellRow (p := 2) (o := 0) rfl) (gB_l lq_cX11_tellRow (p := 3) (o := 18) rfl) rfl
theorem dX11_tellRow_4 : decode cX11_tellRow 4 = .ok (.ldc_w 326, 3) := dc_19 (gB_l lq_cX11_tellRow (p := 4) (o := 19) rfl) (gB_l lq_cX11_tellRow (p := 5) (o := 1) rfl) (gB_l lq_cX11_tellRow (p := 6) (o := 70) rfl) rfl
theorem dX11_tellRow_7 : decode cX11_tellRow 7 = .ok (.invokevirtual 313, 3) := dc_182 (gB_l lq_cX11_tellRow (p := 7) (o := 182) rfl) (gB_l lq_cX11_tellRow (p := 8) (o := 1) rfl) (gB_l lq_cX11_tellRow (p := 9) (o := 57) rfl) rfl
theorem dX11_tellRow_10 : decode cX11_tellRow 10 = .ok (.iconst 0, 1) := dc_3 (gB_l lq_cX11_tellRow (p := 10) (o := 3) rfl)
theorem dX11_tellRow_11 : decode cX11_tellRow 11 = .ok (.istore_n 2, 1) := dc_61 (gB_l lq_cX11_tellRow (p := 11) (o := 61) rfl)
theorem dX11_tellRow_12 : decode cX11_tellRow 12 = .ok (.iload_n 2, 1) := dc_28 (gB_l lq_cX11_tellRow (p := 12) (o := 28) rfl)
theorem dX11_tellRow_13 : decode cX11_tellRow 13 = .ok (.aload_n 1, 1) := dc_43 (gB_l lq_cX11_tellRow (p := 13) (o := 43) rfl)
theorem dX11_tellRow_14 : decode cX11_tellRow 14 = .ok (.getfield 120, 3) := dc_180 (gB_l lq_cX11_tellRow (p := 14) (o := 180) rfl) (gB_l lq_cX11_tellRow (p := 15) (o := 0) rfl) (gB_l lq_cX11_tellRow (p := 16) (o := 120) rfl) rfl
theorem dX11_tellRow_17 : decode cX11_tellRow 17 = .ok (.if_icmp .ge 22, 3) := dc_162 (gB_l lq_cX11_tellRow (p := 17) (o := 162) rfl) (gB_l lq_cX11_tellRow (p := 18) (o := 0) rfl) (gB_l lq_cX11_tellRow (p := 19) (o := 22) rfl) rfl
theorem dX11_tellRow_20 : decode cX11_tellRow 20 = .ok (.aload_n 0, 1) := dc_42 (gB_l lq_cX11_tellRow (p := 20) (o := 42) rfl)
theorem dX11_tellRow_21 : decode cX11_tellRow 21 = .ok (.getfield 18, 3) := dc_180 (gB_l lq_cX11_tellRow (p := 21) (o := 180) rfl) (gB_l lq_cX11_tellRow (p := 22) (o := 0) rfl) (gB_l lq_cX11_tellRow (p := 23) (o := 18) rfl) rfl
theorem dX11_tellRow_24 : decode cX11_tellRow 24 = .ok (.aload_n 1, 1) := dc_43 (gB_l lq_cX11_tellRow (p := 24) (o := 43) rfl)
theorem dX11_tellRow_25 : decode cX11_tellRow 25 = .ok (.getfield 156, 3) := dc_180 (gB_l lq_cX11_tellRow (p := 25) (o := 180) rfl) (gB_l lq_cX11_tellRow (p := 26) (o := 0) rfl) (gB_l lq_cX11_tellRow (p := 27) (o := 156) rfl) rfl
theorem dX11_tellRow_28 : decode cX11_tellRow 28 = .ok (.iload_n 2, 1) := dc_28 (gB_l lq_cX11_tellRow (p := 28) (o := 28) rfl)
theorem dX11_tellRow_29 : decode cX11_tellRow 29 = .ok (.iaload, 1) := dc_46 (gB_l lq_cX11_tellRow (p := 29) (o := 46) rfl)
theorem dX11_tellRow_30 : decode cX11_tellRow 30 = .ok (.invokevirtual 317, 3) := dc_182 (gB_l lq_cX11_tellRow (p := 30) (o := 182) rfl) (gB_l lq_cX11_tellRow (p := 31) (o := 1) rfl) (gB_c lq_cX11_tellRow q1_cX11_tellRow 0 (o := 61) rfl) rfl
theorem dX11_tellRow_33 : decode cX11_tellRow 33 = .ok (.iinc 2 1, 3) := dc_132 (gB_c lq_cX11_tellRow q1_cX11_tellRow 1 (o := 132) rfl) (gB_c lq_cX11_tellRow q1_cX11_tellRow 2 (o := 2) rfl) (gB_c lq_cX11_tellRow q1_cX11_tellRow 3 (o := 1) rfl) rfl
theorem dX11_tellRow_36 : decode cX11_tellRow 36 = .ok (.goto (-24), 3) := dc_167 (gB_c lq_cX11_tellRow q1_cX11_tellRow 4 (o := 167) rfl) (gB_c lq_cX11_tellRow q1_cX11_tellRow 5 (o := 255) rfl) (gB_c lq_cX11_tellRow q1_cX11_tellRow 6 (o := 232) rfl) rfl
theorem dX11_tellRow_39 : decode cX11_tellRow 39 = .ok (.aload_n 0, 1) := dc_42 (gB_c lq_cX11_tellRow q1_cX11_tellRow 7 (o := 42) rfl)
theorem dX11_tellRow_40 : decode cX11_tellRow 40 = .ok (.getfield 18, 3) := dc_180 (gB_c lq_cX11_tellRow q1_cX11_tellRow 8 (o := 180) rfl) (gB_c lq_cX11_tellRow q1_cX11_tellRow 9 (o := 0) rfl) (gB_c lq_cX11_tellRow q1_cX11_tellRow 10 (o := 18) rfl) rfl
theorem dX11_tellRow_43 : decode cX11_tellRow 43 = .ok (.bipush 59, 2) := dc_16 (gB_c lq_cX11_tellRow q1_cX11_tellRow 11 (o := 16) rfl) (gB_c lq_cX11_tellRow q1_cX11_tellRow 12 (o := 59) rfl) rfl
theorem dX11_tellRow_45 : decode cX11_tellRow 45 = .ok (.invokevirtual 320, 3) := dc_182 (gB_c lq_cX11_tellRow q1_cX11_tellRow 13 (o := 182) rfl) (gB_c lq_cX11_tellRow q1_cX11_tellRow 14 (o := 1) rfl) (gB_c lq_cX11_tellRow q1_cX11_tellRow 15 (o := 64) rfl) rfl
theorem dX11_tellRow_48 : decode cX11_tellRow 48 = .ok (.return_, 1) := dc_177 (gB_c lq_cX11_tellRow q1_cX11_tellRow 16 (o := 177) rfl)
abbrev r2_cX11_told : List Nat := [45, 180, 0, 100, 172]
def a1_cX11_told : List Nat := [172, 42, 180, 0, 32, 27, 50, 78, 42, 180, 0, 65, 45, 182, 0, 90, 45, 42, 180, 0, 26, 180, 0, 94, 182, 0, 90, 42, 27, 182, 0, 97]
abbrev r1_cX11_told : List Nat := a1_cX11_told ++ r2_cX11_told
def a0_cX11_told : List Nat := [27, 184, 0, 83, 154, 0, 6, 16, 254, 172, 42, 180, 0, 26, 182, 0, 86, 61, 42, 180, 0, 14, 3, 181, 0, 79, 28, 154, 0, 6, 16, 252]
abbrev r0_cX11_told : List Nat := a0_cX11_told ++ r1_cX11_told
theorem lq_cX11_told : (cX11_told).data.toList.map UInt8.toNat = r0_cX11_told := by decide +kernel
theorem q1_cX11_told : ∀ i, (r0_cX11_told)[32 + i]? = (r1_cX11_told)[i]? := chn (A := a0_cX11_told) (B := r1_cX11_told) (n := 0) (k := 32) rfl (ch0 (R := r0_cX11_told))
theorem q2_cX11_told : ∀ i, (r0_cX11_told)[64 + i]? = (r2_cX11_told)[i]? := chn (A := a1_cX11_told) (B := r2_cX11_told) (n := 32) (k := 32) rfl q1_cX11_told
theorem dX11_told_0 : decode cX11_told 0 = .ok (.iload_n 1, 1) := dc_27 (gB_l lq_cX11_told (p := 0) (o := 27) rfl)
theorem dX11_told_1 : decode cX11_told 1 = .ok (.invokestatic 83, 3) := dc_184 (gB_l lq_cX11_told (p := 1) (o := 184) rfl) (gB_l lq_cX11_told (p := 2) (o := 0) rfl) (gB_l lq_cX11_told (p := 3) (o := 83) rfl) rfl
theorem dX11_told_4 : decode cX11_told 4 = .ok (.ifCond .ne 6, 3) := dc_154 (gB_l lq_cX11_told (p := 4) (o := 154) rfl) (gB_l lq_cX11_told (p := 5) (o := 0) rfl) (gB_l lq_cX11_told (p := 6) (o := 6) rfl) rfl
theorem dX11_told_7 : decode cX11_told 7 = .ok (.bipush (-2), 2) := dc_16 (gB_l lq_cX11_told (p := 7) (o := 16) rfl) (gB_l lq_cX11_told (p := 8) (o := 254) rfl) rfl
theorem dX11_told_9 : decode cX11_told 9 = .ok (.ireturn, 1) := dc_172 (gB_l lq_cX11_told (p := 9) (o := 172) rfl)
theorem dX11_told_10 : decode cX11_told 10 = .ok (.aload_n 0, 1) := dc_42 (gB_l lq_cX11_told (p := 10) (o := 42) rfl)
theorem dX11_told_11 : decode cX11_told 11 = .ok (.getfield 26, 3) := dc_180 (gB_l lq_cX11_told (p := 11) (o := 180) rfl) (gB_l lq_cX11_told (p := 12) (o := 0) rfl) (gB_l lq_cX11_told (p := 13) (o := 26) rfl) rfl
theorem dX11_told_14 : decode cX11_told 14 = .ok (.invokevirtual 86, 3) := dc_182 (gB_l lq_cX11_told (p := 14) (o := 182) rfl) (gB_l lq_cX11_told (p := 15) (o := 0) rfl) (gB_l lq_cX11_told (p := 16) (o := 86) rfl) rfl
theorem dX11_told_17 : decode cX11_told 17 = .ok (.istore_n 2, 1) := dc_61 (gB_l lq_cX11_told (p := 17) (o := 61) rfl)
theorem dX11_told_18 : decode cX11_told 18 = .ok (.aload_n 0, 1) := dc_42 (gB_l lq_cX11_told (p := 18) (o := 42) rfl)
theorem dX11_told_19 : decode cX11_told 19 = .ok (.getfield 14, 3) := dc_180 (gB_l lq_cX11_told (p := 19) (o := 180) rfl) (gB_l lq_cX11_told (p := 20) (o := 0) rfl) (gB_l lq_cX11_told (p := 21) (o := 14) rfl) rfl
theorem dX11_told_22 : decode cX11_told 22 = .ok (.iconst 0, 1) := dc_3 (gB_l lq_cX11_told (p := 22) (o := 3) rfl)
theorem dX11_told_23 : decode cX11_told 23 = .ok (.putfield 79, 3) := dc_181 (gB_l lq_cX11_told (p := 23) (o := 181) rfl) (gB_l lq_cX11_told (p := 24) (o := 0) rfl) (gB_l lq_cX11_told (p := 25) (o := 79) rfl) rfl
theorem dX11_told_26 : decode cX11_told 26 = .ok (.iload_n 2, 1) := dc_28 (gB_l lq_cX11_told (p := 26) (o := 28) rfl)
theorem dX11_told_27 : decode cX11_told 27 = .ok (.ifCond .ne 6, 3) := dc_154 (gB_l lq_cX11_told (p := 27) (o := 154) rfl) (gB_l lq_cX11_told (p := 28) (o := 0) rfl) (gB_l lq_cX11_told (p := 29) (o := 6) rfl) rfl
theorem dX11_told_30 : decode cX11_told 30 = .ok (.bipush (-4), 2) := dc_16 (gB_l lq_cX11_told (p := 30) (o := 16) rfl) (gB_l lq_cX11_told (p := 31) (o := 252) rfl) rfl
theorem dX11_told_32 : decode cX11_told 32 = .ok (.ireturn, 1) := dc_172 (gB_c lq_cX11_told q1_cX11_told 0 (o := 172) rfl)
theorem dX11_told_33 : decode cX11_told 33 = .ok (.aload_n 0, 1) := dc_42 (gB_c lq_cX11_told q1_cX11_told 1 (o := 42) rfl)
theorem dX11_told_34 : decode cX11_told 34 = .ok (.getfield 32, 3) := dc_180 (gB_c lq_cX11_told q1_cX11_told 2 (o := 180) rfl) (gB_c lq_cX11_told q1_cX11_told 3 (o := 0) rfl) (gB_c lq_cX11_told q1_cX11_told 4 (o := 32) rfl) rfl
theorem dX11_told_37 : decode cX11_told 37 = .ok (.iload_n 1, 1) := dc_27 (gB_c lq_cX11_told q1_cX11_told 5 (o := 27) rfl)
theorem dX11_told_38 : decode cX11_told 38 = .ok (.aaload, 1) := dc_50 (gB_c lq_cX11_told q1_cX11_told 6 (o := 50) rfl)
theorem dX11_told_39 : decode cX11_told 39 = .ok (.astore_n 3, 1) := dc_78 (gB_c lq_cX11_told q1_cX11_told 7 (o := 78) rfl)
theorem dX11_told_40 : decode cX11_told 40 = .ok (.aload_n 0, 1) := dc_42 (gB_c lq_cX11_told q1_cX11_told 8 (o := 42) rfl)
theorem dX11_told_41 : decode cX11_told 41 = .ok (.getfield 65, 3) := dc_180 (gB_c lq_cX11_told q1_cX11_told 9 (o := 180) rfl) (gB_c lq_cX11_told q1_cX11_told 10 (o := 0) rfl) (gB_c lq_cX11_told q1_cX11_told 11 (o := 65) rfl) rfl
theorem dX11_told_44 : decode cX11_told 44 = .ok (.aload_n 3, 1) := dc_45 (gB_c lq_cX11_told q1_cX11_told 12 (o := 45) rfl)
theorem dX11_told_45 : decode cX11_told 45 = .ok (.invokevirtual 90, 3) := dc_182 (gB_c lq_cX11_told q1_cX11_told 13 (o := 182) rfl) (gB_c lq_cX11_told q1_cX11_told 14 (o := 0) rfl) (gB_c lq_cX11_told q1_cX11_told 15 (o := 90) rfl) rfl
theorem dX11_told_48 : decode cX11_told 48 = .ok (.aload_n 3, 1) := dc_45 (gB_c lq_cX11_told q1_cX11_told 16 (o := 45) rfl)
theorem dX11_told_49 : decode cX11_told 49 = .ok (.aload_n 0, 1) := dc_42 (gB_c lq_cX11_told q1_cX11_told 17 (o := 42) rfl)
theorem dX11_told_50 : decode cX11_told 50 = .ok (.getfield 26, 3) := dc_180 (gB_c lq_cX11_told q1_cX11_told 18 (o := 180) rfl) (gB_c lq_cX11_told q1_cX11_told 19 (o := 0) rfl) (gB_c lq_cX11_told q1_cX11_told 20 (o := 26) rfl) rfl
theorem dX11_told_53 : decode cX11_told 53 = .ok (.getfield 94, 3) := dc_180 (gB_c lq_cX11_told q1_cX11_told 21 (o := 180) rfl) (gB_c lq_cX11_told q1_cX11_told 22 (o := 0) rfl) (gB_c lq_cX11_told q1_cX11_told 23 (o := 94) rfl) rfl
theorem dX11_told_56 : decode cX11_told 56 = .ok (.invokevirtual 90, 3) := dc_182 (gB_c lq_cX11_told q1_cX11_told 24 (o := 182) rfl) (gB_c lq_cX11_told q1_cX11_told 25 (o := 0) rfl) (gB_c lq_cX11_told q1_cX11_told 26 (o := 90) rfl) rfl
theorem dX11_told_59 : decode cX11_told 59 = .ok (.aload_n 0, 1) := dc_42 (gB_c lq_cX11_told q1_cX11_told 27 (o := 42) rfl)
theorem dX11_told_60 : decode cX11_told 60 = .ok (.iload_n 1, 1) := dc_27 (gB_c lq_cX11_told q1_cX11_told 28 (o := 27) rfl)
theorem dX11_told_61 : decode cX11_told 61 = .ok (.invokevirtual 97, 3) := dc_182 (gB_c lq_cX11_told q1_cX11_told 29 (o := 182) rfl) (gB_c lq_cX11_told q1_cX11_told 30 (o := 0) rfl) (gB_c lq_cX11_told q1_cX11_told 31 (o := 97) rfl) rfl
theorem dX11_told_64 : decode cX11_told 64 = .ok (.aload_n 3, 1) := dc_45 (gB_c lq_cX11_told q2_cX11_told 0 (o := 45) rfl)
theorem dX11_told_65 : decode cX11_told 65 = .ok (.getfield 100, 3) := dc_180 (gB_c lq_cX11_told q2_cX11_told 1 (o := 180) rfl) (gB_c lq_cX11_told q2_cX11_told 2 (o := 0) rfl) (gB_c lq_cX11_told q2_cX11_told 3 (o := 100) rfl) rfl
theorem dX11_told_68 : decode cX11_told 68 = .ok (.ireturn, 1) := dc_172 (gB_c lq_cX11_told q2_cX11_told 4 (o := 172) rfl)
abbrev r0_cX11_undo : List Nat := [42, 180, 0, 61, 180, 0, 113, 154, 0, 5, 2, 172, 42, 180, 0, 61, 42, 180, 0, 32, 182, 1, 39, 42, 180, 0, 61, 180, 0, 113, 172]
theorem lq_cX11_undo : (cX11_undo).data.toList.map UInt8.toNat = r0_cX11_undo := by decide +kernel
theorem dX11_undo_0 : decode cX11_undo 0 = .ok (.aload_n 0, 1) := dc_42 (gB_l lq_cX11_undo (p := 0) (o := 42) rfl)
theorem dX11_undo_1 : decode cX11_undo 1 = .ok (.getfield 61, 3) := dc_180 (gB_l lq_cX11_undo (p := 1) (o := 180) rfl) (gB_l lq_cX11_undo (p := 2) (o := 0) rfl) (gB_l lq_cX11_undo (p := 3) (o := 61) rfl) rfl
theorem dX11_undo_4 : decode cX11_undo 4 = .ok (.getfield 113, 3) := dc_180 (gB_l lq_cX11_undo (p := 4) (o := 180) rfl) (gB_l lq_cX11_undo (p := 5) (o := 0) rfl) (gB_l lq_cX11_undo (p := 6) (o := 113) rfl) rfl
theorem dX11_undo_7 : decode cX11_undo 7 = .ok (.ifCond .ne 5, 3) := dc_154 (gB_l lq_cX11_undo (p := 7) (o := 154) rfl) (gB_l lq_cX11_undo (p := 8) (o := 0) rfl) (gB_l lq_cX11_undo (p := 9) (o := 5) rfl) rfl
theorem dX11_undo_10 : decode cX11_undo 10 = .ok (.iconst (-1), 1) := dc_2 (gB_l lq_cX11_undo (p := 10) (o := 2) rfl)
theorem dX11_undo_11 : decode cX11_undo 11 = .ok (.ireturn, 1) := dc_172 (gB_l lq_cX11_undo (p := 11) (o := 172) rfl)
theorem dX11_undo_12 : decode cX11_undo 12 = .ok (.aload_n 0, 1) := dc_42 (gB_l lq_cX11_undo (p := 12) (o := 42) rfl)
theorem dX11_undo_13 : decode cX11_undo 13 = .ok (.getfield 61, 3) := dc_180 (gB_l lq_cX11_undo (p := 13) (o := 180) rfl) (gB_l lq_cX11_undo (p := 14) (o := 0) rfl) (gB_l lq_cX11_undo (p := 15) (o := 61) rfl) rfl
theorem dX11_undo_16 : decode cX11_undo 16 = .ok (.aload_n 0, 1) := dc_42 (gB_l lq_cX11_undo (p := 16) (o := 42) rfl)
theorem dX11_undo_17 : decode cX11_undo 17 = .ok (.getfield 32, 3) := dc_180 (gB_l lq_cX11_undo (p := 17) (o := 180) rfl) (gB_l lq_cX11_undo (p := 18) (o := 0) rfl) (gB_l lq_cX11_undo (p := 19) (o := 32) rfl) rfl
theorem dX11_undo_20 : decode cX11_undo 20 = .ok (.invokevirtual 295, 3) := dc_182 (gB_l lq_cX11_undo (p := 20) (o := 182) rfl) (gB_l lq_cX11_undo (p := 21) (o := 1) rfl) (gB_l lq_cX11_undo (p := 22) (o := 39) rfl) rfl
theorem dX11_undo_23 : decode cX11_undo 23 = .ok (.aload_n 0, 1) := dc_42 (gB_l lq_cX11_undo (p := 23) (o := 42) rfl)
theorem dX11_undo_24 : decode cX11_undo 24 = .ok (.getfield 61, 3) := dc_180 (gB_l lq_cX11_undo (p := 24) (o := 180) rfl) (gB_l lq_cX11_undo (p := 25) (o := 0) rfl) (gB_l lq_cX11_undo (p := 26) (o := 61) rfl) rfl
theorem dX11_undo_27 : decode cX11_undo 27 = .ok (.getfield 113, 3) := dc_180 (gB_l lq_cX11_undo (p := 27) (o := 180) rfl) (gB_l lq_cX11_undo (p := 28) (o := 0) rfl) (gB_l lq_cX11_undo (p := 29) (o := 113) rfl) rfl
theorem dX11_undo_30 : decode cX11_undo 30 = .ok (.ireturn, 1) := dc_172 (gB_l lq_cX11_undo (p := 30) (o := 172) rfl)
abbrev r0_cX11_value : List Nat := [42, 27, 182, 0, 116, 78, 45, 198, 0, 10, 28, 184, 0, 163, 154, 0, 8, 16, 254, 167, 0, 8, 45, 28, 184, 0, 166, 172]
theorem lq_cX11_value : (cX11_value).data.toList.map UInt8.toNat = r0_cX11_value := by decide +kernel
theorem dX11_value_0 : decode cX11_value 0 = .ok (.aload_n 0, 1) := dc_42 (gB_l lq_cX11_value (p := 0) (o := 42) rfl)
theorem dX11_value_1 : decode cX11_value 1 = .ok (.iload_n 1, 1) := dc_27 (gB_l lq_cX11_value (p := 1) (o := 27) rfl)
theorem dX11_value_2 : decode cX11_value 2 = .ok (.invokevirtual 116, 3) := dc_182 (gB_l lq_cX11_value (p := 2) (o := 182) rfl) (gB_l lq_cX11_value (p := 3) (o := 0) rfl) (gB_l lq_cX11_value (p := 4) (o := 116) rfl) rfl
theorem dX11_value_5 : decode cX11_value 5 = .ok (.astore_n 3, 1) := dc_78 (gB_l lq_cX11_value (p := 5) (o := 78) rfl)
theorem dX11_value_6 : decode cX11_value 6 = .ok (.aload_n 3, 1) := dc_45 (gB_l lq_cX11_value (p := 6) (o := 45) rfl)
theorem dX11_value_7 : decode cX11_value 7 = .ok (.ifnull 10, 3) := dc_198 (gB_l lq_cX11_value (p := 7) (o := 198) rfl) (gB_l lq_cX11_value (p := 8) (o := 0) rfl) (gB_l lq_cX11_value (p := 9) (o := 10) rfl) rfl
theorem dX11_value_10 : decode cX11_value 10 = .ok (.iload_n 2, 1) := dc_28 (gB_l lq_cX11_value (p := 10) (o := 28) rfl)
theorem dX11_value_11 : decode cX11_value 11 = .ok (.invokestatic 163, 3) := dc_184 (gB_l lq_cX11_value (p := 11) (o := 184) rfl) (gB_l lq_cX11_value (p := 12) (o := 0) rfl) (gB_l lq_cX11_value (p := 13) (o := 163) rfl) rfl
theorem dX11_value_14 : decode cX11_value 14 = .ok (.ifCond .ne 8, 3) := dc_154 (gB_l lq_cX11_value (p := 14) (o := 154) rfl) (gB_l lq_cX11_value (p := 15) (o := 0) rfl) (gB_l lq_cX11_value (p := 16) (o := 8) rfl) rfl
theorem dX11_value_17 : decode cX11_value 17 = .ok (.bipush (-2), 2) := dc_16 (gB_l lq_cX11_value (p := 17) (o := 16) rfl) (gB_l lq_cX11_value (p := 18) (o := 254) rfl) rfl
theorem dX11_value_19 : decode cX11_value 19 = .ok (.goto 8, 3) := dc_167 (gB_l lq_cX11_value (p := 19) (o := 167) rfl) (gB_l lq_cX11_value (p := 20) (o := 0) rfl) (gB_l lq_cX11_value (p := 21) (o := 8) rfl) rfl
theorem dX11_value_22 : decode cX11_value 22 = .ok (.aload_n 3, 1) := dc_45 (gB_l lq_cX11_value (p := 22) (o := 45) rfl)
theorem dX11_value_23 : decode cX11_value 23 = .ok (.iload_n 2, 1) := dc_28 (gB_l lq_cX11_value (p := 23) (o := 28) rfl)
theorem dX11_value_24 : decode cX11_value 24 = .ok (.invokestatic 166, 3) := dc_184 (gB_l lq_cX11_value (p := 24) (o := 184) rfl) (gB_l lq_cX11_value (p := 25) (o := 0) rfl) (gB_l lq_cX11_value (p := 26) (o := 166) rfl) rfl
theorem dX11_value_27 : decode cX11_value 27 = .ok (.ireturn, 1) := dc_172 (gB_l lq_cX11_value (p := 27) (o := 172) rfl)
abbrev r0_cX11_ways : List Nat := [42, 27, 28, 182, 0, 189, 78, 45, 199, 0, 8, 16, 254, 167, 0, 7, 45, 180, 0, 201, 172]
theorem lq_cX11_ways : (cX11_ways).data.toList.map UInt8.toNat = r0_cX11_ways := by decide +kernel
theorem dX11_ways_0 : decode cX11_ways 0 = .ok (.aload_n 0, 1) := dc_42 (gB_l lq_cX11_ways (p := 0) (o := 42) rfl)
theorem dX11_ways_1 : decode cX11_ways 1 = .ok (.iload_n 1, 1) := dc_27 (gB_l lq_cX11_ways (p := 1) (o := 27) rfl)
theorem dX11_ways_2 : decode cX11_ways 2 = .ok (.iload_n 2, 1) := dc_28 (gB_l lq_cX11_ways (p := 2) (o := 28) rfl)
theorem dX11_ways_3 : decode cX11_ways 3 = .ok (.invokevirtual 189, 3) := dc_182 (gB_l lq_cX11_ways (p := 3) (o := 182) rfl) (gB_l lq_cX11_ways (p := 4) (o := 0) rfl) (gB_l lq_cX11_ways (p := 5) (o := 189) rfl) rfl
theorem dX11_ways_6 : decode cX11_ways 6 = .ok (.astore_n 3, 1) := dc_78 (gB_l lq_cX11_ways (p := 6) (o := 78) rfl)
theorem dX11_ways_7 : decode cX11_ways 7 = .ok (.aload_n 3, 1) := dc_45 (gB_l lq_cX11_ways (p := 7) (o := 45) rfl)
theorem dX11_ways_8 : decode cX11_ways 8 = .ok (.ifnonnull 8, 3) := dc_199 (gB_l lq_cX11_ways (p := 8) (o := 199) rfl) (gB_l lq_cX11_ways (p := 9) (o := 0) rfl) (gB_l lq_cX11_ways (p := 10) (o := 8) rfl) rfl
theorem dX11_ways_11 : decode cX11_ways 11 = .ok (.bipush (-2), 2) := dc_16 (gB_l lq_cX11_ways (p := 11) (o := 16) rfl) (gB_l lq_cX11_ways (p := 12) (o := 254) rfl) rfl
theorem dX11_ways_13 : decode cX11_ways 13 = .ok (.goto 7, 3) := dc_167 (gB_l lq_cX11_ways (p := 13) (o := 167) rfl) (gB_l lq_cX11_ways (p := 14) (o := 0) rfl) (gB_l lq_cX11_ways (p := 15) (o := 7) rfl) rfl
theorem dX11_ways_16 : decode cX11_ways 16 = .ok (.aload_n 3, 1) := dc_45 (gB_l lq_cX11_ways (p := 16) (o := 45) rfl)
theorem dX11_ways_17 : decode cX11_ways 17 = .ok (.getfield 201, 3) := dc_180 (gB_l lq_cX11_ways (p := 17) (o := 180) rfl) (gB_l lq_cX11_ways (p := 18) (o := 0) rfl) (gB_l lq_cX11_ways (p := 19) (o := 201) rfl) rfl
theorem dX11_ways_20 : decode cX11_ways 20 = .ok (.ireturn, 1) := dc_172 (gB_l lq_cX11_ways (p := 20) (o := 172) rfl)
abbrev r1_cX11_within : List Nat := [180, 0, 54, 25, 4, 29, 182, 0, 207, 167, 0, 14, 42, 180, 0, 47, 25, 4, 28, 29, 182, 0, 210, 172]
def a0_cX11_within : List Nat := [42, 27, 182, 0, 116, 58, 4, 25, 4, 198, 0, 14, 28, 184, 0, 204, 153, 0, 7, 29, 156, 0, 6, 16, 254, 172, 28, 5, 160, 0, 16, 42]
abbrev r0_cX11_within : List Nat := a0_cX11_within ++ r1_cX11_within
theorem lq_cX11_within : (cX11_within).data.toList.map UInt8.toNat = r0_cX11_within := by decide +kernel
theorem q1_cX11_within : ∀ i, (r0_cX11_within)[32 + i]? = (r1_cX11_within)[i]? := chn (A := a0_cX11_within) (B := r1_cX11_within) (n := 0) (k := 32) rfl (ch0 (R := r0_cX11_within))
theorem dX11_within_0 : decode cX11_within 0 = .ok (.aload_n 0, 1) := dc_42 (gB_l lq_cX11_within (p := 0) (o := 42) rfl)
theorem dX11_within_1 : decode cX11_within 1 = .ok (.iload_n 1, 1) := dc_27 (gB_l lq_cX11_within (p := 1) (o := 27) rfl)
theorem dX11_within_2 : decode cX11_within 2 = .ok (.invokevirtual 116, 3) := dc_182 (gB_l lq_cX11_within (p := 2) (o := 182) rfl) (gB_l lq_cX11_within (p := 3) (o := 0) rfl) (gB_l lq_cX11_within (p := 4) (o := 116) rfl) rfl
theorem dX11_within_5 : decode cX11_within 5 = .ok (.astore 4, 2) := dc_58 (gB_l lq_cX11_within (p := 5) (o := 58) rfl) (gB_l lq_cX11_within (p := 6) (o := 4) rfl)
theorem dX11_within_7 : decode cX11_within 7 = .ok (.aload 4, 2) := dc_25 (gB_l lq_cX11_within (p := 7) (o := 25) rfl) (gB_l lq_cX11_within (p := 8) (o := 4) rfl)
theorem dX11_within_9 : decode cX11_within 9 = .ok (.ifnull 14, 3) := dc_198 (gB_l lq_cX11_within (p := 9) (o := 198) rfl) (gB_l lq_cX11_within (p := 10) (o := 0) rfl) (gB_l lq_cX11_within (p := 11) (o := 14) rfl) rfl
theorem dX11_within_12 : decode cX11_within 12 = .ok (.iload_n 2, 1) := dc_28 (gB_l lq_cX11_within (p := 12) (o := 28) rfl)
theorem dX11_within_13 : decode cX11_within 13 = .ok (.invokestatic 204, 3) := dc_184 (gB_l lq_cX11_within (p := 13) (o := 184) rfl) (gB_l lq_cX11_within (p := 14) (o := 0) rfl) (gB_l lq_cX11_within (p := 15) (o := 204) rfl) rfl
theorem dX11_within_16 : decode cX11_within 16 = .ok (.ifCond .eq 7, 3) := dc_153 (gB_l lq_cX11_within (p := 16) (o := 153) rfl) (gB_l lq_cX11_within (p := 17) (o := 0) rfl) (gB_l lq_cX11_within (p := 18) (o := 7) rfl) rfl
theorem dX11_within_19 : decode cX11_within 19 = .ok (.iload_n 3, 1) := dc_29 (gB_l lq_cX11_within (p := 19) (o := 29) rfl)
theorem dX11_within_20 : decode cX11_within 20 = .ok (.ifCond .ge 6, 3) := dc_156 (gB_l lq_cX11_within (p := 20) (o := 156) rfl) (gB_l lq_cX11_within (p := 21) (o := 0) rfl) (gB_l lq_cX11_within (p := 22) (o := 6) rfl) rfl
theorem dX11_within_23 : decode cX11_within 23 = .ok (.bipush (-2), 2) := dc_16 (gB_l lq_cX11_within (p := 23) (o := 16) rfl) (gB_l lq_cX11_within (p := 24) (o := 254) rfl) rfl
theorem dX11_within_25 : decode cX11_within 25 = .ok (.ireturn, 1) := dc_172 (gB_l lq_cX11_within (p := 25) (o := 172) rfl)
theorem dX11_within_26 : decode cX11_within 26 = .ok (.iload_n 2, 1) := dc_28 (gB_l lq_cX11_within (p := 26) (o := 28) rfl)
theorem dX11_within_27 : decode cX11_within 27 = .ok (.iconst 2, 1) := dc_5 (gB_l lq_cX11_within (p := 27) (o := 5) rfl)
theorem dX11_within_28 : decode cX11_within 28 = .ok (.if_icmp .ne 16, 3) := dc_160 (gB_l lq_cX11_within (p := 28) (o := 160) rfl) (gB_l lq_cX11_within (p := 29) (o := 0) rfl) (gB_l lq_cX11_within (p := 30) (o := 16) rfl) rfl
theorem dX11_within_31 : decode cX11_within 31 = .ok (.aload_n 0, 1) := dc_42 (gB_l lq_cX11_within (p := 31) (o := 42) rfl)
theorem dX11_within_32 : decode cX11_within 32 = .ok (.getfield 54, 3) := dc_180 (gB_c lq_cX11_within q1_cX11_within 0 (o := 180) rfl) (gB_c lq_cX11_within q1_cX11_within 1 (o := 0) rfl) (gB_c lq_cX11_within q1_cX11_within 2 (o := 54) rfl) rfl
theorem dX11_within_35 : decode cX11_within 35 = .ok (.aload 4, 2) := dc_25 (gB_c lq_cX11_within q1_cX11_within 3 (o := 25) rfl) (gB_c lq_cX11_within q1_cX11_within 4 (o := 4) rfl)
theorem dX11_within_37 : decode cX11_within 37 = .ok (.iload_n 3, 1) := dc_29 (gB_c lq_cX11_within q1_cX11_within 5 (o := 29) rfl)
theorem dX11_within_38 : decode cX11_within 38 = .ok (.invokevirtual 207, 3) := dc_182 (gB_c lq_cX11_within q1_cX11_within 6 (o := 182) rfl) (gB_c lq_cX11_within q1_cX11_within 7 (o := 0) rfl) (gB_c lq_cX11_within q1_cX11_within 8 (o := 207) rfl) rfl
theorem dX11_within_41 : decode cX11_within 41 = .ok (.goto 14, 3) := dc_167 (gB_c lq_cX11_within q1_cX11_within 9 (o := 167) rfl) (gB_c lq_cX11_within q1_cX11_within 10 (o := 0) rfl) (gB_c lq_cX11_within q1_cX11_within 11 (o := 14) rfl) rfl
theorem dX11_within_44 : decode cX11_within 44 = .ok (.aload_n 0, 1) := dc_42 (gB_c lq_cX11_within q1_cX11_within 12 (o := 42) rfl)
theorem dX11_within_45 : decode cX11_within 45 = .ok (.getfield 47, 3) := dc_180 (gB_c lq_cX11_within q1_cX11_within 13 (o := 180) rfl) (gB_c lq_cX11_within q1_cX11_within 14 (o := 0) rfl) (gB_c lq_cX11_within q1_cX11_within 15 (o := 47) rfl) rfl
theorem dX11_within_48 : decode cX11_within 48 = .ok (.aload 4, 2) := dc_25 (gB_c lq_cX11_within q1_cX11_within 16 (o := 25) rfl) (gB_c lq_cX11_within q1_cX11_within 17 (o := 4) rfl)
theorem dX11_within_50 : decode cX11_within 50 = .ok (.iload_n 2, 1) := dc_28 (gB_c lq_cX11_within q1_cX11_within 18 (o := 28) rfl)
theorem dX11_within_51 : decode cX11_within 51 = .ok (.iload_n 3, 1) := dc_29 (gB_c lq_cX11_within q1_cX11_within 19 (o := 29) rfl)
theorem dX11_within_52 : decode cX11_within 52 = .ok (.invokevirtual 210, 3) := dc_182 (gB_c lq_cX11_within q1_cX11_within 20 (o := 182) rfl) (gB_c lq_cX11_within q1_cX11_within 21 (o := 0) rfl) (gB_c lq_cX11_within q1_cX11_within 22 (o := 210) rfl) rfl
theorem dX11_within_55 : decode cX11_within 55 = .ok (.ireturn, 1) := dc_172 (gB_c lq_cX11_within q1_cX11_within 23 (o := 172) rfl)
abbrev r1_cX11_worst : List Nat := [28, 184, 0, 183, 167, 0, 5, 16, 254, 172]
def a0_cX11_worst : List Nat := [42, 27, 182, 0, 116, 78, 45, 198, 0, 10, 28, 184, 0, 172, 154, 0, 6, 16, 254, 172, 45, 28, 184, 0, 175, 182, 0, 141, 153, 0, 11, 45]
abbrev r0_cX11_worst : List Nat := a0_cX11_worst ++ r1_cX11_worst
theorem lq_cX11_worst : (cX11_worst).data.toList.map UInt8.toNat = r0_cX11_worst := by decide +kernel
theorem q1_cX11_worst : ∀ i, (r0_cX11_worst)[32 + i]? = (r1_cX11_worst)[i]? := chn (A := a0_cX11_worst) (B := r1_cX11_worst) (n := 0) (k := 32) rfl (ch0 (R := r0_cX11_worst))
theorem dX11_worst_0 : decode cX11_worst 0 = .ok (.aload_n 0, 1) := dc_42 (gB_l lq_cX11_worst (p := 0) (o := 42) rfl)
theorem dX11_worst_1 : decode cX11_worst 1 = .ok (.iload_n 1, 1) := dc_27 (gB_l lq_cX11_worst (p := 1) (o := 27) rfl)
theorem dX11_worst_2 : decode cX11_worst 2 = .ok (.invokevirtual 116, 3) := dc_182 (gB_l lq_cX11_worst (p := 2) (o := 182) rfl) (gB_l lq_cX11_worst (p := 3) (o := 0) rfl) (gB_l lq_cX11_worst (p := 4) (o := 116) rfl) rfl
theorem dX11_worst_5 : decode cX11_worst 5 = .ok (.astore_n 3, 1) := dc_78 (gB_l lq_cX11_worst (p := 5) (o := 78) rfl)
theorem dX11_worst_6 : decode cX11_worst 6 = .ok (.aload_n 3, 1) := dc_45 (gB_l lq_cX11_worst (p := 6) (o := 45) rfl)
theorem dX11_worst_7 : decode cX11_worst 7 = .ok (.ifnull 10, 3) := dc_198 (gB_l lq_cX11_worst (p := 7) (o := 198) rfl) (gB_l lq_cX11_worst (p := 8) (o := 0) rfl) (gB_l lq_cX11_worst (p := 9) (o := 10) rfl) rfl
theorem dX11_worst_10 : decode cX11_worst 10 = .ok (.iload_n 2, 1) := dc_28 (gB_l lq_cX11_worst (p := 10) (o := 28) rfl)
theorem dX11_worst_11 : decode cX11_worst 11 = .ok (.invokestatic 172, 3) := dc_184 (gB_l lq_cX11_worst (p := 11) (o := 184) rfl) (gB_l lq_cX11_worst (p := 12) (o := 0) rfl) (gB_l lq_cX11_worst (p := 13) (o := 172) rfl) rfl
theorem dX11_worst_14 : decode cX11_worst 14 = .ok (.ifCond .ne 6, 3) := dc_154 (gB_l lq_cX11_worst (p := 14) (o := 154) rfl) (gB_l lq_cX11_worst (p := 15) (o := 0) rfl) (gB_l lq_cX11_worst (p := 16) (o := 6) rfl) rfl
theorem dX11_worst_17 : decode cX11_worst 17 = .ok (.bipush (-2), 2) := dc_16 (gB_l lq_cX11_worst (p := 17) (o := 16) rfl) (gB_l lq_cX11_worst (p := 18) (o := 254) rfl) rfl
theorem dX11_worst_19 : decode cX11_worst 19 = .ok (.ireturn, 1) := dc_172 (gB_l lq_cX11_worst (p := 19) (o := 172) rfl)
theorem dX11_worst_20 : decode cX11_worst 20 = .ok (.aload_n 3, 1) := dc_45 (gB_l lq_cX11_worst (p := 20) (o := 45) rfl)
theorem dX11_worst_21 : decode cX11_worst 21 = .ok (.iload_n 2, 1) := dc_28 (gB_l lq_cX11_worst (p := 21) (o := 28) rfl)
theorem dX11_worst_22 : decode cX11_worst 22 = .ok (.invokestatic 175, 3) := dc_184 (gB_l lq_cX11_worst (p := 22) (o := 184) rfl) (gB_l lq_cX11_worst (p := 23) (o := 0) rfl) (gB_l lq_cX11_worst (p := 24) (o := 175) rfl) rfl
theorem dX11_worst_25 : decode cX11_worst 25 = .ok (.invokevirtual 141, 3) := dc_182 (gB_l lq_cX11_worst (p := 25) (o := 182) rfl) (gB_l lq_cX11_worst (p := 26) (o := 0) rfl) (gB_l lq_cX11_worst (p := 27) (o := 141) rfl) rfl
theorem dX11_worst_28 : decode cX11_worst 28 = .ok (.ifCond .eq 11, 3) := dc_153 (gB_l lq_cX11_worst (p := 28) (o := 153) rfl) (gB_l lq_cX11_worst (p := 29) (o := 0) rfl) (gB_l lq_cX11_worst (p := 30) (o := 11) rfl) rfl
theorem dX11_worst_31 : decode cX11_worst 31 = .ok (.aload_n 3, 1) := dc_45 (gB_l lq_cX11_worst (p := 31) (o := 45) rfl)
theorem dX11_worst_32 : decode cX11_worst 32 = .ok (.iload_n 2, 1) := dc_28 (gB_c lq_cX11_worst q1_cX11_worst 0 (o := 28) rfl)
theorem dX11_worst_33 : decode cX11_worst 33 = .ok (.invokestatic 183, 3) := dc_184 (gB_c lq_cX11_worst q1_cX11_worst 1 (o := 184) rfl) (gB_c lq_cX11_worst q1_cX11_worst 2 (o := 0) rfl) (gB_c lq_cX11_worst q1_cX11_worst 3 (o := 183) rfl) rfl
theorem dX11_worst_36 : decode cX11_worst 36 = .ok (.goto 5, 3) := dc_167 (gB_c lq_cX11_worst q1_cX11_worst 4 (o := 167) rfl) (gB_c lq_cX11_worst q1_cX11_worst 5 (o := 0) rfl) (gB_c lq_cX11_worst q1_cX11_worst 6 (o := 5) rfl) rfl
theorem dX11_worst_39 : decode cX11_worst 39 = .ok (.bipush (-2), 2) := dc_16 (gB_c lq_cX11_worst q1_cX11_worst 7 (o := 16) rfl) (gB_c lq_cX11_worst q1_cX11_worst 8 (o := 254) rfl) rfl
theorem dX11_worst_41 : decode cX11_worst 41 = .ok (.ireturn, 1) := dc_172 (gB_c lq_cX11_worst q1_cX11_worst 9 (o := 172) rfl)
abbrev r2_cX12_adds : List Nat := [0, 162, 42, 21, 5, 182, 0, 190, 172]
def a1_cX12_adds : List Nat := [76, 54, 5, 21, 5, 154, 0, 16, 42, 27, 182, 0, 152, 16, 30, 160, 0, 6, 16, 251, 172, 42, 182, 0, 93, 42, 27, 28, 29, 21, 4, 182]
abbrev r1_cX12_adds : List Nat := a1_cX12_adds ++ r2_cX12_adds
def a0_cX12_adds : List Nat := [42, 27, 28, 29, 182, 1, 70, 153, 0, 16, 21, 4, 133, 10, 20, 1, 74, 184, 0, 55, 154, 0, 6, 16, 254, 172, 42, 27, 28, 29, 182, 0]
abbrev r0_cX12_adds : List Nat := a0_cX12_adds ++ r1_cX12_adds
theorem lq_cX12_adds : (cX12_adds).data.toList.map UInt8.toNat = r0_cX12_adds := by decide +kernel
theorem q1_cX12_adds : ∀ i, (r0_cX12_adds)[32 + i]? = (r1_cX12_adds)[i]? := chn (A := a0_cX12_adds) (B := r1_cX12_adds) (n := 0) (k := 32) rfl (ch0 (R := r0_cX12_adds))
theorem q2_cX12_adds : ∀ i, (r0_cX12_adds)[64 + i]? = (r2_cX12_adds)[i]? := chn (A := a1_cX12_adds) (B := r2_cX12_adds) (n := 32) (k := 32) rfl q1_cX12_adds
theorem dX12_adds_0 : decode cX12_adds 0 = .ok (.aload_n 0, 1) := dc_42 (gB_l lq_cX12_adds (p := 0) (o := 42) rfl)
theorem dX12_adds_1 : decode cX12_adds 1 = .ok (.iload_n 1, 1) := dc_27 (gB_l lq_cX12_adds (p := 1) (o := 27) rfl)
theorem dX12_adds_2 : decode cX12_adds 2 = .ok (.iload_n 2, 1) := dc_28 (gB_l lq_cX12_adds (p := 2) (o := 28) rfl)
theorem dX12_adds_3 : decode cX12_adds 3 = .ok (.iload_n 3, 1) := dc_29 (gB_l lq_cX12_adds (p := 3) (o := 29) rfl)
theorem dX12_adds_4 : decode cX12_adds 4 = .ok (.invokevirtual 326, 3) := dc_182 (gB_l lq_cX12_adds (p := 4) (o := 182) rfl) (gB_l lq_cX12_adds (p := 5) (o := 1) rfl) (gB_l lq_cX12_adds (p := 6) (o := 70) rfl) rfl
theorem dX12_adds_7 : decode cX12_adds 7 = .ok (.ifCond .eq 16, 3) := dc_153 (gB_l lq_cX12_adds (p := 7) (o := 153) rfl) (gB_l lq_cX12_adds (p := 8) (o := 0) rfl) (gB_l lq_cX12_adds (p := 9) (o := 16) rfl) rfl
theorem dX12_adds_10 : decode cX12_adds 10 = .ok (.iload 4, 2) := dc_21 (gB_l lq_cX12_adds (p := 10) (o := 21) rfl) (gB_l lq_cX12_adds (p := 11) (o := 4) rfl)
theorem dX12_adds_12 : decode cX12_adds 12 = .ok (.i2l, 1) := dc_133 (gB_l lq_cX12_adds (p := 12) (o := 133) rfl)
theorem dX12_adds_13 : decode cX12_adds 13 = .ok (.lconst 1, 1) := dc_10 (gB_l lq_cX12_adds (p := 13) (o := 10) rfl)
theorem dX12_adds_14 : decode cX12_adds 14 = .ok (.ldc2_w 330, 3) := dc_20 (gB_l lq_cX12_adds (p := 14) (o := 20) rfl) (gB_l lq_cX12_adds (p := 15) (o := 1) rfl) (gB_l lq_cX12_adds (p := 16) (o := 74) rfl) rfl
theorem dX12_adds_17 : decode cX12_adds 17 = .ok (.invokestatic 55, 3) := dc_184 (gB_l lq_cX12_adds (p := 17) (o := 184) rfl) (gB_l lq_cX12_adds (p := 18) (o := 0) rfl) (gB_l lq_cX12_adds (p := 19) (o := 55) rfl) rfl
theorem dX12_adds_20 : decode cX12_adds 20 = .ok (.ifCond .ne 6, 3) := dc_154 (gB_l lq_cX12_adds (p := 20) (o := 154) rfl) (gB_l lq_cX12_adds (p := 21) (o := 0) rfl) (gB_l lq_cX12_adds (p := 22) (o := 6) rfl) rfl
theorem dX12_adds_23 : decode cX12_adds 23 = .ok (.bipush (-2), 2) := dc_16 (gB_l lq_cX12_adds (p := 23) (o := 16) rfl) (gB_l lq_cX12_adds (p := 24) (o := 254) rfl) rfl
theorem dX12_adds_25 : decode cX12_adds 25 = .ok (.ireturn, 1) := dc_172 (gB_l lq_cX12_adds (p := 25) (o := 172) rfl)
theorem dX12_adds_26 : decode cX12_adds 26 = .ok (.aload_n 0, 1) := dc_42 (gB_l lq_cX12_adds (p := 26) (o := 42) rfl)
theorem dX12_adds_27 : decode cX12_adds 27 = .ok (.iload_n 1, 1) := dc_27 (gB_l lq_cX12_adds (p := 27) (o := 27) rfl)
theorem dX12_adds_28 : decode cX12_adds 28 = .ok (.iload_n 2, 1) := dc_28 (gB_l lq_cX12_adds (p := 28) (o := 28) rfl)
theorem dX12_adds_29 : decode cX12_adds 29 = .ok (.iload_n 3, 1) := dc_29 (gB_l lq_cX12_adds (p := 29) (o := 29) rfl)
theorem dX12_adds_30 : decode cX12_adds 30 = .ok (.invokevirtual 76, 3) := dc_182 (gB_l lq_cX12_adds (p := 30) (o := 182) rfl) (gB_l lq_cX12_adds (p := 31) (o := 0) rfl) (gB_c lq_cX12_adds q1_cX12_adds 0 (o := 76) rfl) rfl
theorem dX12_adds_33 : decode cX12_adds 33 = .ok (.istore 5, 2) := dc_54 (gB_c lq_cX12_adds q1_cX12_adds 1 (o := 54) rfl) (gB_c lq_cX12_adds q1_cX12_adds 2 (o := 5) rfl)
theorem dX12_adds_35 : decode cX12_adds 35 = .ok (.iload 5, 2) := dc_21 (gB_c lq_cX12_adds q1_cX12_adds 3 (o := 21) rfl) (gB_c lq_cX12_adds q1_cX12_adds 4 (o := 5) rfl)
theorem dX12_adds_37 : decode cX12_adds 37 = .ok (.ifCond .ne 16, 3) := dc_154 (gB_c lq_cX12_adds q1_cX12_adds 5 (o := 154) rfl) (gB_c lq_cX12_adds q1_cX12_adds 6 (o := 0) rfl) (gB_c lq_cX12_adds q1_cX12_adds 7 (o := 16) rfl) rfl
theorem dX12_adds_40 : decode cX12_adds 40 = .ok (.aload_n 0, 1) := dc_42 (gB_c lq_cX12_adds q1_cX12_adds 8 (o := 42) rfl)
theorem dX12_adds_41 : decode cX12_adds 41 = .ok (.iload_n 1, 1) := dc_27 (gB_c lq_cX12_adds q1_cX12_adds 9 (o := 27) rfl)
theorem dX12_adds_42 : decode cX12_adds 42 = .ok (.invokevirtual 152, 3) := dc_182 (gB_c lq_cX12_adds q1_cX12_adds 10 (o := 182) rfl) (gB_c lq_cX12_adds q1_cX12_adds 11 (o := 0) rfl) (gB_c lq_cX12_adds q1_cX12_adds 12 (o := 152) rfl) rfl
theorem dX12_adds_45 : decode cX12_adds 45 = .ok (.bipush 30, 2) := dc_16 (gB_c lq_cX12_adds q1_cX12_adds 13 (o := 16) rfl) (gB_c lq_cX12_adds q1_cX12_adds 14 (o := 30) rfl) rfl
theorem dX12_adds_47 : decode cX12_adds 47 = .ok (.if_icmp .ne 6, 3) := dc_160 (gB_c lq_cX12_adds q1_cX12_adds 15 (o := 160) rfl) (gB_c lq_cX12_adds q1_cX12_adds 16 (o := 0) rfl) (gB_c lq_cX12_adds q1_cX12_adds 17 (o := 6) rfl) rfl
theorem dX12_adds_50 : decode cX12_adds 50 = .ok (.bipush (-5), 2) := dc_16 (gB_c lq_cX12_adds q1_cX12_adds 18 (o := 16) rfl) (gB_c lq_cX12_adds q1_cX12_adds 19 (o := 251) rfl) rfl
theorem dX12_adds_52 : decode cX12_adds 52 = .ok (.ireturn, 1) := dc_172 (gB_c lq_cX12_adds q1_cX12_adds 20 (o := 172) rfl)
theorem dX12_adds_53 : decode cX12_adds 53 = .ok (.aload_n 0, 1) := dc_42 (gB_c lq_cX12_adds q1_cX12_adds 21 (o := 42) rfl)
theorem dX12_adds_54 : decode cX12_adds 54 = .ok (.invokevirtual 93, 3) := dc_182 (gB_c lq_cX12_adds q1_cX12_adds 22 (o := 182) rfl) (gB_c lq_cX12_adds q1_cX12_adds 23 (o := 0) rfl) (gB_c lq_cX12_adds q1_cX12_adds 24 (o := 93) rfl) rfl
theorem dX12_adds_57 : decode cX12_adds 57 = .ok (.aload_n 0, 1) := dc_42 (gB_c lq_cX12_adds q1_cX12_adds 25 (o := 42) rfl)
theorem dX12_adds_58 : decode cX12_adds 58 = .ok (.iload_n 1, 1) := dc_27 (gB_c lq_cX12_adds q1_cX12_adds 26 (o := 27) rfl)
theorem dX12_adds_59 : decode cX12_adds 59 = .ok (.iload_n 2, 1) := dc_28 (gB_c lq_cX12_adds q1_cX12_adds 27 (o := 28) rfl)
theorem dX12_adds_60 : decode cX12_adds 60 = .ok (.iload_n 3, 1) := dc_29 (gB_c lq_cX12_adds q1_cX12_adds 28 (o := 29) rfl)
theorem dX12_adds_61 : decode cX12_adds 61 = .ok (.iload 4, 2) := dc_21 (gB_c lq_cX12_adds q1_cX12_adds 29 (o := 21) rfl) (gB_c lq_cX12_adds q1_cX12_adds 30 (o := 4) rfl)
theorem dX12_adds_63 : decode cX12_adds 63 = .ok (.invokevirtual 162, 3) := dc_182 (gB_c lq_cX12_adds q1_cX12_adds 31 (o := 182) rfl) (gB_c lq_cX12_adds q2_cX12_adds 0 (o := 0) rfl) (gB_c lq_cX12_adds q2_cX12_adds 1 (o := 162) rfl) rfl
theorem dX12_adds_66 : decode cX12_adds 66 = .ok (.aload_n 0, 1) := dc_42 (gB_c lq_cX12_adds q2_cX12_adds 2 (o := 42) rfl)
theorem dX12_adds_67 : decode cX12_adds 67 = .ok (.iload 5, 2) := dc_21 (gB_c lq_cX12_adds q2_cX12_adds 3 (o := 21) rfl) (gB_c lq_cX12_adds q2_cX12_adds 4 (o := 5) rfl)
theorem dX12_adds_69 : decode cX12_adds 69 = .ok (.invokevirtual 190, 3) := dc_182 (gB_c lq_cX12_adds q2_cX12_adds 5 (o := 182) rfl) (gB_c lq_cX12_adds q2_cX12_adds 6 (o := 0) rfl) (gB_c lq_cX12_adds q2_cX12_adds 7 (o := 190) rfl) rfl
theorem dX12_adds_72 : decode cX12_adds 72 = .ok (.ireturn, 1) := dc_172 (gB_c lq_cX12_adds q2_cX12_adds 8 (o := 172) rfl)
abbrev r0_cX12_aheadOf : List Nat := [3, 62, 3, 54, 4, 21, 4, 28, 162, 0, 21, 29, 4, 42, 27, 21, 4, 182, 0, 217, 120, 128, 62, 132, 4, 1, 167, 255, 235, 29, 172]
theorem lq_cX12_aheadOf : (cX12_aheadOf).data.toList.map UInt8.toNat = r0_cX12_aheadOf := by decide +kernel
theorem dX12_aheadOf_0 : decode cX12_aheadOf 0 = .ok (.iconst 0, 1) := dc_3 (gB_l lq_cX12_aheadOf (p := 0) (o := 3) rfl)
theorem dX12_aheadOf_1 : decode cX12_aheadOf 1 = .ok (.istore_n 3, 1) := dc_62 (gB_l lq_cX12_aheadOf (p := 1) (o := 62) rfl)
theorem dX12_aheadOf_2 : decode cX12_aheadOf 2 = .ok (.iconst 0, 1) := dc_3 (gB_l lq_cX12_aheadOf (p := 2) (o := 3) rfl)
theorem dX12_aheadOf_3 : decode cX12_aheadOf 3 = .ok (.istore 4, 2) := dc_54 (gB_l lq_cX12_aheadOf (p := 3) (o := 54) rfl) (gB_l lq_cX12_aheadOf (p := 4) (o := 4) rfl)
theorem dX12_aheadOf_5 : decode cX12_aheadOf 5 = .ok (.iload 4, 2) := dc_21 (gB_l lq_cX12_aheadOf (p := 5) (o := 21) rfl) (gB_l lq_cX12_aheadOf (p := 6) (o := 4) rfl)
theorem dX12_aheadOf_7 : decode cX12_aheadOf 7 = .ok (.iload_n 2, 1) := dc_28 (gB_l lq_cX12_aheadOf (p := 7) (o := 28) rfl)
theorem dX12_aheadOf_8 : decode cX12_aheadOf 8 = .ok (.if_icmp .ge 21, 3) := dc_162 (gB_l lq_cX12_aheadOf (p := 8) (o := 162) rfl) (gB_l lq_cX12_aheadOf (p := 9) (o := 0) rfl) (gB_l lq_cX12_aheadOf (p := 10) (o := 21) rfl) rfl
theorem dX12_aheadOf_11 : decode cX12_aheadOf 11 = .ok (.iload_n 3, 1) := dc_29 (gB_l lq_cX12_aheadOf (p := 11) (o := 29) rfl)
theorem dX12_aheadOf_12 : decode cX12_aheadOf 12 = .ok (.iconst 1, 1) := dc_4 (gB_l lq_cX12_aheadOf (p := 12) (o := 4) rfl)
theorem dX12_aheadOf_13 : decode cX12_aheadOf 13 = .ok (.aload_n 0, 1) := dc_42 (gB_l lq_cX12_aheadOf (p := 13) (o := 42) rfl)
theorem dX12_aheadOf_14 : decode cX12_aheadOf 14 = .ok (.iload_n 1, 1) := dc_27 (gB_l lq_cX12_aheadOf (p := 14) (o := 27) rfl)
theorem dX12_aheadOf_15 : decode cX12_aheadOf 15 = .ok (.iload 4, 2) := dc_21 (gB_l lq_cX12_aheadOf (p := 15) (o := 21) rfl) (gB_l lq_cX12_aheadOf (p := 16) (o := 4) rfl)
theorem dX12_aheadOf_17 : decode cX12_aheadOf 17 = .ok (.invokevirtual 217, 3) := dc_182 (gB_l lq_cX12_aheadOf (p := 17) (o := 182) rfl) (gB_l lq_cX12_aheadOf (p := 18) (o := 0) rfl) (gB_l lq_cX12_aheadOf (p := 19) (o := 217) rfl) rfl
theorem dX12_aheadOf_20 : decode cX12_aheadOf 20 = .ok (.ishl, 1) := dc_120 (gB_l lq_cX12_aheadOf (p := 20) (o := 120) rfl)
theorem dX12_aheadOf_21 : decode cX12_aheadOf 21 = .ok (.ior, 1) := dc_128 (gB_l lq_cX12_aheadOf (p := 21) (o := 128) rfl)
theorem dX12_aheadOf_22 : decode cX12_aheadOf 22 = .ok (.istore_n 3, 1) := dc_62 (gB_l lq_cX12_aheadOf (p := 22) (o := 62) rfl)
theorem dX12_aheadOf_23 : decode cX12_aheadOf 23 = .ok (.iinc 4 1, 3) := dc_132 (gB_l lq_cX12_aheadOf (p := 23) (o := 132) rfl) (gB_l lq_cX12_aheadOf (p := 24) (o := 4) rfl) (gB_l lq_cX12_aheadOf (p := 25) (o := 1) rfl) rfl
theorem dX12_aheadOf_26 : decode cX12_aheadOf 26 = .ok (.goto (-21), 3) := dc_167 (gB_l lq_cX12_aheadOf (p := 26) (o := 167) rfl) (gB_l lq_cX12_aheadOf (p := 27) (o := 255) rfl) (gB_l lq_cX12_aheadOf (p := 28) (o := 235) rfl) rfl
theorem dX12_aheadOf_29 : decode cX12_aheadOf 29 = .ok (.iload_n 3, 1) := dc_29 (gB_l lq_cX12_aheadOf (p := 29) (o := 29) rfl)
theorem dX12_aheadOf_30 : decode cX12_aheadOf 30 = .ok (.ireturn, 1) := dc_172 (gB_l lq_cX12_aheadOf (p := 30) (o := 172) rfl)
abbrev r4_cX12_among : List Nat := [5, 1, 167, 255, 180, 42, 27, 29, 182, 1, 18, 42, 180, 0, 29, 3, 46, 172]
def a3_cX12_among : List Nat := [21, 7, 46, 21, 4, 164, 0, 9, 19, 1, 13, 167, 0, 13, 42, 27, 29, 21, 5, 21, 6, 182, 0, 238, 79, 132, 6, 1, 167, 255, 198, 132]
abbrev r3_cX12_among : List Nat := a3_cX12_among ++ r4_cX12_among
def a2_cX12_among : List Nat := [54, 6, 21, 6, 42, 27, 182, 0, 63, 162, 0, 54, 16, 9, 21, 5, 104, 21, 6, 96, 54, 7, 42, 180, 0, 35, 21, 7, 42, 180, 0, 35]
abbrev r2_cX12_among : List Nat := a2_cX12_among ++ r3_cX12_among
def a1_cX12_among : List Nat := [0, 6, 16, 254, 172, 42, 27, 28, 182, 1, 24, 42, 180, 0, 29, 3, 46, 54, 4, 3, 54, 5, 21, 5, 42, 180, 1, 10, 163, 0, 73, 3]
abbrev r1_cX12_among : List Nat := a1_cX12_among ++ r2_cX12_among
def a0_cX12_among : List Nat := [42, 27, 182, 0, 67, 153, 0, 29, 28, 184, 0, 245, 153, 0, 22, 28, 184, 0, 232, 153, 0, 15, 29, 184, 0, 245, 153, 0, 8, 29, 5, 160]
abbrev r0_cX12_among : List Nat := a0_cX12_among ++ r1_cX12_among
theorem lq_cX12_among : (cX12_among).data.toList.map UInt8.toNat = r0_cX12_among := by decide +kernel
theorem q1_cX12_among : ∀ i, (r0_cX12_among)[32 + i]? = (r1_cX12_among)[i]? := chn (A := a0_cX12_among) (B := r1_cX12_among) (n := 0) (k := 32) rfl (ch0 (R := r0_cX12_among))
theorem q2_cX12_among : ∀ i, (r0_cX12_among)[64 + i]? = (r2_cX12_among)[i]? := chn (A := a1_cX12_among) (B := r2_cX12_among) (n := 32) (k := 32) rfl q1_cX12_among
theorem q3_cX12_among : ∀ i, (r0_cX12_among)[96 + i]? = (r3_cX12_among)[i]? := chn (A := a2_cX12_among) (B := r3_cX12_among) (n := 64) (k := 32) rfl q2_cX12_among
theorem q4_cX12_among : ∀ i, (r0_cX12_among)[128 + i]? = (r4_cX12_among)[i]? := chn (A := a3_cX12_among) (B := r4_cX12_among) (n := 96) (k := 32) rfl q3_cX12_among
theorem dX12_among_0 : decode cX12_among 0 = .ok (.aload_n 0, 1) := dc_42 (gB_l lq_cX12_among (p := 0) (o := 42) rfl)
theorem dX12_among_1 : decode cX12_among 1 = .ok (.iload_n 1, 1) := dc_27 (gB_l lq_cX12_among (p := 1) (o := 27) rfl)
theorem dX12_among_2 : decode cX12_among 2 = .ok (.invokevirtual 67, 3) := dc_182 (gB_l lq_cX12_among (p := 2) (o := 182) rfl) (gB_l lq_cX12_among (p := 3) (o := 0) rfl) (gB_l lq_cX12_among (p := 4) (o := 67) rfl) rfl
theorem dX12_among_5 : decode cX12_among 5 = .ok (.ifCond .eq 29, 3) := dc_153 (gB_l lq_cX12_among (p := 5) (o := 153) rfl) (gB_l lq_cX12_among (p := 6) (o := 0) rfl) (gB_l lq_cX12_among (p := 7) (o := 29) rfl) rfl
theorem dX12_among_8 : decode cX12_among 8 = .ok (.iload_n 2, 1) := dc_28 (gB_l lq_cX12_among (p := 8) (o := 28) rfl)
theorem dX12_among_9 : decode cX12_among 9 = .ok (.invokestatic 245, 3) := dc_184 (gB_l lq_cX12_among (p := 9) (o := 184) rfl) (gB_l lq_cX12_among (p := 10) (o := 0) rfl) (gB_l lq_cX12_among (p := 11) (o := 245) rfl) rfl
theorem dX12_among_12 : decode cX12_among 12 = .ok (.ifCond .eq 22, 3) := dc_153 (gB_l lq_cX12_among (p := 12) (o := 153) rfl) (gB_l lq_cX12_among (p := 13) (o := 0) rfl) (gB_l lq_cX12_among (p := 14) (o := 22) rfl) rfl
theorem dX12_among_15 : decode cX12_among 15 = .ok (.iload_n 2, 1) := dc_28 (gB_l lq_cX12_among (p := 15) (o := 28) rfl)
theorem dX12_among_16 : decode cX12_among 16 = .ok (.invokestatic 232, 3) := dc_184 (gB_l lq_cX12_among (p := 16) (o := 184) rfl) (gB_l lq_cX12_among (p := 17) (o := 0) rfl) (gB_l lq_cX12_among (p := 18) (o := 232) rfl) rfl
theorem dX12_among_19 : decode cX12_among 19 = .ok (.ifCond .eq 15, 3) := dc_153 (gB_l lq_cX12_among (p := 19) (o := 153) rfl) (gB_l lq_cX12_among (p := 20) (o := 0) rfl) (gB_l lq_cX12_among (p := 21) (o := 15) rfl) rfl
theorem dX12_among_22 : decode cX12_among 22 = .ok (.iload_n 3, 1) := dc_29 (gB_l lq_cX12_among (p := 22) (o := 29) rfl)
theorem dX12_among_23 : decode cX12_among 23 = .ok (.invokestatic 245, 3) := dc_184 (gB_l lq_cX12_among (p := 23) (o := 184) rfl) (gB_l lq_cX12_among (p := 24) (o := 0) rfl) (gB_l lq_cX12_among (p := 25) (o := 245) rfl) rfl
theorem dX12_among_26 : decode cX12_among 26 = .ok (.ifCond .eq 8, 3) := dc_153 (gB_l lq_cX12_among (p := 26) (o := 153) rfl) (gB_l lq_cX12_among (p := 27) (o := 0) rfl) (gB_l lq_cX12_among (p := 28) (o := 8) rfl) rfl
theorem dX12_among_29 : decode cX12_among 29 = .ok (.iload_n 3, 1) := dc_29 (gB_l lq_cX12_among (p := 29) (o := 29) rfl)
theorem dX12_among_30 : decode cX12_among 30 = .ok (.iconst 2, 1) := dc_5 (gB_l lq_cX12_among (p := 30) (o := 5) rfl)
theorem dX12_among_31 : decode cX12_among 31 = .ok (.if_icmp .ne 6, 3) := dc_160 (gB_l lq_cX12_among (p := 31) (o := 160) rfl) (gB_c lq_cX12_among q1_cX12_among 0 (o := 0) rfl) (gB_c lq_cX12_among q1_cX12_among 1 (o := 6) rfl) rfl
theorem dX12_among_34 : decode cX12_among 34 = .ok (.bipush (-2), 2) := dc_16 (gB_c lq_cX12_among q1_cX12_among 2 (o := 16) rfl) (gB_c lq_cX12_among q1_cX12_among 3 (o := 254) rfl) rfl
theorem dX12_among_36 : decode cX12_among 36 = .ok (.ireturn, 1) := dc_172 (gB_c lq_cX12_among q1_cX12_among 4 (o := 172) rfl)
theorem dX12_among_37 : decode cX12_among 37 = .ok (.aload_n 0, 1) := dc_42 (gB_c lq_cX12_among q1_cX12_among 5 (o := 42) rfl)
theorem dX12_among_38 : decode cX12_among 38 = .ok (.iload_n 1, 1) := dc_27 (gB_c lq_cX12_among q1_cX12_among 6 (o := 27) rfl)
theorem dX12_among_39 : decode cX12_among 39 = .ok (.iload_n 2, 1) := dc_28 (gB_c lq_cX12_among q1_cX12_among 7 (o := 28) rfl)
theorem dX12_among_40 : decode cX12_among 40 = .ok (.invokevirtual 280, 3) := dc_182 (gB_c lq_cX12_among q1_cX12_among 8 (o := 182) rfl) (gB_c lq_cX12_among q1_cX12_among 9 (o := 1) rfl) (gB_c lq_cX12_among q1_cX12_among 10 (o := 24) rfl) rfl
theorem dX12_among_43 : decode cX12_among 43 = .ok (.aload_n 0, 1) := dc_42 (gB_c lq_cX12_among q1_cX12_among 11 (o := 42) rfl)
theorem dX12_among_44 : decode cX12_among 44 = .ok (.getfield 29, 3) := dc_180 (gB_c lq_cX12_among q1_cX12_among 12 (o := 180) rfl) (gB_c lq_cX12_among q1_cX12_among 13 (o := 0) rfl) (gB_c lq_cX12_among q1_cX12_among 14 (o := 29) rfl) rfl
theorem dX12_among_47 : decode cX12_among 47 = .ok (.iconst 0, 1) := dc_3 (gB_c lq_cX12_among q1_cX12_among 15 (o := 3) rfl)
theorem dX12_among_48 : decode cX12_among 48 = .ok (.iaload, 1) := dc_46 (gB_c lq_cX12_among q1_cX12_among 16 (o := 46) rfl)
theorem dX12_among_49 : decode cX12_among 49 = .ok (.istore 4, 2) := dc_54 (gB_c lq_cX12_among q1_cX12_among 17 (o := 54) rfl) (gB_c lq_cX12_among q1_cX12_among 18 (o := 4) rfl)
theorem dX12_among_51 : decode cX12_among 51 = .ok (.iconst 0, 1) := dc_3 (gB_c lq_cX12_among q1_cX12_among 19 (o := 3) rfl)
theorem dX12_among_52 : decode cX12_among 52 = .ok (.istore 5, 2) := dc_54 (gB_c lq_cX12_among q1_cX12_among 20 (o := 54) rfl) (gB_c lq_cX12_among q1_cX12_among 21 (o := 5) rfl)
theorem dX12_among_54 : decode cX12_among 54 = .ok (.iload 5, 2) := dc_21 (gB_c lq_cX12_among q1_cX12_among 22 (o := 21) rfl) (gB_c lq_cX12_among q1_cX12_among 23 (o := 5) rfl)
theorem dX12_among_56 : decode cX12_among 56 = .ok (.aload_n 0, 1) := dc_42 (gB_c lq_cX12_among q1_cX12_among 24 (o := 42) rfl)
theorem dX12_among_57 : decode cX12_among 57 = .ok (.getfield 266, 3) := dc_180 (gB_c lq_cX12_among q1_cX12_among 25 (o := 180) rfl) (gB_c lq_cX12_among q1_cX12_among 26 (o := 1) rfl) (gB_c lq_cX12_among q1_cX12_among 27 (o := 10) rfl) rfl
theorem dX12_among_60 : decode cX12_among 60 = .ok (.if_icmp .gt 73, 3) := dc_163 (gB_c lq_cX12_among q1_cX12_among 28 (o := 163) rfl) (gB_c lq_cX12_among q1_cX12_among 29 (o := 0) rfl) (gB_c lq_cX12_among q1_cX12_among 30 (o := 73) rfl) rfl
theorem dX12_among_63 : decode cX12_among 63 = .ok (.iconst 0, 1) := dc_3 (gB_c lq_cX12_among q1_cX12_among 31 (o := 3) rfl)
theorem dX12_among_64 : decode cX12_among 64 = .ok (.istore 6, 2) := dc_54 (gB_c lq_cX12_among q2_cX12_among 0 (o := 54) rfl) (gB_c lq_cX12_among q2_cX12_among 1 (o := 6) rfl)
theorem dX12_among_66 : decode cX12_among 66 = .ok (.iload 6, 2) := dc_21 (gB_c lq_cX12_among q2_cX12_among 2 (o := 21) rfl) (gB_c lq_cX12_among q2_cX12_among 3 (o := 6) rfl)
theorem dX12_among_68 : decode cX12_among 68 = .ok (.aload_n 0, 1) := dc_42 (gB_c lq_cX12_among q2_cX12_among 4 (o := 42) rfl)
theorem dX12_among_69 : decode cX12_among 69 = .ok (.iload_n 1, 1) := dc_27 (gB_c lq_cX12_among q2_cX12_among 5 (o := 27) rfl)
theorem dX12_among_70 : decode cX12_among 70 = .ok (.invokevirtual 63, 3) := dc_182 (gB_c lq_cX12_among q2_cX12_among 6 (o := 182) rfl) (gB_c lq_cX12_among q2_cX12_among 7 (o := 0) rfl) (gB_c lq_cX12_among q2_cX12_among 8 (o := 63) rfl) rfl
theorem dX12_among_73 : decode cX12_among 73 = .ok (.if_icmp .ge 54, 3) := dc_162 (gB_c lq_cX12_among q2_cX12_among 9 (o := 162) rfl) (gB_c lq_cX12_among q2_cX12_among 10 (o := 0) rfl) (gB_c lq_cX12_among q2_cX12_among 11 (o := 54) rfl) rfl
theorem dX12_among_76 : decode cX12_among 76 = .ok (.bipush 9, 2) := dc_16 (gB_c lq_cX12_among q2_cX12_among 12 (o := 16) rfl) (gB_c lq_cX12_among q2_cX12_among 13 (o := 9) rfl) rfl
theorem dX12_among_78 : decode cX12_among 78 = .ok (.iload 5, 2) := dc_21 (gB_c lq_cX12_among q2_cX12_among 14 (o := 21) rfl) (gB_c lq_cX12_among q2_cX12_among 15 (o := 5) rfl)
theorem dX12_among_80 : decode cX12_among 80 = .ok (.imul, 1) := dc_104 (gB_c lq_cX12_among q2_cX12_among 16 (o := 104) rfl)
theorem dX12_among_81 : decode cX12_among 81 = .ok (.iload 6, 2) := dc_21 (gB_c lq_cX12_among q2_cX12_among 17 (o := 21) rfl) (gB_c lq_cX12_among q2_cX12_among 18 (o := 6) rfl)
theorem dX12_among_83 : decode cX12_among 83 = .ok (.iadd, 1) := dc_96 (gB_c lq_cX12_among q2_cX12_among 19 (o := 96) rfl)
theorem dX12_among_84 : decode cX12_among 84 = .ok (.istore 7, 2) := dc_54 (gB_c lq_cX12_among q2_cX12_among 20 (o := 54) rfl) (gB_c lq_cX12_among q2_cX12_among 21 (o := 7) rfl)
theorem dX12_among_86 : decode cX12_among 86 = .ok (.aload_n 0, 1) := dc_42 (gB_c lq_cX12_among q2_cX12_among 22 (o := 42) rfl)
theorem dX12_among_87 : decode cX12_among 87 = .ok (.getfield 35, 3) := dc_180 (gB_c lq_cX12_among q2_cX12_among 23 (o := 180) rfl) (gB_c lq_cX12_among q2_cX12_among 24 (o := 0) rfl) (gB_c lq_cX12_among q2_cX12_among 25 (o := 35) rfl) rfl
theorem dX12_among_90 : decode cX12_among 90 = .ok (.iload 7, 2) := dc_21 (gB_c lq_cX12_among q2_cX12_among 26 (o := 21) rfl) (gB_c lq_cX12_among q2_cX12_among 27 (o := 7) rfl)
theorem dX12_among_92 : decode cX12_among 92 = .ok (.aload_n 0, 1) := dc_42 (gB_c lq_cX12_among q2_cX12_among 28 (o := 42) rfl)
theorem dX12_among_93 : decode cX12_among 93 = .ok (.getfield 35, 3) := dc_180 (gB_c lq_cX12_among q2_cX12_among 29 (o := 180) rfl) (gB_c lq_cX12_among q2_cX12_among 30 (o := 0) rfl) (gB_c lq_cX12_among q2_cX12_among 31 (o := 35) rfl) rfl
theorem dX12_among_96 : decode cX12_among 96 = .ok (.iload 7, 2) := dc_21 (gB_c lq_cX12_among q3_cX12_among 0 (o := 21) rfl) (gB_c lq_cX12_among q3_cX12_among 1 (o := 7) rfl)
theorem dX12_among_98 : decode cX12_among 98 = .ok (.iaload, 1) := dc_46 (gB_c lq_cX12_among q3_cX12_among 2 (o := 46) rfl)
theorem dX12_among_99 : decode cX12_among 99 = .ok (.iload 4, 2) := dc_21 (gB_c lq_cX12_among q3_cX12_among 3 (o := 21) rfl) (gB_c lq_cX12_among q3_cX12_among 4 (o := 4) rfl)
theorem dX12_among_101 : decode cX12_among 101 = .ok (.if_icmp .le 9, 3) := dc_164 (gB_c lq_cX12_among q3_cX12_among 5 (o := 164) rfl) (gB_c lq_cX12_among q3_cX12_among 6 (o := 0) rfl) (gB_c lq_cX12_among q3_cX12_among 7 (o := 9) rfl) rfl
theorem dX12_among_104 : decode cX12_among 104 = .ok (.ldc_w 269, 3) := dc_19 (gB_c lq_cX12_among q3_cX12_among 8 (o := 19) rfl) (gB_c lq_cX12_among q3_cX12_among 9 (o := 1) rfl) (gB_c lq_cX12_among q3_cX12_among 10 (o := 13) rfl) rfl
theorem dX12_among_107 : decode cX12_among 107 = .ok (.goto 13, 3) := dc_167 (gB_c lq_cX12_among q3_cX12_among 11 (o := 167) rfl) (gB_c lq_cX12_among q3_cX12_among 12 (o := 0) rfl) (gB_c lq_cX12_among q3_cX12_among 13 (o := 13) rfl) rfl
theorem dX12_among_110 : decode cX12_among 110 = .ok (.aload_n 0, 1) := dc_42 (gB_c lq_cX12_among q3_cX12_among 14 (o := 42) rfl)
theorem dX12_among_111 : decode cX12_among 111 = .ok (.iload_n 1, 1) := dc_27 (gB_c lq_cX12_among q3_cX12_among 15 (o := 27) rfl)
theorem dX12_among_112 : decode cX12_among 112 = .ok (.iload_n 3, 1) := dc_29 (gB_c lq_cX12_among q3_cX12_among 16 (o := 29) rfl)
theorem dX12_among_113 : decode cX12_among 113 = .ok (.iload 5, 2) := dc_21 (gB_c lq_cX12_among q3_cX12_among 17 (o := 21) rfl) (gB_c lq_cX12_among q3_cX12_among 18 (o := 5) rfl)
theorem dX12_among_115 : decode cX12_among 115 = .ok (.iload 6, 2) := dc_21 (gB_c lq_cX12_among q3_cX12_among 19 (o := 21) rfl) (gB_c lq_cX12_among q3_cX12_among 20 (o := 6) rfl)
theorem dX12_among_117 : decode cX12_among 117 = .ok (.invokevirtual 238, 3) := dc_182 (gB_c lq_cX12_among q3_cX12_among 21 (o := 182) rfl) (gB_c lq_cX12_among q3_cX12_among 22 (o := 0) rfl) (gB_c lq_cX12_among q3_cX12_among 23 (o := 238) rfl) rfl
theorem dX12_among_120 : decode cX12_among 120 = .ok (.iastore, 1) := dc_79 (gB_c lq_cX12_among q3_cX12_among 24 (o := 79) rfl)
theorem dX12_among_121 : decode cX12_among 121 = .ok (.iinc 6 1, 3) := dc_132 (gB_c lq_cX12_among q3_cX12_among 25 (o := 132) rfl) (gB_c lq_cX12_among q3_cX12_among 26 (o := 6) rfl) (gB_c lq_cX12_among q3_cX12_among 27 (o := 1) rfl) rfl
theorem dX12_among_124 : decode cX12_among 124 = .ok (.goto (-58), 3) := dc_167 (gB_c lq_cX12_among q3_cX12_among 28 (o := 167) rfl) (gB_c lq_cX12_among q3_cX12_among 29 (o := 255) rfl) (gB_c lq_cX12_among q3_cX12_among 30 (o := 198) rfl) rfl
theorem dX12_among_127 : decode cX12_among 127 = .ok (.iinc 5 1, 3) := dc_132 (gB_c lq_cX12_among q3_cX12_among 31 (o := 132) rfl) (gB_c lq_cX12_among q4_cX12_among 0 (o := 5) rfl) (gB_c lq_cX12_among q4_cX12_among 1 (o := 1) rfl) rfl
theorem dX12_among_130 : decode cX12_among 130 = .ok (.goto (-76), 3) := dc_167 (gB_c lq_cX12_among q4_cX12_among 2 (o := 167) rfl) (gB_c lq_cX12_among q4_cX12_among 3 (o := 255) rfl) (gB_c lq_cX12_among q4_cX12_among 4 (o := 180) rfl) rfl
theorem dX12_among_133 : decode cX12_among 133 = .ok (.aload_n 0, 1) := dc_42 (gB_c lq_cX12_among q4_cX12_among 5 (o := 42) rfl)
theorem dX12_among_134 : decode cX12_among 134 = .ok (.iload_n 1, 1) := dc_27 (gB_c lq_cX12_among q4_cX12_among 6 (o := 27) rfl)
theorem dX12_among_135 : decode cX12_among 135 = .ok (.iload_n 3, 1) := dc_29 (gB_c lq_cX12_among q4_cX12_among 7 (o := 29) rfl)
theorem dX12_among_136 : decode cX12_among 136 = .ok (.invokevirtual 274, 3) := dc_182 (gB_c lq_cX12_among q4_cX12_among 8 (o := 182) rfl) (gB_c lq_cX12_among q4_cX12_among 9 (o := 1) rfl) (gB_c lq_cX12_among q4_cX12_among 10 (o := 18) rfl) rfl
theorem dX12_among_139 : decode cX12_among 139 = .ok (.aload_n 0, 1) := dc_42 (gB_c lq_cX12_among q4_cX12_among 11 (o := 42) rfl)
theorem dX12_among_140 : decode cX12_among 140 = .ok (.getfield 29, 3) := dc_180 (gB_c lq_cX12_among q4_cX12_among 12 (o := 180) rfl) (gB_c lq_cX12_among q4_cX12_among 13 (o := 0) rfl) (gB_c lq_cX12_among q4_cX12_among 14 (o := 29) rfl) rfl
theorem dX12_among_143 : decode cX12_among 143 = .ok (.iconst 0, 1) := dc_3 (gB_c lq_cX12_among q4_cX12_among 15 (o := 3) rfl)
theorem dX12_among_144 : decode cX12_among 144 = .ok (.iaload, 1) := dc_46 (gB_c lq_cX12_among q4_cX12_among 16 (o := 46) rfl)
theorem dX12_among_145 : decode cX12_among 145 = .ok (.ireturn, 1) := dc_172 (gB_c lq_cX12_among q4_cX12_among 17 (o := 172) rfl)
abbrev r0_cX12_areTwo : List Nat := [42, 27, 28, 182, 0, 70, 153, 0, 21, 42, 27, 29, 182, 0, 70, 153, 0, 12, 28, 29, 159, 0, 7, 4, 167, 0, 4, 3, 172]
theorem lq_cX12_areTwo : (cX12_areTwo).data.toList.map UInt8.toNat = r0_cX12_areTwo := by decide +kernel
theorem dX12_areTwo_0 : decode cX12_areTwo 0 = .ok (.aload_n 0, 1) := dc_42 (gB_l lq_cX12_areTwo (p := 0) (o := 42) rfl)
theorem dX12_areTwo_1 : decode cX12_areTwo 1 = .ok (.iload_n 1, 1) := dc_27 (gB_l lq_cX12_areTwo (p := 1) (o := 27) rfl)
theorem dX12_areTwo_2 : decode cX12_areTwo 2 = .ok (.iload_n 2, 1) := dc_28 (gB_l lq_cX12_areTwo (p := 2) (o := 28) rfl)
theorem dX12_areTwo_3 : decode cX12_areTwo 3 = .ok (.invokevirtual 70, 3) := dc_182 (gB_l lq_cX12_areTwo (p := 3) (o := 182) rfl) (gB_l lq_cX12_areTwo (p := 4) (o := 0) rfl) (gB_l lq_cX12_areTwo (p := 5) (o := 70) rfl) rfl
theorem dX12_areTwo_6 : decode cX12_areTwo 6 = .ok (.ifCond .eq 21, 3) := dc_153 (gB_l lq_cX12_areTwo (p := 6) (o := 153) rfl) (gB_l lq_cX12_areTwo (p := 7) (o := 0) rfl) (gB_l lq_cX12_areTwo (p := 8) (o := 21) rfl) rfl
theorem dX12_areTwo_9 : decode cX12_areTwo 9 = .ok (.aload_n 0, 1) := dc_42 (gB_l lq_cX12_areTwo (p := 9) (o := 42) rfl)
theorem dX12_areTwo_10 : decode cX12_areTwo 10 = .ok (.iload_n 1, 1) := dc_27 (gB_l lq_cX12_areTwo (p := 10) (o := 27) rfl)
theorem dX12_areTwo_11 : decode cX12_areTwo 11 = .ok (.iload_n 3, 1) := dc_29 (gB_l lq_cX12_areTwo (p := 11) (o := 29) rfl)
theorem dX12_areTwo_12 : decode cX12_areTwo 12 = .ok (.invokevirtual 70, 3) := dc_182 (gB_l lq_cX12_areTwo (p := 12) (o := 182) rfl) (gB_l lq_cX12_areTwo (p := 13) (o := 0) rfl) (gB_l lq_cX12_areTwo (p := 14) (o := 70) rfl) rfl
theorem dX12_areTwo_15 : decode cX12_areTwo 15 = .ok (.ifCond .eq 12, 3) := dc_153 (gB_l lq_cX12_areTwo (p := 15) (o := 153) rfl) (gB_l lq_cX12_areTwo (p := 16) (o := 0) rfl) (gB_l lq_cX12_areTwo (p := 17) (o := 12) rfl) rfl
theorem dX12_areTwo_18 : decode cX12_areTwo 18 = .ok (.iload_n 2, 1) := dc_28 (gB_l lq_cX12_areTwo (p := 18) (o := 28) rfl)
theorem dX12_areTwo_19 : decode cX12_areTwo 19 = .ok (.iload_n 3, 1) := dc_29 (gB_l lq_cX12_areTwo (p := 19) (o := 29) rfl)
theorem dX12_areTwo_20 : decode cX12_areTwo 20 = .ok (.if_icmp .eq 7, 3) := dc_159 (gB_l lq_cX12_areTwo (p := 20) (o := 159) rfl) (gB_l lq_cX12_areTwo (p := 21) (o := 0) rfl) (gB_l lq_cX12_areTwo (p := 22) (o := 7) rfl) rfl
theorem dX12_areTwo_23 : decode cX12_areTwo 23 = .ok (.iconst 1, 1) := dc_4 (gB_l lq_cX12_areTwo (p := 23) (o := 4) rfl)
theorem dX12_areTwo_24 : decode cX12_areTwo 24 = .ok (.goto 4, 3) := dc_167 (gB_l lq_cX12_areTwo (p := 24) (o := 167) rfl) (gB_l lq_cX12_areTwo (p := 25) (o := 0) rfl) (gB_l lq_cX12_areTwo (p := 26) (o := 4) rfl) rfl
theorem dX12_areTwo_27 : decode cX12_areTwo 27 = .ok (.iconst 0, 1) := dc_3 (gB_l lq_cX12_areTwo (p := 27) (o := 3) rfl)
theorem dX12_areTwo_28 : decode cX12_areTwo 28 = .ok (.ireturn, 1) := dc_172 (gB_l lq_cX12_areTwo (p := 28) (o := 172) rfl)
abbrev r0_cX12_at : List Nat := [42, 180, 0, 7, 16, 91, 27, 104, 16, 82, 96, 28, 96, 46, 172]
theorem lq_cX12_at : (cX12_at).data.toList.map UInt8.toNat = r0_cX12_at := by decide +kernel
theorem dX12_at_0 : decode cX12_at 0 = .ok (.aload_n 0, 1) := dc_42 (gB_l lq_cX12_at (p := 0) (o := 42) rfl)
theorem dX12_at_1 : decode cX12_at 1 = .ok (.getfield 7, 3) := dc_180 (gB_l lq_cX12_at (p := 1) (o := 180) rfl) (gB_l lq_cX12_at (p := 2) (o := 0) rfl) (gB_l lq_cX12_at (p := 3) (o := 7) rfl) rfl
theorem dX12_at_4 : decode cX12_at 4 = .ok (.bipush 91, 2) := dc_16 (gB_l lq_cX12_at (p := 4) (o := 16) rfl) (gB_l lq_cX12_at (p := 5) (o := 91) rfl) rfl
theorem dX12_at_6 : decode cX12_at 6 = .ok (.iload_n 1, 1) := dc_27 (gB_l lq_cX12_at (p := 6) (o := 27) rfl)
theorem dX12_at_7 : decode cX12_at 7 = .ok (.imul, 1) := dc_104 (gB_l lq_cX12_at (p := 7) (o := 104) rfl)
theorem dX12_at_8 : decode cX12_at 8 = .ok (.bipush 82, 2) := dc_16 (gB_l lq_cX12_at (p := 8) (o := 16) rfl) (gB_l lq_cX12_at (p := 9) (o := 82) rfl) rfl
theorem dX12_at_10 : decode cX12_at 10 = .ok (.iadd, 1) := dc_96 (gB_l lq_cX12_at (p := 10) (o := 96) rfl)
theorem dX12_at_11 : decode cX12_at 11 = .ok (.iload_n 2, 1) := dc_28 (gB_l lq_cX12_at (p := 11) (o := 28) rfl)
theorem dX12_at_12 : decode cX12_at 12 = .ok (.iadd, 1) := dc_96 (gB_l lq_cX12_at (p := 12) (o := 96) rfl)
theorem dX12_at_13 : decode cX12_at 13 = .ok (.iaload, 1) := dc_46 (gB_l lq_cX12_at (p := 13) (o := 46) rfl)
theorem dX12_at_14 : decode cX12_at 14 = .ok (.ireturn, 1) := dc_172 (gB_l lq_cX12_at (p := 14) (o := 172) rfl)
abbrev r3_cX12_bag : List Nat := [21, 5, 2, 130, 126, 153, 0, 10, 4, 21, 7, 120, 167, 0, 4, 3, 128, 54, 6, 132, 7, 1, 167, 255, 205, 21, 6, 172]
def a2_cX12_bag : List Nat := [3, 54, 7, 21, 7, 42, 27, 182, 0, 63, 162, 0, 47, 21, 6, 21, 5, 21, 7, 184, 0, 166, 153, 0, 25, 42, 27, 21, 7, 182, 0, 80]
abbrev r2_cX12_bag : List Nat := a2_cX12_bag ++ r3_cX12_bag
def a1_cX12_bag : List Nat := [29, 182, 1, 1, 54, 5, 28, 4, 160, 0, 18, 42, 27, 21, 5, 21, 4, 182, 0, 223, 4, 21, 4, 120, 128, 172, 4, 21, 4, 120, 54, 6]
abbrev r1_cX12_bag : List Nat := a1_cX12_bag ++ r2_cX12_bag
def a0_cX12_bag : List Nat := [42, 27, 29, 182, 0, 70, 153, 0, 13, 28, 133, 9, 10, 184, 0, 55, 154, 0, 6, 16, 254, 172, 42, 27, 29, 182, 0, 217, 54, 4, 42, 27]
abbrev r0_cX12_bag : List Nat := a0_cX12_bag ++ r1_cX12_bag
theorem lq_cX12_bag : (cX12_bag).data.toList.map UInt8.toNat = r0_cX12_bag := by decide +kernel
theorem q1_cX12_bag : ∀ i, (r0_cX12_bag)[32 + i]? = (r1_cX12_bag)[i]? := chn (A := a0_cX12_bag) (B := r1_cX12_bag) (n := 0) (k := 32) rfl (ch0 (R := r0_cX12_bag))
theorem q2_cX12_bag : ∀ i, (r0_cX12_bag)[64 + i]? = (r2_cX12_bag)[i]? := chn (A := a1_cX12_bag) (B := r2_cX12_bag) (n := 32) (k := 32) rfl q1_cX12_bag
theorem q3_cX12_bag : ∀ i, (r0_cX12_bag)[96 + i]? = (r3_cX12_bag)[i]? := chn (A := a2_cX12_bag) (B := r3_cX12_bag) (n := 64) (k := 32) rfl q2_cX12_bag
theorem dX12_bag_0 : decode cX12_bag 0 = .ok (.aload_n 0, 1) := dc_42 (gB_l lq_cX12_bag (p := 0) (o := 42) rfl)
theorem dX12_bag_1 : decode cX12_bag 1 = .ok (.iload_n 1, 1) := dc_27 (gB_l lq_cX12_bag (p := 1) (o := 27) rfl)
theorem dX12_bag_2 : decode cX12_bag 2 = .ok (.iload_n 3, 1) := dc_29 (gB_l lq_cX12_bag (p := 2) (o := 29) rfl)
theorem dX12_bag_3 : decode cX12_bag 3 = .ok (.invokevirtual 70, 3) := dc_182 (gB_l lq_cX12_bag (p := 3) (o := 182) rfl) (gB_l lq_cX12_bag (p := 4) (o := 0) rfl) (gB_l lq_cX12_bag (p := 5) (o := 70) rfl) rfl
theorem dX12_bag_6 : decode cX12_bag 6 = .ok (.ifCond .eq 13, 3) := dc_153 (gB_l lq_cX12_bag (p := 6) (o := 153) rfl) (gB_l lq_cX12_bag (p := 7) (o := 0) rfl) (gB_l lq_cX12_bag (p := 8) (o := 13) rfl) rfl
theorem dX12_bag_9 : decode cX12_bag 9 = .ok (.iload_n 2, 1) := dc_28 (gB_l lq_cX12_bag (p := 9) (o := 28) rfl)
theorem dX12_bag_10 : decode cX12_bag 10 = .ok (.i2l, 1) := dc_133 (gB_l lq_cX12_bag (p := 10) (o := 133) rfl)
theorem dX12_bag_11 : decode cX12_bag 11 = .ok (.lconst 0, 1) := dc_9 (gB_l lq_cX12_bag (p := 11) (o := 9) rfl)
theorem dX12_bag_12 : decode cX12_bag 12 = .ok (.lconst 1, 1) := dc_10 (gB_l lq_cX12_bag (p := 12) (o := 10) rfl)
theorem dX12_bag_13 : decode cX12_bag 13 = .ok (.invokestatic 55, 3) := dc_184 (gB_l lq_cX12_bag (p := 13) (o := 184) rfl) (gB_l lq_cX12_bag (p := 14) (o := 0) rfl) (gB_l lq_cX12_bag (p := 15) (o := 55) rfl) rfl
theorem dX12_bag_16 : decode cX12_bag 16 = .ok (.ifCond .ne 6, 3) := dc_154 (gB_l lq_cX12_bag (p := 16) (o := 154) rfl) (gB_l lq_cX12_bag (p := 17) (o := 0) rfl) (gB_l lq_cX12_bag (p := 18) (o := 6) rfl) rfl
theorem dX12_bag_19 : decode cX12_bag 19 = .ok (.bipush (-2), 2) := dc_16 (gB_l lq_cX12_bag (p := 19) (o := 16) rfl) (gB_l lq_cX12_bag (p := 20) (o := 254) rfl) rfl
theorem dX12_bag_21 : decode cX12_bag 21 = .ok (.ireturn, 1) := dc_172 (gB_l lq_cX12_bag (p := 21) (o := 172) rfl)
theorem dX12_bag_22 : decode cX12_bag 22 = .ok (.aload_n 0, 1) := dc_42 (gB_l lq_cX12_bag (p := 22) (o := 42) rfl)
theorem dX12_bag_23 : decode cX12_bag 23 = .ok (.iload_n 1, 1) := dc_27 (gB_l lq_cX12_bag (p := 23) (o := 27) rfl)
theorem dX12_bag_24 : decode cX12_bag 24 = .ok (.iload_n 3, 1) := dc_29 (gB_l lq_cX12_bag (p := 24) (o := 29) rfl)
theorem dX12_bag_25 : decode cX12_bag 25 = .ok (.invokevirtual 217, 3) := dc_182 (gB_l lq_cX12_bag (p := 25) (o := 182) rfl) (gB_l lq_cX12_bag (p := 26) (o := 0) rfl) (gB_l lq_cX12_bag (p := 27) (o := 217) rfl) rfl
theorem dX12_bag_28 : decode cX12_bag 28 = .ok (.istore 4, 2) := dc_54 (gB_l lq_cX12_bag (p := 28) (o := 54) rfl) (gB_l lq_cX12_bag (p := 29) (o := 4) rfl)
theorem dX12_bag_30 : decode cX12_bag 30 = .ok (.aload_n 0, 1) := dc_42 (gB_l lq_cX12_bag (p := 30) (o := 42) rfl)
theorem dX12_bag_31 : decode cX12_bag 31 = .ok (.iload_n 1, 1) := dc_27 (gB_l lq_cX12_bag (p := 31) (o := 27) rfl)
theorem dX12_bag_32 : decode cX12_bag 32 = .ok (.iload_n 3, 1) := dc_29 (gB_c lq_cX12_bag q1_cX12_bag 0 (o := 29) rfl)
theorem dX12_bag_33 : decode cX12_bag 33 = .ok (.invokevirtual 257, 3) := dc_182 (gB_c lq_cX12_bag q1_cX12_bag 1 (o := 182) rfl) (gB_c lq_cX12_bag q1_cX12_bag 2 (o := 1) rfl) (gB_c lq_cX12_bag q1_cX12_bag 3 (o := 1) rfl) rfl
theorem dX12_bag_36 : decode cX12_bag 36 = .ok (.istore 5, 2) := dc_54 (gB_c lq_cX12_bag q1_cX12_bag 4 (o := 54) rfl) (gB_c lq_cX12_bag q1_cX12_bag 5 (o := 5) rfl)
theorem dX12_bag_38 : decode cX12_bag 38 = .ok (.iload_n 2, 1) := dc_28 (gB_c lq_cX12_bag q1_cX12_bag 6 (o := 28) rfl)
theorem dX12_bag_39 : decode cX12_bag 39 = .ok (.iconst 1, 1) := dc_4 (gB_c lq_cX12_bag q1_cX12_bag 7 (o := 4) rfl)
theorem dX12_bag_40 : decode cX12_bag 40 = .ok (.if_icmp .ne 18, 3) := dc_160 (gB_c lq_cX12_bag q1_cX12_bag 8 (o := 160) rfl) (gB_c lq_cX12_bag q1_cX12_bag 9 (o := 0) rfl) (gB_c lq_cX12_bag q1_cX12_bag 10 (o := 18) rfl) rfl
theorem dX12_bag_43 : decode cX12_bag 43 = .ok (.aload_n 0, 1) := dc_42 (gB_c lq_cX12_bag q1_cX12_bag 11 (o := 42) rfl)
theorem dX12_bag_44 : decode cX12_bag 44 = .ok (.iload_n 1, 1) := dc_27 (gB_c lq_cX12_bag q1_cX12_bag 12 (o := 27) rfl)
theorem dX12_bag_45 : decode cX12_bag 45 = .ok (.iload 5, 2) := dc_21 (gB_c lq_cX12_bag q1_cX12_bag 13 (o := 21) rfl) (gB_c lq_cX12_bag q1_cX12_bag 14 (o := 5) rfl)
theorem dX12_bag_47 : decode cX12_bag 47 = .ok (.iload 4, 2) := dc_21 (gB_c lq_cX12_bag q1_cX12_bag 15 (o := 21) rfl) (gB_c lq_cX12_bag q1_cX12_bag 16 (o := 4) rfl)
theorem dX12_bag_49 : decode cX12_bag 49 = .ok (.invokevirtual 223, 3) := dc_182 (gB_c lq_cX12_bag q1_cX12_bag 17 (o := 182) rfl) (gB_c lq_cX12_bag q1_cX12_bag 18 (o := 0) rfl) (gB_c lq_cX12_bag q1_cX12_bag 19 (o := 223) rfl) rfl
theorem dX12_bag_52 : decode cX12_bag 52 = .ok (.iconst 1, 1) := dc_4 (gB_c lq_cX12_bag q1_cX12_bag 20 (o := 4) rfl)
theorem dX12_bag_53 : decode cX12_bag 53 = .ok (.iload 4, 2) := dc_21 (gB_c lq_cX12_bag q1_cX12_bag 21 (o := 21) rfl) (gB_c lq_cX12_bag q1_cX12_bag 22 (o := 4) rfl)
theorem dX12_bag_55 : decode cX12_bag 55 = .ok (.ishl, 1) := dc_120 (gB_c lq_cX12_bag q1_cX12_bag 23 (o := 120) rfl)
theorem dX12_bag_56 : decode cX12_bag 56 = .ok (.ior, 1) := dc_128 (gB_c lq_cX12_bag q1_cX12_bag 24 (o := 128) rfl)
theorem dX12_bag_57 : decode cX12_bag 57 = .ok (.ireturn, 1) := dc_172 (gB_c lq_cX12_bag q1_cX12_bag 25 (o := 172) rfl)
theorem dX12_bag_58 : decode cX12_bag 58 = .ok (.iconst 1, 1) := dc_4 (gB_c lq_cX12_bag q1_cX12_bag 26 (o := 4) rfl)
theorem dX12_bag_59 : decode cX12_bag 59 = .ok (.iload 4, 2) := dc_21 (gB_c lq_cX12_bag q1_cX12_bag 27 (o := 21) rfl) (gB_c lq_cX12_bag q1_cX12_bag 28 (o := 4) rfl)
theorem dX12_bag_61 : decode cX12_bag 61 = .ok (.ishl, 1) := dc_120 (gB_c lq_cX12_bag q1_cX12_bag 29 (o := 120) rfl)
theorem dX12_bag_62 : decode cX12_bag 62 = .ok (.istore 6, 2) := dc_54 (gB_c lq_cX12_bag q1_cX12_bag 30 (o := 54) rfl) (gB_c lq_cX12_bag q1_cX12_bag 31 (o := 6) rfl)
theorem dX12_bag_64 : decode cX12_bag 64 = .ok (.iconst 0, 1) := dc_3 (gB_c lq_cX12_bag q2_cX12_bag 0 (o := 3) rfl)
theorem dX12_bag_65 : decode cX12_bag 65 = .ok (.istore 7, 2) := dc_54 (gB_c lq_cX12_bag q2_cX12_bag 1 (o := 54) rfl) (gB_c lq_cX12_bag q2_cX12_bag 2 (o := 7) rfl)
theorem dX12_bag_67 : decode cX12_bag 67 = .ok (.iload 7, 2) := dc_21 (gB_c lq_cX12_bag q2_cX12_bag 3 (o := 21) rfl) (gB_c lq_cX12_bag q2_cX12_bag 4 (o := 7) rfl)
theorem dX12_bag_69 : decode cX12_bag 69 = .ok (.aload_n 0, 1) := dc_42 (gB_c lq_cX12_bag q2_cX12_bag 5 (o := 42) rfl)
theorem dX12_bag_70 : decode cX12_bag 70 = .ok (.iload_n 1, 1) := dc_27 (gB_c lq_cX12_bag q2_cX12_bag 6 (o := 27) rfl)
theorem dX12_bag_71 : decode cX12_bag 71 = .ok (.invokevirtual 63, 3) := dc_182 (gB_c lq_cX12_bag q2_cX12_bag 7 (o := 182) rfl) (gB_c lq_cX12_bag q2_cX12_bag 8 (o := 0) rfl) (gB_c lq_cX12_bag q2_cX12_bag 9 (o := 63) rfl) rfl
theorem dX12_bag_74 : decode cX12_bag 74 = .ok (.if_icmp .ge 47, 3) := dc_162 (gB_c lq_cX12_bag q2_cX12_bag 10 (o := 162) rfl) (gB_c lq_cX12_bag q2_cX12_bag 11 (o := 0) rfl) (gB_c lq_cX12_bag q2_cX12_bag 12 (o := 47) rfl) rfl
theorem dX12_bag_77 : decode cX12_bag 77 = .ok (.iload 6, 2) := dc_21 (gB_c lq_cX12_bag q2_cX12_bag 13 (o := 21) rfl) (gB_c lq_cX12_bag q2_cX12_bag 14 (o := 6) rfl)
theorem dX12_bag_79 : decode cX12_bag 79 = .ok (.iload 5, 2) := dc_21 (gB_c lq_cX12_bag q2_cX12_bag 15 (o := 21) rfl) (gB_c lq_cX12_bag q2_cX12_bag 16 (o := 5) rfl)
theorem dX12_bag_81 : decode cX12_bag 81 = .ok (.iload 7, 2) := dc_21 (gB_c lq_cX12_bag q2_cX12_bag 17 (o := 21) rfl) (gB_c lq_cX12_bag q2_cX12_bag 18 (o := 7) rfl)
theorem dX12_bag_83 : decode cX12_bag 83 = .ok (.invokestatic 166, 3) := dc_184 (gB_c lq_cX12_bag q2_cX12_bag 19 (o := 184) rfl) (gB_c lq_cX12_bag q2_cX12_bag 20 (o := 0) rfl) (gB_c lq_cX12_bag q2_cX12_bag 21 (o := 166) rfl) rfl
theorem dX12_bag_86 : decode cX12_bag 86 = .ok (.ifCond .eq 25, 3) := dc_153 (gB_c lq_cX12_bag q2_cX12_bag 22 (o := 153) rfl) (gB_c lq_cX12_bag q2_cX12_bag 23 (o := 0) rfl) (gB_c lq_cX12_bag q2_cX12_bag 24 (o := 25) rfl) rfl
theorem dX12_bag_89 : decode cX12_bag 89 = .ok (.aload_n 0, 1) := dc_42 (gB_c lq_cX12_bag q2_cX12_bag 25 (o := 42) rfl)
theorem dX12_bag_90 : decode cX12_bag 90 = .ok (.iload_n 1, 1) := dc_27 (gB_c lq_cX12_bag q2_cX12_bag 26 (o := 27) rfl)
theorem dX12_bag_91 : decode cX12_bag 91 = .ok (.iload 7, 2) := dc_21 (gB_c lq_cX12_bag q2_cX12_bag 27 (o := 21) rfl) (gB_c lq_cX12_bag q2_cX12_bag 28 (o := 7) rfl)
theorem dX12_bag_93 : decode cX12_bag 93 = .ok (.invokevirtual 80, 3) := dc_182 (gB_c lq_cX12_bag q2_cX12_bag 29 (o := 182) rfl) (gB_c lq_cX12_bag q2_cX12_bag 30 (o := 0) rfl) (gB_c lq_cX12_bag q2_cX12_bag 31 (o := 80) rfl) rfl
theorem dX12_bag_96 : decode cX12_bag 96 = .ok (.iload 5, 2) := dc_21 (gB_c lq_cX12_bag q3_cX12_bag 0 (o := 21) rfl) (gB_c lq_cX12_bag q3_cX12_bag 1 (o := 5) rfl)
theorem dX12_bag_98 : decode cX12_bag 98 = .ok (.iconst (-1), 1) := dc_2 (gB_c lq_cX12_bag q3_cX12_bag 2 (o := 2) rfl)
theorem dX12_bag_99 : decode cX12_bag 99 = .ok (.ixor, 1) := dc_130 (gB_c lq_cX12_bag q3_cX12_bag 3 (o := 130) rfl)
theorem dX12_bag_100 : decode cX12_bag 100 = .ok (.iand, 1) := dc_126 (gB_c lq_cX12_bag q3_cX12_bag 4 (o := 126) rfl)
theorem dX12_bag_101 : decode cX12_bag 101 = .ok (.ifCond .eq 10, 3) := dc_153 (gB_c lq_cX12_bag q3_cX12_bag 5 (o := 153) rfl) (gB_c lq_cX12_bag q3_cX12_bag 6 (o := 0) rfl) (gB_c lq_cX12_bag q3_cX12_bag 7 (o := 10) rfl) rfl
theorem dX12_bag_104 : decode cX12_bag 104 = .ok (.iconst 1, 1) := dc_4 (gB_c lq_cX12_bag q3_cX12_bag 8 (o := 4) rfl)
theorem dX12_bag_105 : decode cX12_bag 105 = .ok (.iload 7, 2) := dc_21 (gB_c lq_cX12_bag q3_cX12_bag 9 (o := 21) rfl) (gB_c lq_cX12_bag q3_cX12_bag 10 (o := 7) rfl)
theorem dX12_bag_107 : decode cX12_bag 107 = .ok (.ishl, 1) := dc_120 (gB_c lq_cX12_bag q3_cX12_bag 11 (o := 120) rfl)
theorem dX12_bag_108 : decode cX12_bag 108 = .ok (.goto 4, 3) := dc_167 (gB_c lq_cX12_bag q3_cX12_bag 12 (o := 167) rfl) (gB_c lq_cX12_bag q3_cX12_bag 13 (o := 0) rfl) (gB_c lq_cX12_bag q3_cX12_bag 14 (o := 4) rfl) rfl
theorem dX12_bag_111 : decode cX12_bag 111 = .ok (.iconst 0, 1) := dc_3 (gB_c lq_cX12_bag q3_cX12_bag 15 (o := 3) rfl)
theorem dX12_bag_112 : decode cX12_bag 112 = .ok (.ior, 1) := dc_128 (gB_c lq_cX12_bag q3_cX12_bag 16 (o := 128) rfl)
theorem dX12_bag_113 : decode cX12_bag 113 = .ok (.istore 6, 2) := dc_54 (gB_c lq_cX12_bag q3_cX12_bag 17 (o := 54) rfl) (gB_c lq_cX12_bag q3_cX12_bag 18 (o := 6) rfl)
theorem dX12_bag_115 : decode cX12_bag 115 = .ok (.iinc 7 1, 3) := dc_132 (gB_c lq_cX12_bag q3_cX12_bag 19 (o := 132) rfl) (gB_c lq_cX12_bag q3_cX12_bag 20 (o := 7) rfl) (gB_c lq_cX12_bag q3_cX12_bag 21 (o := 1) rfl) rfl
theorem dX12_bag_118 : decode cX12_bag 118 = .ok (.goto (-51), 3) := dc_167 (gB_c lq_cX12_bag q3_cX12_bag 22 (o := 167) rfl) (gB_c lq_cX12_bag q3_cX12_bag 23 (o := 255) rfl) (gB_c lq_cX12_bag q3_cX12_bag 24 (o := 205) rfl) rfl
theorem dX12_bag_121 : decode cX12_bag 121 = .ok (.iload 6, 2) := dc_21 (gB_c lq_cX12_bag q3_cX12_bag 25 (o := 21) rfl) (gB_c lq_cX12_bag q3_cX12_bag 26 (o := 6) rfl)
theorem dX12_bag_123 : decode cX12_bag 123 = .ok (.ireturn, 1) := dc_172 (gB_c lq_cX12_bag q3_cX12_bag 27 (o := 172) rfl)
abbrev r3_cX12_balls : List Nat := [104, 108, 184, 0, 199, 61, 132, 4, 1, 167, 255, 167, 132, 3, 1, 167, 255, 149, 28, 172]
def a2_cX12_balls : List Nat := [0, 55, 153, 0, 7, 4, 167, 0, 4, 3, 96, 54, 5, 132, 6, 1, 167, 255, 208, 28, 21, 5, 5, 21, 4, 104, 96, 4, 100, 5, 21, 4]
abbrev r2_cX12_balls : List Nat := a2_cX12_balls ++ r3_cX12_balls
def a1_cX12_balls : List Nat := [21, 6, 42, 27, 182, 0, 63, 162, 0, 44, 21, 5, 21, 6, 29, 159, 0, 26, 42, 27, 29, 21, 6, 182, 0, 196, 133, 10, 21, 4, 133, 184]
abbrev r1_cX12_balls : List Nat := a1_cX12_balls ++ r2_cX12_balls
def a0_cX12_balls : List Nat := [3, 61, 3, 62, 29, 42, 27, 182, 0, 63, 162, 0, 104, 4, 54, 4, 21, 4, 42, 27, 182, 0, 63, 162, 0, 85, 3, 54, 5, 3, 54, 6]
abbrev r0_cX12_balls : List Nat := a0_cX12_balls ++ r1_cX12_balls
theorem lq_cX12_balls : (cX12_balls).data.toList.map UInt8.toNat = r0_cX12_balls := by decide +kernel
theorem q1_cX12_balls : ∀ i, (r0_cX12_balls)[32 + i]? = (r1_cX12_balls)[i]? := chn (A := a0_cX12_balls) (B := r1_cX12_balls) (n := 0) (k := 32) rfl (ch0 (R := r0_cX12_balls))
theorem q2_cX12_balls : ∀ i, (r0_cX12_balls)[64 + i]? = (r2_cX12_balls)[i]? := chn (A := a1_cX12_balls) (B := r2_cX12_balls) (n := 32) (k := 32) rfl q1_cX12_balls
theorem q3_cX12_balls : ∀ i, (r0_cX12_balls)[96 + i]? = (r3_cX12_balls)[i]? := chn (A := a2_cX12_balls) (B := r3_cX12_balls) (n := 64) (k := 32) rfl q2_cX12_balls
theorem dX12_balls_0 : decode cX12_balls 0 = .ok (.iconst 0, 1) := dc_3 (gB_l lq_cX12_balls (p := 0) (o := 3) rfl)
theorem dX12_balls_1 : decode cX12_balls 1 = .ok (.istore_n 2, 1) := dc_61 (gB_l lq_cX12_balls (p := 1) (o := 61) rfl)
theorem dX12_balls_2 : decode cX12_balls 2 = .ok (.iconst 0, 1) := dc_3 (gB_l lq_cX12_balls (p := 2) (o := 3) rfl)
theorem dX12_balls_3 : decode cX12_balls 3 = .ok (.istore_n 3, 1) := dc_62 (gB_l lq_cX12_balls (p := 3) (o := 62) rfl)
theorem dX12_balls_4 : decode cX12_balls 4 = .ok (.iload_n 3, 1) := dc_29 (gB_l lq_cX12_balls (p := 4) (o := 29) rfl)
theorem dX12_balls_5 : decode cX12_balls 5 = .ok (.aload_n 0, 1) := dc_42 (gB_l lq_cX12_balls (p := 5) (o := 42) rfl)
theorem dX12_balls_6 : decode cX12_balls 6 = .ok (.iload_n 1, 1) := dc_27 (gB_l lq_cX12_balls (p := 6) (o := 27) rfl)
theorem dX12_balls_7 : decode cX12_balls 7 = .ok (.invokevirtual 63, 3) := dc_182 (gB_l lq_cX12_balls (p := 7) (o := 182) rfl) (gB_l lq_cX12_balls (p := 8) (o := 0) rfl) (gB_l lq_cX12_balls (p := 9) (o := 63) rfl) rfl
theorem dX12_balls_10 : decode cX12_balls 10 = .ok (.if_icmp .ge 104, 3) := dc_162 (gB_l lq_cX12_balls (p := 10) (o := 162) rfl) (gB_l lq_cX12_balls (p := 11) (o := 0) rfl) (gB_l lq_cX12_balls (p := 12) (o := 104) rfl) rfl
theorem dX12_balls_13 : decode cX12_balls 13 = .ok (.iconst 1, 1) := dc_4 (gB_l lq_cX12_balls (p := 13) (o := 4) rfl)
theorem dX12_balls_14 : decode cX12_balls 14 = .ok (.istore 4, 2) := dc_54 (gB_l lq_cX12_balls (p := 14) (o := 54) rfl) (gB_l lq_cX12_balls (p := 15) (o := 4) rfl)
theorem dX12_balls_16 : decode cX12_balls 16 = .ok (.iload 4, 2) := dc_21 (gB_l lq_cX12_balls (p := 16) (o := 21) rfl) (gB_l lq_cX12_balls (p := 17) (o := 4) rfl)
theorem dX12_balls_18 : decode cX12_balls 18 = .ok (.aload_n 0, 1) := dc_42 (gB_l lq_cX12_balls (p := 18) (o := 42) rfl)
theorem dX12_balls_19 : decode cX12_balls 19 = .ok (.iload_n 1, 1) := dc_27 (gB_l lq_cX12_balls (p := 19) (o := 27) rfl)
theorem dX12_balls_20 : decode cX12_balls 20 = .ok (.invokevirtual 63, 3) := dc_182 (gB_l lq_cX12_balls (p := 20) (o := 182) rfl) (gB_l lq_cX12_balls (p := 21) (o := 0) rfl) (gB_l lq_cX12_balls (p := 22) (o := 63) rfl) rfl
theorem dX12_balls_23 : decode cX12_balls 23 = .ok (.if_icmp .ge 85, 3) := dc_162 (gB_l lq_cX12_balls (p := 23) (o := 162) rfl) (gB_l lq_cX12_balls (p := 24) (o := 0) rfl) (gB_l lq_cX12_balls (p := 25) (o := 85) rfl) rfl
theorem dX12_balls_26 : decode cX12_balls 26 = .ok (.iconst 0, 1) := dc_3 (gB_l lq_cX12_balls (p := 26) (o := 3) rfl)
theorem dX12_balls_27 : decode cX12_balls 27 = .ok (.istore 5, 2) := dc_54 (gB_l lq_cX12_balls (p := 27) (o := 54) rfl) (gB_l lq_cX12_balls (p := 28) (o := 5) rfl)
theorem dX12_balls_29 : decode cX12_balls 29 = .ok (.iconst 0, 1) := dc_3 (gB_l lq_cX12_balls (p := 29) (o := 3) rfl)
theorem dX12_balls_30 : decode cX12_balls 30 = .ok (.istore 6, 2) := dc_54 (gB_l lq_cX12_balls (p := 30) (o := 54) rfl) (gB_l lq_cX12_balls (p := 31) (o := 6) rfl)
theorem dX12_balls_32 : decode cX12_balls 32 = .ok (.iload 6, 2) := dc_21 (gB_c lq_cX12_balls q1_cX12_balls 0 (o := 21) rfl) (gB_c lq_cX12_balls q1_cX12_balls 1 (o := 6) rfl)
theorem dX12_balls_34 : decode cX12_balls 34 = .ok (.aload_n 0, 1) := dc_42 (gB_c lq_cX12_balls q1_cX12_balls 2 (o := 42) rfl)
theorem dX12_balls_35 : decode cX12_balls 35 = .ok (.iload_n 1, 1) := dc_27 (gB_c lq_cX12_balls q1_cX12_balls 3 (o := 27) rfl)
theorem dX12_balls_36 : decode cX12_balls 36 = .ok (.invokevirtual 63, 3) := dc_182 (gB_c lq_cX12_balls q1_cX12_balls 4 (o := 182) rfl) (gB_c lq_cX12_balls q1_cX12_balls 5 (o := 0) rfl) (gB_c lq_cX12_balls q1_cX12_balls 6 (o := 63) rfl) rfl
theorem dX12_balls_39 : decode cX12_balls 39 = .ok (.if_icmp .ge 44, 3) := dc_162 (gB_c lq_cX12_balls q1_cX12_balls 7 (o := 162) rfl) (gB_c lq_cX12_balls q1_cX12_balls 8 (o := 0) rfl) (gB_c lq_cX12_balls q1_cX12_balls 9 (o := 44) rfl) rfl
theorem dX12_balls_42 : decode cX12_balls 42 = .ok (.iload 5, 2) := dc_21 (gB_c lq_cX12_balls q1_cX12_balls 10 (o := 21) rfl) (gB_c lq_cX12_balls q1_cX12_balls 11 (o := 5) rfl)
theorem dX12_balls_44 : decode cX12_balls 44 = .ok (.iload 6, 2) := dc_21 (gB_c lq_cX12_balls q1_cX12_balls 12 (o := 21) rfl) (gB_c lq_cX12_balls q1_cX12_balls 13 (o := 6) rfl)
theorem dX12_balls_46 : decode cX12_balls 46 = .ok (.iload_n 3, 1) := dc_29 (gB_c lq_cX12_balls q1_cX12_balls 14 (o := 29) rfl)
theorem dX12_balls_47 : decode cX12_balls 47 = .ok (.if_icmp .eq 26, 3) := dc_159 (gB_c lq_cX12_balls q1_cX12_balls 15 (o := 159) rfl) (gB_c lq_cX12_balls q1_cX12_balls 16 (o := 0) rfl) (gB_c lq_cX12_balls q1_cX12_balls 17 (o := 26) rfl) rfl
theorem dX12_balls_50 : decode cX12_balls 50 = .ok (.aload_n 0, 1) := dc_42 (gB_c lq_cX12_balls q1_cX12_balls 18 (o := 42) rfl)
theorem dX12_balls_51 : decode cX12_balls 51 = .ok (.iload_n 1, 1) := dc_27 (gB_c lq_cX12_balls q1_cX12_balls 19 (o := 27) rfl)
theorem dX12_balls_52 : decode cX12_balls 52 = .ok (.iload_n 3, 1) := dc_29 (gB_c lq_cX12_balls q1_cX12_balls 20 (o := 29) rfl)
theorem dX12_balls_53 : decode cX12_balls 53 = .ok (.iload 6, 2) := dc_21 (gB_c lq_cX12_balls q1_cX12_balls 21 (o := 21) rfl) (gB_c lq_cX12_balls q1_cX12_balls 22 (o := 6) rfl)
theorem dX12_balls_55 : decode cX12_balls 55 = .ok (.invokevirtual 196, 3) := dc_182 (gB_c lq_cX12_balls q1_cX12_balls 23 (o := 182) rfl) (gB_c lq_cX12_balls q1_cX12_balls 24 (o := 0) rfl) (gB_c lq_cX12_balls q1_cX12_balls 25 (o := 196) rfl) rfl
theorem dX12_balls_58 : decode cX12_balls 58 = .ok (.i2l, 1) := dc_133 (gB_c lq_cX12_balls q1_cX12_balls 26 (o := 133) rfl)
theorem dX12_balls_59 : decode cX12_balls 59 = .ok (.lconst 1, 1) := dc_10 (gB_c lq_cX12_balls q1_cX12_balls 27 (o := 10) rfl)
theorem dX12_balls_60 : decode cX12_balls 60 = .ok (.iload 4, 2) := dc_21 (gB_c lq_cX12_balls q1_cX12_balls 28 (o := 21) rfl) (gB_c lq_cX12_balls q1_cX12_balls 29 (o := 4) rfl)
theorem dX12_balls_62 : decode cX12_balls 62 = .ok (.i2l, 1) := dc_133 (gB_c lq_cX12_balls q1_cX12_balls 30 (o := 133) rfl)
theorem dX12_balls_63 : decode cX12_balls 63 = .ok (.invokestatic 55, 3) := dc_184 (gB_c lq_cX12_balls q1_cX12_balls 31 (o := 184) rfl) (gB_c lq_cX12_balls q2_cX12_balls 0 (o := 0) rfl) (gB_c lq_cX12_balls q2_cX12_balls 1 (o := 55) rfl) rfl
theorem dX12_balls_66 : decode cX12_balls 66 = .ok (.ifCond .eq 7, 3) := dc_153 (gB_c lq_cX12_balls q2_cX12_balls 2 (o := 153) rfl) (gB_c lq_cX12_balls q2_cX12_balls 3 (o := 0) rfl) (gB_c lq_cX12_balls q2_cX12_balls 4 (o := 7) rfl) rfl
theorem dX12_balls_69 : decode cX12_balls 69 = .ok (.iconst 1, 1) := dc_4 (gB_c lq_cX12_balls q2_cX12_balls 5 (o := 4) rfl)
theorem dX12_balls_70 : decode cX12_balls 70 = .ok (.goto 4, 3) := dc_167 (gB_c lq_cX12_balls q2_cX12_balls 6 (o := 167) rfl) (gB_c lq_cX12_balls q2_cX12_balls 7 (o := 0) rfl) (gB_c lq_cX12_balls q2_cX12_balls 8 (o := 4) rfl) rfl
theorem dX12_balls_73 : decode cX12_balls 73 = .ok (.iconst 0, 1) := dc_3 (gB_c lq_cX12_balls q2_cX12_balls 9 (o := 3) rfl)
theorem dX12_balls_74 : decode cX12_balls 74 = .ok (.iadd, 1) := dc_96 (gB_c lq_cX12_balls q2_cX12_balls 10 (o := 96) rfl)
theorem dX12_balls_75 : decode cX12_balls 75 = .ok (.istore 5, 2) := dc_54 (gB_c lq_cX12_balls q2_cX12_balls 11 (o := 54) rfl) (gB_c lq_cX12_balls q2_cX12_balls 12 (o := 5) rfl)
theorem dX12_balls_77 : decode cX12_balls 77 = .ok (.iinc 6 1, 3) := dc_132 (gB_c lq_cX12_balls q2_cX12_balls 13 (o := 132) rfl) (gB_c lq_cX12_balls q2_cX12_balls 14 (o := 6) rfl) (gB_c lq_cX12_balls q2_cX12_balls 15 (o := 1) rfl) rfl
theorem dX12_balls_80 : decode cX12_balls 80 = .ok (.goto (-48), 3) := dc_167 (gB_c lq_cX12_balls q2_cX12_balls 16 (o := 167) rfl) (gB_c lq_cX12_balls q2_cX12_balls 17 (o := 255) rfl) (gB_c lq_cX12_balls q2_cX12_balls 18 (o := 208) rfl) rfl
theorem dX12_balls_83 : decode cX12_balls 83 = .ok (.iload_n 2, 1) := dc_28 (gB_c lq_cX12_balls q2_cX12_balls 19 (o := 28) rfl)
theorem dX12_balls_84 : decode cX12_balls 84 = .ok (.iload 5, 2) := dc_21 (gB_c lq_cX12_balls q2_cX12_balls 20 (o := 21) rfl) (gB_c lq_cX12_balls q2_cX12_balls 21 (o := 5) rfl)
theorem dX12_balls_86 : decode cX12_balls 86 = .ok (.iconst 2, 1) := dc_5 (gB_c lq_cX12_balls q2_cX12_balls 22 (o := 5) rfl)
theorem dX12_balls_87 : decode cX12_balls 87 = .ok (.iload 4, 2) := dc_21 (gB_c lq_cX12_balls q2_cX12_balls 23 (o := 21) rfl) (gB_c lq_cX12_balls q2_cX12_balls 24 (o := 4) rfl)
theorem dX12_balls_89 : decode cX12_balls 89 = .ok (.imul, 1) := dc_104 (gB_c lq_cX12_balls q2_cX12_balls 25 (o := 104) rfl)
theorem dX12_balls_90 : decode cX12_balls 90 = .ok (.iadd, 1) := dc_96 (gB_c lq_cX12_balls q2_cX12_balls 26 (o := 96) rfl)
theorem dX12_balls_91 : decode cX12_balls 91 = .ok (.iconst 1, 1) := dc_4 (gB_c lq_cX12_balls q2_cX12_balls 27 (o := 4) rfl)
theorem dX12_balls_92 : decode cX12_balls 92 = .ok (.isub, 1) := dc_100 (gB_c lq_cX12_balls q2_cX12_balls 28 (o := 100) rfl)
theorem dX12_balls_93 : decode cX12_balls 93 = .ok (.iconst 2, 1) := dc_5 (gB_c lq_cX12_balls q2_cX12_balls 29 (o := 5) rfl)
theorem dX12_balls_94 : decode cX12_balls 94 = .ok (.iload 4, 2) := dc_21 (gB_c lq_cX12_balls q2_cX12_balls 30 (o := 21) rfl) (gB_c lq_cX12_balls q2_cX12_balls 31 (o := 4) rfl)
theorem dX12_balls_96 : decode cX12_balls 96 = .ok (.imul, 1) := dc_104 (gB_c lq_cX12_balls q3_cX12_balls 0 (o := 104) rfl)
theorem dX12_balls_97 : decode cX12_balls 97 = .ok (.idiv, 1) := dc_108 (gB_c lq_cX12_balls q3_cX12_balls 1 (o := 108) rfl)
theorem dX12_balls_98 : decode cX12_balls 98 = .ok (.invokestatic 199, 3) := dc_184 (gB_c lq_cX12_balls q3_cX12_balls 2 (o := 184) rfl) (gB_c lq_cX12_balls q3_cX12_balls 3 (o := 0) rfl) (gB_c lq_cX12_balls q3_cX12_balls 4 (o := 199) rfl) rfl
theorem dX12_balls_101 : decode cX12_balls 101 = .ok (.istore_n 2, 1) := dc_61 (gB_c lq_cX12_balls q3_cX12_balls 5 (o := 61) rfl)
theorem dX12_balls_102 : decode cX12_balls 102 = .ok (.iinc 4 1, 3) := dc_132 (gB_c lq_cX12_balls q3_cX12_balls 6 (o := 132) rfl) (gB_c lq_cX12_balls q3_cX12_balls 7 (o := 4) rfl) (gB_c lq_cX12_balls q3_cX12_balls 8 (o := 1) rfl) rfl
theorem dX12_balls_105 : decode cX12_balls 105 = .ok (.goto (-89), 3) := dc_167 (gB_c lq_cX12_balls q3_cX12_balls 9 (o := 167) rfl) (gB_c lq_cX12_balls q3_cX12_balls 10 (o := 255) rfl) (gB_c lq_cX12_balls q3_cX12_balls 11 (o := 167) rfl) rfl
theorem dX12_balls_108 : decode cX12_balls 108 = .ok (.iinc 3 1, 3) := dc_132 (gB_c lq_cX12_balls q3_cX12_balls 12 (o := 132) rfl) (gB_c lq_cX12_balls q3_cX12_balls 13 (o := 3) rfl) (gB_c lq_cX12_balls q3_cX12_balls 14 (o := 1) rfl) rfl
theorem dX12_balls_111 : decode cX12_balls 111 = .ok (.goto (-107), 3) := dc_167 (gB_c lq_cX12_balls q3_cX12_balls 15 (o := 167) rfl) (gB_c lq_cX12_balls q3_cX12_balls 16 (o := 255) rfl) (gB_c lq_cX12_balls q3_cX12_balls 17 (o := 149) rfl) rfl
theorem dX12_balls_114 : decode cX12_balls 114 = .ok (.iload_n 2, 1) := dc_28 (gB_c lq_cX12_balls q3_cX12_balls 18 (o := 28) rfl)
theorem dX12_balls_115 : decode cX12_balls 115 = .ok (.ireturn, 1) := dc_172 (gB_c lq_cX12_balls q3_cX12_balls 19 (o := 172) rfl)
abbrev r2_cX12_bandOf : List Nat := [1, 167, 255, 195, 28, 172]
def a1_cX12_bandOf : List Nat := [0, 26, 21, 4, 46, 182, 0, 76, 158, 0, 14, 28, 29, 21, 4, 100, 184, 0, 199, 167, 0, 4, 28, 61, 132, 4, 1, 167, 255, 213, 132, 3]
abbrev r1_cX12_bandOf : List Nat := a1_cX12_bandOf ++ r2_cX12_bandOf
def a0_cX12_bandOf : List Nat := [3, 61, 3, 62, 29, 42, 27, 182, 0, 63, 162, 0, 58, 3, 54, 4, 21, 4, 29, 162, 0, 43, 42, 27, 42, 180, 0, 26, 29, 46, 42, 180]
abbrev r0_cX12_bandOf : List Nat := a0_cX12_bandOf ++ r1_cX12_bandOf
theorem lq_cX12_bandOf : (cX12_bandOf).data.toList.map UInt8.toNat = r0_cX12_bandOf := by decide +kernel
theorem q1_cX12_bandOf : ∀ i, (r0_cX12_bandOf)[32 + i]? = (r1_cX12_bandOf)[i]? := chn (A := a0_cX12_bandOf) (B := r1_cX12_bandOf) (n := 0) (k := 32) rfl (ch0 (R := r0_cX12_bandOf))
theorem q2_cX12_bandOf : ∀ i, (r0_cX12_bandOf)[64 + i]? = (r2_cX12_bandOf)[i]? := chn (A := a1_cX12_bandOf) (B := r2_cX12_bandOf) (n := 32) (k := 32) rfl q1_cX12_bandOf
theorem dX12_bandOf_0 : decode cX12_bandOf 0 = .ok (.iconst 0, 1) := dc_3 (gB_l lq_cX12_bandOf (p := 0) (o := 3) rfl)
theorem dX12_bandOf_1 : decode cX12_bandOf 1 = .ok (.istore_n 2, 1) := dc_61 (gB_l lq_cX12_bandOf (p := 1) (o := 61) rfl)
theorem dX12_bandOf_2 : decode cX12_bandOf 2 = .ok (.iconst 0, 1) := dc_3 (gB_l lq_cX12_bandOf (p := 2) (o := 3) rfl)
theorem dX12_bandOf_3 : decode cX12_bandOf 3 = .ok (.istore_n 3, 1) := dc_62 (gB_l lq_cX12_bandOf (p := 3) (o := 62) rfl)
theorem dX12_bandOf_4 : decode cX12_bandOf 4 = .ok (.iload_n 3, 1) := dc_29 (gB_l lq_cX12_bandOf (p := 4) (o := 29) rfl)
theorem dX12_bandOf_5 : decode cX12_bandOf 5 = .ok (.aload_n 0, 1) := dc_42 (gB_l lq_cX12_bandOf (p := 5) (o := 42) rfl)
theorem dX12_bandOf_6 : decode cX12_bandOf 6 = .ok (.iload_n 1, 1) := dc_27 (gB_l lq_cX12_bandOf (p := 6) (o := 27) rfl)
theorem dX12_bandOf_7 : decode cX12_bandOf 7 = .ok (.invokevirtual 63, 3) := dc_182 (gB_l lq_cX12_bandOf (p := 7) (o := 182) rfl) (gB_l lq_cX12_bandOf (p := 8) (o := 0) rfl) (gB_l lq_cX12_bandOf (p := 9) (o := 63) rfl) rfl
theorem dX12_bandOf_10 : decode cX12_bandOf 10 = .ok (.if_icmp .ge 58, 3) := dc_162 (gB_l lq_cX12_bandOf (p := 10) (o := 162) rfl) (gB_l lq_cX12_bandOf (p := 11) (o := 0) rfl) (gB_l lq_cX12_bandOf (p := 12) (o := 58) rfl) rfl
theorem dX12_bandOf_13 : decode cX12_bandOf 13 = .ok (.iconst 0, 1) := dc_3 (gB_l lq_cX12_bandOf (p := 13) (o := 3) rfl)
theorem dX12_bandOf_14 : decode cX12_bandOf 14 = .ok (.istore 4, 2) := dc_54 (gB_l lq_cX12_bandOf (p := 14) (o := 54) rfl) (gB_l lq_cX12_bandOf (p := 15) (o := 4) rfl)
theorem dX12_bandOf_16 : decode cX12_bandOf 16 = .ok (.iload 4, 2) := dc_21 (gB_l lq_cX12_bandOf (p := 16) (o := 21) rfl) (gB_l lq_cX12_bandOf (p := 17) (o := 4) rfl)
theorem dX12_bandOf_18 : decode cX12_bandOf 18 = .ok (.iload_n 3, 1) := dc_29 (gB_l lq_cX12_bandOf (p := 18) (o := 29) rfl)
theorem dX12_bandOf_19 : decode cX12_bandOf 19 = .ok (.if_icmp .ge 43, 3) := dc_162 (gB_l lq_cX12_bandOf (p := 19) (o := 162) rfl) (gB_l lq_cX12_bandOf (p := 20) (o := 0) rfl) (gB_l lq_cX12_bandOf (p := 21) (o := 43) rfl) rfl
theorem dX12_bandOf_22 : decode cX12_bandOf 22 = .ok (.aload_n 0, 1) := dc_42 (gB_l lq_cX12_bandOf (p := 22) (o := 42) rfl)
theorem dX12_bandOf_23 : decode cX12_bandOf 23 = .ok (.iload_n 1, 1) := dc_27 (gB_l lq_cX12_bandOf (p := 23) (o := 27) rfl)
theorem dX12_bandOf_24 : decode cX12_bandOf 24 = .ok (.aload_n 0, 1) := dc_42 (gB_l lq_cX12_bandOf (p := 24) (o := 42) rfl)
theorem dX12_bandOf_25 : decode cX12_bandOf 25 = .ok (.getfield 26, 3) := dc_180 (gB_l lq_cX12_bandOf (p := 25) (o := 180) rfl) (gB_l lq_cX12_bandOf (p := 26) (o := 0) rfl) (gB_l lq_cX12_bandOf (p := 27) (o := 26) rfl) rfl
theorem dX12_bandOf_28 : decode cX12_bandOf 28 = .ok (.iload_n 3, 1) := dc_29 (gB_l lq_cX12_bandOf (p := 28) (o := 29) rfl)
theorem dX12_bandOf_29 : decode cX12_bandOf 29 = .ok (.iaload, 1) := dc_46 (gB_l lq_cX12_bandOf (p := 29) (o := 46) rfl)
theorem dX12_bandOf_30 : decode cX12_bandOf 30 = .ok (.aload_n 0, 1) := dc_42 (gB_l lq_cX12_bandOf (p := 30) (o := 42) rfl)
theorem dX12_bandOf_31 : decode cX12_bandOf 31 = .ok (.getfield 26, 3) := dc_180 (gB_l lq_cX12_bandOf (p := 31) (o := 180) rfl) (gB_c lq_cX12_bandOf q1_cX12_bandOf 0 (o := 0) rfl) (gB_c lq_cX12_bandOf q1_cX12_bandOf 1 (o := 26) rfl) rfl
theorem dX12_bandOf_34 : decode cX12_bandOf 34 = .ok (.iload 4, 2) := dc_21 (gB_c lq_cX12_bandOf q1_cX12_bandOf 2 (o := 21) rfl) (gB_c lq_cX12_bandOf q1_cX12_bandOf 3 (o := 4) rfl)
theorem dX12_bandOf_36 : decode cX12_bandOf 36 = .ok (.iaload, 1) := dc_46 (gB_c lq_cX12_bandOf q1_cX12_bandOf 4 (o := 46) rfl)
theorem dX12_bandOf_37 : decode cX12_bandOf 37 = .ok (.invokevirtual 76, 3) := dc_182 (gB_c lq_cX12_bandOf q1_cX12_bandOf 5 (o := 182) rfl) (gB_c lq_cX12_bandOf q1_cX12_bandOf 6 (o := 0) rfl) (gB_c lq_cX12_bandOf q1_cX12_bandOf 7 (o := 76) rfl) rfl
theorem dX12_bandOf_40 : decode cX12_bandOf 40 = .ok (.ifCond .le 14, 3) := dc_158 (gB_c lq_cX12_bandOf q1_cX12_bandOf 8 (o := 158) rfl) (gB_c lq_cX12_bandOf q1_cX12_bandOf 9 (o := 0) rfl) (gB_c lq_cX12_bandOf q1_cX12_bandOf 10 (o := 14) rfl) rfl
theorem dX12_bandOf_43 : decode cX12_bandOf 43 = .ok (.iload_n 2, 1) := dc_28 (gB_c lq_cX12_bandOf q1_cX12_bandOf 11 (o := 28) rfl)
theorem dX12_bandOf_44 : decode cX12_bandOf 44 = .ok (.iload_n 3, 1) := dc_29 (gB_c lq_cX12_bandOf q1_cX12_bandOf 12 (o := 29) rfl)
theorem dX12_bandOf_45 : decode cX12_bandOf 45 = .ok (.iload 4, 2) := dc_21 (gB_c lq_cX12_bandOf q1_cX12_bandOf 13 (o := 21) rfl) (gB_c lq_cX12_bandOf q1_cX12_bandOf 14 (o := 4) rfl)
theorem dX12_bandOf_47 : decode cX12_bandOf 47 = .ok (.isub, 1) := dc_100 (gB_c lq_cX12_bandOf q1_cX12_bandOf 15 (o := 100) rfl)
theorem dX12_bandOf_48 : decode cX12_bandOf 48 = .ok (.invokestatic 199, 3) := dc_184 (gB_c lq_cX12_bandOf q1_cX12_bandOf 16 (o := 184) rfl) (gB_c lq_cX12_bandOf q1_cX12_bandOf 17 (o := 0) rfl) (gB_c lq_cX12_bandOf q1_cX12_bandOf 18 (o := 199) rfl) rfl
theorem dX12_bandOf_51 : decode cX12_bandOf 51 = .ok (.goto 4, 3) := dc_167 (gB_c lq_cX12_bandOf q1_cX12_bandOf 19 (o := 167) rfl) (gB_c lq_cX12_bandOf q1_cX12_bandOf 20 (o := 0) rfl) (gB_c lq_cX12_bandOf q1_cX12_bandOf 21 (o := 4) rfl) rfl
theorem dX12_bandOf_54 : decode cX12_bandOf 54 = .ok (.iload_n 2, 1) := dc_28 (gB_c lq_cX12_bandOf q1_cX12_bandOf 22 (o := 28) rfl)
theorem dX12_bandOf_55 : decode cX12_bandOf 55 = .ok (.istore_n 2, 1) := dc_61 (gB_c lq_cX12_bandOf q1_cX12_bandOf 23 (o := 61) rfl)
theorem dX12_bandOf_56 : decode cX12_bandOf 56 = .ok (.iinc 4 1, 3) := dc_132 (gB_c lq_cX12_bandOf q1_cX12_bandOf 24 (o := 132) rfl) (gB_c lq_cX12_bandOf q1_cX12_bandOf 25 (o := 4) rfl) (gB_c lq_cX12_bandOf q1_cX12_bandOf 26 (o := 1) rfl) rfl
theorem dX12_bandOf_59 : decode cX12_bandOf 59 = .ok (.goto (-43), 3) := dc_167 (gB_c lq_cX12_bandOf q1_cX12_bandOf 27 (o := 167) rfl) (gB_c lq_cX12_bandOf q1_cX12_bandOf 28 (o := 255) rfl) (gB_c lq_cX12_bandOf q1_cX12_bandOf 29 (o := 213) rfl) rfl
theorem dX12_bandOf_62 : decode cX12_bandOf 62 = .ok (.iinc 3 1, 3) := dc_132 (gB_c lq_cX12_bandOf q1_cX12_bandOf 30 (o := 132) rfl) (gB_c lq_cX12_bandOf q1_cX12_bandOf 31 (o := 3) rfl) (gB_c lq_cX12_bandOf q2_cX12_bandOf 0 (o := 1) rfl) rfl
theorem dX12_bandOf_65 : decode cX12_bandOf 65 = .ok (.goto (-61), 3) := dc_167 (gB_c lq_cX12_bandOf q2_cX12_bandOf 1 (o := 167) rfl) (gB_c lq_cX12_bandOf q2_cX12_bandOf 2 (o := 255) rfl) (gB_c lq_cX12_bandOf q2_cX12_bandOf 3 (o := 195) rfl) rfl
theorem dX12_bandOf_68 : decode cX12_bandOf 68 = .ok (.iload_n 2, 1) := dc_28 (gB_c lq_cX12_bandOf q2_cX12_bandOf 4 (o := 28) rfl)
theorem dX12_bandOf_69 : decode cX12_bandOf 69 = .ok (.ireturn, 1) := dc_172 (gB_c lq_cX12_bandOf q2_cX12_bandOf 5 (o := 172) rfl)
abbrev r0_cX12_best : List Nat := [42, 27, 29, 182, 0, 70, 153, 0, 10, 28, 184, 0, 245, 154, 0, 6, 16, 254, 172, 42, 27, 28, 182, 1, 45, 42, 180, 0, 41, 29, 46, 172]
theorem lq_cX12_best : (cX12_best).data.toList.map UInt8.toNat = r0_cX12_best := by decide +kernel
theorem dX12_best_0 : decode cX12_best 0 = .ok (.aload_n 0, 1) := dc_42 (gB_l lq_cX12_best (p := 0) (o := 42) rfl)
theorem dX12_best_1 : decode cX12_best 1 = .ok (.iload_n 1, 1) := dc_27 (gB_l lq_cX12_best (p := 1) (o := 27) rfl)
theorem dX12_best_2 : decode cX12_best 2 = .ok (.iload_n 3, 1) := dc_29 (gB_l lq_cX12_best (p := 2) (o := 29) rfl)
theorem dX12_best_3 : decode cX12_best 3 = .ok (.invokevirtual 70, 3) := dc_182 (gB_l lq_cX12_best (p := 3) (o := 182) rfl) (gB_l lq_cX12_best (p := 4) (o := 0) rfl) (gB_l lq_cX12_best (p := 5) (o := 70) rfl) rfl
theorem dX12_best_6 : decode cX12_best 6 = .ok (.ifCond .eq 10, 3) := dc_153 (gB_l lq_cX12_best (p := 6) (o := 153) rfl) (gB_l lq_cX12_best (p := 7) (o := 0) rfl) (gB_l lq_cX12_best (p := 8) (o := 10) rfl) rfl
theorem dX12_best_9 : decode cX12_best 9 = .ok (.iload_n 2, 1) := dc_28 (gB_l lq_cX12_best (p := 9) (o := 28) rfl)
theorem dX12_best_10 : decode cX12_best 10 = .ok (.invokestatic 245, 3) := dc_184 (gB_l lq_cX12_best (p := 10) (o := 184) rfl) (gB_l lq_cX12_best (p := 11) (o := 0) rfl) (gB_l lq_cX12_best (p := 12) (o := 245) rfl) rfl
theorem dX12_best_13 : decode cX12_best 13 = .ok (.ifCond .ne 6, 3) := dc_154 (gB_l lq_cX12_best (p := 13) (o := 154) rfl) (gB_l lq_cX12_best (p := 14) (o := 0) rfl) (gB_l lq_cX12_best (p := 15) (o := 6) rfl) rfl
theorem dX12_best_16 : decode cX12_best 16 = .ok (.bipush (-2), 2) := dc_16 (gB_l lq_cX12_best (p := 16) (o := 16) rfl) (gB_l lq_cX12_best (p := 17) (o := 254) rfl) rfl
theorem dX12_best_18 : decode cX12_best 18 = .ok (.ireturn, 1) := dc_172 (gB_l lq_cX12_best (p := 18) (o := 172) rfl)
theorem dX12_best_19 : decode cX12_best 19 = .ok (.aload_n 0, 1) := dc_42 (gB_l lq_cX12_best (p := 19) (o := 42) rfl)
theorem dX12_best_20 : decode cX12_best 20 = .ok (.iload_n 1, 1) := dc_27 (gB_l lq_cX12_best (p := 20) (o := 27) rfl)
theorem dX12_best_21 : decode cX12_best 21 = .ok (.iload_n 2, 1) := dc_28 (gB_l lq_cX12_best (p := 21) (o := 28) rfl)
theorem dX12_best_22 : decode cX12_best 22 = .ok (.invokevirtual 301, 3) := dc_182 (gB_l lq_cX12_best (p := 22) (o := 182) rfl) (gB_l lq_cX12_best (p := 23) (o := 1) rfl) (gB_l lq_cX12_best (p := 24) (o := 45) rfl) rfl
theorem dX12_best_25 : decode cX12_best 25 = .ok (.aload_n 0, 1) := dc_42 (gB_l lq_cX12_best (p := 25) (o := 42) rfl)
theorem dX12_best_26 : decode cX12_best 26 = .ok (.getfield 41, 3) := dc_180 (gB_l lq_cX12_best (p := 26) (o := 180) rfl) (gB_l lq_cX12_best (p := 27) (o := 0) rfl) (gB_l lq_cX12_best (p := 28) (o := 41) rfl) rfl
theorem dX12_best_29 : decode cX12_best 29 = .ok (.iload_n 3, 1) := dc_29 (gB_l lq_cX12_best (p := 29) (o := 29) rfl)
theorem dX12_best_30 : decode cX12_best 30 = .ok (.iaload, 1) := dc_46 (gB_l lq_cX12_best (p := 30) (o := 46) rfl)
theorem dX12_best_31 : decode cX12_best 31 = .ok (.ireturn, 1) := dc_172 (gB_l lq_cX12_best (p := 31) (o := 172) rfl)
abbrev r0_cX12_both : List Nat := [26, 184, 0, 232, 153, 0, 11, 27, 28, 184, 0, 199, 167, 0, 6, 27, 28, 96, 172]
theorem lq_cX12_both : (cX12_both).data.toList.map UInt8.toNat = r0_cX12_both := by decide +kernel
theorem dX12_both_0 : decode cX12_both 0 = .ok (.iload_n 0, 1) := dc_26 (gB_l lq_cX12_both (p := 0) (o := 26) rfl)
theorem dX12_both_1 : decode cX12_both 1 = .ok (.invokestatic 232, 3) := dc_184 (gB_l lq_cX12_both (p := 1) (o := 184) rfl) (gB_l lq_cX12_both (p := 2) (o := 0) rfl) (gB_l lq_cX12_both (p := 3) (o := 232) rfl) rfl
theorem dX12_both_4 : decode cX12_both 4 = .ok (.ifCond .eq 11, 3) := dc_153 (gB_l lq_cX12_both (p := 4) (o := 153) rfl) (gB_l lq_cX12_both (p := 5) (o := 0) rfl) (gB_l lq_cX12_both (p := 6) (o := 11) rfl) rfl
theorem dX12_both_7 : decode cX12_both 7 = .ok (.iload_n 1, 1) := dc_27 (gB_l lq_cX12_both (p := 7) (o := 27) rfl)
theorem dX12_both_8 : decode cX12_both 8 = .ok (.iload_n 2, 1) := dc_28 (gB_l lq_cX12_both (p := 8) (o := 28) rfl)
theorem dX12_both_9 : decode cX12_both 9 = .ok (.invokestatic 199, 3) := dc_184 (gB_l lq_cX12_both (p := 9) (o := 184) rfl) (gB_l lq_cX12_both (p := 10) (o := 0) rfl) (gB_l lq_cX12_both (p := 11) (o := 199) rfl) rfl
theorem dX12_both_12 : decode cX12_both 12 = .ok (.goto 6, 3) := dc_167 (gB_l lq_cX12_both (p := 12) (o := 167) rfl) (gB_l lq_cX12_both (p := 13) (o := 0) rfl) (gB_l lq_cX12_both (p := 14) (o := 6) rfl) rfl
theorem dX12_both_15 : decode cX12_both 15 = .ok (.iload_n 1, 1) := dc_27 (gB_l lq_cX12_both (p := 15) (o := 27) rfl)
theorem dX12_both_16 : decode cX12_both 16 = .ok (.iload_n 2, 1) := dc_28 (gB_l lq_cX12_both (p := 16) (o := 28) rfl)
theorem dX12_both_17 : decode cX12_both 17 = .ok (.iadd, 1) := dc_96 (gB_l lq_cX12_both (p := 17) (o := 96) rfl)
theorem dX12_both_18 : decode cX12_both 18 = .ok (.ireturn, 1) := dc_172 (gB_l lq_cX12_both (p := 18) (o := 172) rfl)
abbrev r4_cX12_bound : List Nat := [182, 0, 214, 172]
def a3_cX12_bound : List Nat := [28, 154, 0, 12, 21, 4, 4, 96, 5, 108, 167, 0, 25, 28, 5, 160, 0, 15, 42, 27, 182, 0, 205, 4, 96, 5, 108, 167, 0, 8, 42, 27]
abbrev r3_cX12_bound : List Nat := a3_cX12_bound ++ r4_cX12_bound
def a2_cX12_bound : List Nat := [54, 5, 21, 5, 42, 27, 182, 0, 63, 162, 0, 23, 21, 4, 42, 27, 21, 5, 182, 0, 202, 184, 0, 199, 54, 4, 132, 5, 1, 167, 255, 229]
abbrev r2_cX12_bound : List Nat := a2_cX12_bound ++ r3_cX12_bound
def a1_cX12_bound : List Nat := [160, 0, 7, 10, 167, 0, 4, 9, 184, 0, 55, 154, 0, 6, 16, 254, 172, 29, 4, 160, 0, 9, 42, 27, 182, 1, 55, 172, 3, 54, 4, 3]
abbrev r1_cX12_bound : List Nat := a1_cX12_bound ++ r2_cX12_bound
def a0_cX12_bound : List Nat := [42, 27, 182, 0, 67, 153, 0, 41, 28, 184, 0, 245, 153, 0, 34, 28, 5, 159, 0, 10, 28, 184, 0, 232, 153, 0, 22, 29, 133, 9, 28, 5]
abbrev r0_cX12_bound : List Nat := a0_cX12_bound ++ r1_cX12_bound
theorem lq_cX12_bound : (cX12_bound).data.toList.map UInt8.toNat = r0_cX12_bound := by decide +kernel
theorem q1_cX12_bound : ∀ i, (r0_cX12_bound)[32 + i]? = (r1_cX12_bound)[i]? := chn (A := a0_cX12_bound) (B := r1_cX12_bound) (n := 0) (k := 32) rfl (ch0 (R := r0_cX12_bound))
theorem q2_cX12_bound : ∀ i, (r0_cX12_bound)[64 + i]? = (r2_cX12_bound)[i]? := chn (A := a1_cX12_bound) (B := r2_cX12_bound) (n := 32) (k := 32) rfl q1_cX12_bound
theorem q3_cX12_bound : ∀ i, (r0_cX12_bound)[96 + i]? = (r3_cX12_bound)[i]? := chn (A := a2_cX12_bound) (B := r3_cX12_bound) (n := 64) (k := 32) rfl q2_cX12_bound
theorem q4_cX12_bound : ∀ i, (r0_cX12_bound)[128 + i]? = (r4_cX12_bound)[i]? := chn (A := a3_cX12_bound) (B := r4_cX12_bound) (n := 96) (k := 32) rfl q3_cX12_bound
theorem dX12_bound_0 : decode cX12_bound 0 = .ok (.aload_n 0, 1) := dc_42 (gB_l lq_cX12_bound (p := 0) (o := 42) rfl)
theorem dX12_bound_1 : decode cX12_bound 1 = .ok (.iload_n 1, 1) := dc_27 (gB_l lq_cX12_bound (p := 1) (o := 27) rfl)
theorem dX12_bound_2 : decode cX12_bound 2 = .ok (.invokevirtual 67, 3) := dc_182 (gB_l lq_cX12_bound (p := 2) (o := 182) rfl) (gB_l lq_cX12_bound (p := 3) (o := 0) rfl) (gB_l lq_cX12_bound (p := 4) (o := 67) rfl) rfl
theorem dX12_bound_5 : decode cX12_bound 5 = .ok (.ifCond .eq 41, 3) := dc_153 (gB_l lq_cX12_bound (p := 5) (o := 153) rfl) (gB_l lq_cX12_bound (p := 6) (o := 0) rfl) (gB_l lq_cX12_bound (p := 7) (o := 41) rfl) rfl
theorem dX12_bound_8 : decode cX12_bound 8 = .ok (.iload_n 2, 1) := dc_28 (gB_l lq_cX12_bound (p := 8) (o := 28) rfl)
theorem dX12_bound_9 : decode cX12_bound 9 = .ok (.invokestatic 245, 3) := dc_184 (gB_l lq_cX12_bound (p := 9) (o := 184) rfl) (gB_l lq_cX12_bound (p := 10) (o := 0) rfl) (gB_l lq_cX12_bound (p := 11) (o := 245) rfl) rfl
theorem dX12_bound_12 : decode cX12_bound 12 = .ok (.ifCond .eq 34, 3) := dc_153 (gB_l lq_cX12_bound (p := 12) (o := 153) rfl) (gB_l lq_cX12_bound (p := 13) (o := 0) rfl) (gB_l lq_cX12_bound (p := 14) (o := 34) rfl) rfl
theorem dX12_bound_15 : decode cX12_bound 15 = .ok (.iload_n 2, 1) := dc_28 (gB_l lq_cX12_bound (p := 15) (o := 28) rfl)
theorem dX12_bound_16 : decode cX12_bound 16 = .ok (.iconst 2, 1) := dc_5 (gB_l lq_cX12_bound (p := 16) (o := 5) rfl)
theorem dX12_bound_17 : decode cX12_bound 17 = .ok (.if_icmp .eq 10, 3) := dc_159 (gB_l lq_cX12_bound (p := 17) (o := 159) rfl) (gB_l lq_cX12_bound (p := 18) (o := 0) rfl) (gB_l lq_cX12_bound (p := 19) (o := 10) rfl) rfl
theorem dX12_bound_20 : decode cX12_bound 20 = .ok (.iload_n 2, 1) := dc_28 (gB_l lq_cX12_bound (p := 20) (o := 28) rfl)
theorem dX12_bound_21 : decode cX12_bound 21 = .ok (.invokestatic 232, 3) := dc_184 (gB_l lq_cX12_bound (p := 21) (o := 184) rfl) (gB_l lq_cX12_bound (p := 22) (o := 0) rfl) (gB_l lq_cX12_bound (p := 23) (o := 232) rfl) rfl
theorem dX12_bound_24 : decode cX12_bound 24 = .ok (.ifCond .eq 22, 3) := dc_153 (gB_l lq_cX12_bound (p := 24) (o := 153) rfl) (gB_l lq_cX12_bound (p := 25) (o := 0) rfl) (gB_l lq_cX12_bound (p := 26) (o := 22) rfl) rfl
theorem dX12_bound_27 : decode cX12_bound 27 = .ok (.iload_n 3, 1) := dc_29 (gB_l lq_cX12_bound (p := 27) (o := 29) rfl)
theorem dX12_bound_28 : decode cX12_bound 28 = .ok (.i2l, 1) := dc_133 (gB_l lq_cX12_bound (p := 28) (o := 133) rfl)
theorem dX12_bound_29 : decode cX12_bound 29 = .ok (.lconst 0, 1) := dc_9 (gB_l lq_cX12_bound (p := 29) (o := 9) rfl)
theorem dX12_bound_30 : decode cX12_bound 30 = .ok (.iload_n 2, 1) := dc_28 (gB_l lq_cX12_bound (p := 30) (o := 28) rfl)
theorem dX12_bound_31 : decode cX12_bound 31 = .ok (.iconst 2, 1) := dc_5 (gB_l lq_cX12_bound (p := 31) (o := 5) rfl)
theorem dX12_bound_32 : decode cX12_bound 32 = .ok (.if_icmp .ne 7, 3) := dc_160 (gB_c lq_cX12_bound q1_cX12_bound 0 (o := 160) rfl) (gB_c lq_cX12_bound q1_cX12_bound 1 (o := 0) rfl) (gB_c lq_cX12_bound q1_cX12_bound 2 (o := 7) rfl) rfl
theorem dX12_bound_35 : decode cX12_bound 35 = .ok (.lconst 1, 1) := dc_10 (gB_c lq_cX12_bound q1_cX12_bound 3 (o := 10) rfl)
theorem dX12_bound_36 : decode cX12_bound 36 = .ok (.goto 4, 3) := dc_167 (gB_c lq_cX12_bound q1_cX12_bound 4 (o := 167) rfl) (gB_c lq_cX12_bound q1_cX12_bound 5 (o := 0) rfl) (gB_c lq_cX12_bound q1_cX12_bound 6 (o := 4) rfl) rfl
theorem dX12_bound_39 : decode cX12_bound 39 = .ok (.lconst 0, 1) := dc_9 (gB_c lq_cX12_bound q1_cX12_bound 7 (o := 9) rfl)
theorem dX12_bound_40 : decode cX12_bound 40 = .ok (.invokestatic 55, 3) := dc_184 (gB_c lq_cX12_bound q1_cX12_bound 8 (o := 184) rfl) (gB_c lq_cX12_bound q1_cX12_bound 9 (o := 0) rfl) (gB_c lq_cX12_bound q1_cX12_bound 10 (o := 55) rfl) rfl
theorem dX12_bound_43 : decode cX12_bound 43 = .ok (.ifCond .ne 6, 3) := dc_154 (gB_c lq_cX12_bound q1_cX12_bound 11 (o := 154) rfl) (gB_c lq_cX12_bound q1_cX12_bound 12 (o := 0) rfl) (gB_c lq_cX12_bound q1_cX12_bound 13 (o := 6) rfl) rfl
theorem dX12_bound_46 : decode cX12_bound 46 = .ok (.bipush (-2), 2) := dc_16 (gB_c lq_cX12_bound q1_cX12_bound 14 (o := 16) rfl) (gB_c lq_cX12_bound q1_cX12_bound 15 (o := 254) rfl) rfl
theorem dX12_bound_48 : decode cX12_bound 48 = .ok (.ireturn, 1) := dc_172 (gB_c lq_cX12_bound q1_cX12_bound 16 (o := 172) rfl)
theorem dX12_bound_49 : decode cX12_bound 49 = .ok (.iload_n 3, 1) := dc_29 (gB_c lq_cX12_bound q1_cX12_bound 17 (o := 29) rfl)
theorem dX12_bound_50 : decode cX12_bound 50 = .ok (.iconst 1, 1) := dc_4 (gB_c lq_cX12_bound q1_cX12_bound 18 (o := 4) rfl)
theorem dX12_bound_51 : decode cX12_bound 51 = .ok (.if_icmp .ne 9, 3) := dc_160 (gB_c lq_cX12_bound q1_cX12_bound 19 (o := 160) rfl) (gB_c lq_cX12_bound q1_cX12_bound 20 (o := 0) rfl) (gB_c lq_cX12_bound q1_cX12_bound 21 (o := 9) rfl) rfl
theorem dX12_bound_54 : decode cX12_bound 54 = .ok (.aload_n 0, 1) := dc_42 (gB_c lq_cX12_bound q1_cX12_bound 22 (o := 42) rfl)
theorem dX12_bound_55 : decode cX12_bound 55 = .ok (.iload_n 1, 1) := dc_27 (gB_c lq_cX12_bound q1_cX12_bound 23 (o := 27) rfl)
theorem dX12_bound_56 : decode cX12_bound 56 = .ok (.invokevirtual 311, 3) := dc_182 (gB_c lq_cX12_bound q1_cX12_bound 24 (o := 182) rfl) (gB_c lq_cX12_bound q1_cX12_bound 25 (o := 1) rfl) (gB_c lq_cX12_bound q1_cX12_bound 26 (o := 55) rfl) rfl
theorem dX12_bound_59 : decode cX12_bound 59 = .ok (.ireturn, 1) := dc_172 (gB_c lq_cX12_bound q1_cX12_bound 27 (o := 172) rfl)
theorem dX12_bound_60 : decode cX12_bound 60 = .ok (.iconst 0, 1) := dc_3 (gB_c lq_cX12_bound q1_cX12_bound 28 (o := 3) rfl)
theorem dX12_bound_61 : decode cX12_bound 61 = .ok (.istore 4, 2) := dc_54 (gB_c lq_cX12_bound q1_cX12_bound 29 (o := 54) rfl) (gB_c lq_cX12_bound q1_cX12_bound 30 (o := 4) rfl)
theorem dX12_bound_63 : decode cX12_bound 63 = .ok (.iconst 0, 1) := dc_3 (gB_c lq_cX12_bound q1_cX12_bound 31 (o := 3) rfl)
theorem dX12_bound_64 : decode cX12_bound 64 = .ok (.istore 5, 2) := dc_54 (gB_c lq_cX12_bound q2_cX12_bound 0 (o := 54) rfl) (gB_c lq_cX12_bound q2_cX12_bound 1 (o := 5) rfl)
theorem dX12_bound_66 : decode cX12_bound 66 = .ok (.iload 5, 2) := dc_21 (gB_c lq_cX12_bound q2_cX12_bound 2 (o := 21) rfl) (gB_c lq_cX12_bound q2_cX12_bound 3 (o := 5) rfl)
theorem dX12_bound_68 : decode cX12_bound 68 = .ok (.aload_n 0, 1) := dc_42 (gB_c lq_cX12_bound q2_cX12_bound 4 (o := 42) rfl)
theorem dX12_bound_69 : decode cX12_bound 69 = .ok (.iload_n 1, 1) := dc_27 (gB_c lq_cX12_bound q2_cX12_bound 5 (o := 27) rfl)
theorem dX12_bound_70 : decode cX12_bound 70 = .ok (.invokevirtual 63, 3) := dc_182 (gB_c lq_cX12_bound q2_cX12_bound 6 (o := 182) rfl) (gB_c lq_cX12_bound q2_cX12_bound 7 (o := 0) rfl) (gB_c lq_cX12_bound q2_cX12_bound 8 (o := 63) rfl) rfl
theorem dX12_bound_73 : decode cX12_bound 73 = .ok (.if_icmp .ge 23, 3) := dc_162 (gB_c lq_cX12_bound q2_cX12_bound 9 (o := 162) rfl) (gB_c lq_cX12_bound q2_cX12_bound 10 (o := 0) rfl) (gB_c lq_cX12_bound q2_cX12_bound 11 (o := 23) rfl) rfl
theorem dX12_bound_76 : decode cX12_bound 76 = .ok (.iload 4, 2) := dc_21 (gB_c lq_cX12_bound q2_cX12_bound 12 (o := 21) rfl) (gB_c lq_cX12_bound q2_cX12_bound 13 (o := 4) rfl)
theorem dX12_bound_78 : decode cX12_bound 78 = .ok (.aload_n 0, 1) := dc_42 (gB_c lq_cX12_bound q2_cX12_bound 14 (o := 42) rfl)
theorem dX12_bound_79 : decode cX12_bound 79 = .ok (.iload_n 1, 1) := dc_27 (gB_c lq_cX12_bound q2_cX12_bound 15 (o := 27) rfl)
theorem dX12_bound_80 : decode cX12_bound 80 = .ok (.iload 5, 2) := dc_21 (gB_c lq_cX12_bound q2_cX12_bound 16 (o := 21) rfl) (gB_c lq_cX12_bound q2_cX12_bound 17 (o := 5) rfl)
theorem dX12_bound_82 : decode cX12_bound 82 = .ok (.invokevirtual 202, 3) := dc_182 (gB_c lq_cX12_bound q2_cX12_bound 18 (o := 182) rfl) (gB_c lq_cX12_bound q2_cX12_bound 19 (o := 0) rfl) (gB_c lq_cX12_bound q2_cX12_bound 20 (o := 202) rfl) rfl
theorem dX12_bound_85 : decode cX12_bound 85 = .ok (.invokestatic 199, 3) := dc_184 (gB_c lq_cX12_bound q2_cX12_bound 21 (o := 184) rfl) (gB_c lq_cX12_bound q2_cX12_bound 22 (o := 0) rfl) (gB_c lq_cX12_bound q2_cX12_bound 23 (o := 199) rfl) rfl
theorem dX12_bound_88 : decode cX12_bound 88 = .ok (.istore 4, 2) := dc_54 (gB_c lq_cX12_bound q2_cX12_bound 24 (o := 54) rfl) (gB_c lq_cX12_bound q2_cX12_bound 25 (o := 4) rfl)
theorem dX12_bound_90 : decode cX12_bound 90 = .ok (.iinc 5 1, 3) := dc_132 (gB_c lq_cX12_bound q2_cX12_bound 26 (o := 132) rfl) (gB_c lq_cX12_bound q2_cX12_bound 27 (o := 5) rfl) (gB_c lq_cX12_bound q2_cX12_bound 28 (o := 1) rfl) rfl
theorem dX12_bound_93 : decode cX12_bound 93 = .ok (.goto (-27), 3) := dc_167 (gB_c lq_cX12_bound q2_cX12_bound 29 (o := 167) rfl) (gB_c lq_cX12_bound q2_cX12_bound 30 (o := 255) rfl) (gB_c lq_cX12_bound q2_cX12_bound 31 (o := 229) rfl) rfl
theorem dX12_bound_96 : decode cX12_bound 96 = .ok (.iload_n 2, 1) := dc_28 (gB_c lq_cX12_bound q3_cX12_bound 0 (o := 28) rfl)
theorem dX12_bound_97 : decode cX12_bound 97 = .ok (.ifCond .ne 12, 3) := dc_154 (gB_c lq_cX12_bound q3_cX12_bound 1 (o := 154) rfl) (gB_c lq_cX12_bound q3_cX12_bound 2 (o := 0) rfl) (gB_c lq_cX12_bound q3_cX12_bound 3 (o := 12) rfl) rfl
theorem dX12_bound_100 : decode cX12_bound 100 = .ok (.iload 4, 2) := dc_21 (gB_c lq_cX12_bound q3_cX12_bound 4 (o := 21) rfl) (gB_c lq_cX12_bound q3_cX12_bound 5 (o := 4) rfl)
theorem dX12_bound_102 : decode cX12_bound 102 = .ok (.iconst 1, 1) := dc_4 (gB_c lq_cX12_bound q3_cX12_bound 6 (o := 4) rfl)
theorem dX12_bound_103 : decode cX12_bound 103 = .ok (.iadd, 1) := dc_96 (gB_c lq_cX12_bound q3_cX12_bound 7 (o := 96) rfl)
theorem dX12_bound_104 : decode cX12_bound 104 = .ok (.iconst 2, 1) := dc_5 (gB_c lq_cX12_bound q3_cX12_bound 8 (o := 5) rfl)
theorem dX12_bound_105 : decode cX12_bound 105 = .ok (.idiv, 1) := dc_108 (gB_c lq_cX12_bound q3_cX12_bound 9 (o := 108) rfl)
theorem dX12_bound_106 : decode cX12_bound 106 = .ok (.goto 25, 3) := dc_167 (gB_c lq_cX12_bound q3_cX12_bound 10 (o := 167) rfl) (gB_c lq_cX12_bound q3_cX12_bound 11 (o := 0) rfl) (gB_c lq_cX12_bound q3_cX12_bound 12 (o := 25) rfl) rfl
theorem dX12_bound_109 : decode cX12_bound 109 = .ok (.iload_n 2, 1) := dc_28 (gB_c lq_cX12_bound q3_cX12_bound 13 (o := 28) rfl)
theorem dX12_bound_110 : decode cX12_bound 110 = .ok (.iconst 2, 1) := dc_5 (gB_c lq_cX12_bound q3_cX12_bound 14 (o := 5) rfl)
theorem dX12_bound_111 : decode cX12_bound 111 = .ok (.if_icmp .ne 15, 3) := dc_160 (gB_c lq_cX12_bound q3_cX12_bound 15 (o := 160) rfl) (gB_c lq_cX12_bound q3_cX12_bound 16 (o := 0) rfl) (gB_c lq_cX12_bound q3_cX12_bound 17 (o := 15) rfl) rfl
theorem dX12_bound_114 : decode cX12_bound 114 = .ok (.aload_n 0, 1) := dc_42 (gB_c lq_cX12_bound q3_cX12_bound 18 (o := 42) rfl)
theorem dX12_bound_115 : decode cX12_bound 115 = .ok (.iload_n 1, 1) := dc_27 (gB_c lq_cX12_bound q3_cX12_bound 19 (o := 27) rfl)
theorem dX12_bound_116 : decode cX12_bound 116 = .ok (.invokevirtual 205, 3) := dc_182 (gB_c lq_cX12_bound q3_cX12_bound 20 (o := 182) rfl) (gB_c lq_cX12_bound q3_cX12_bound 21 (o := 0) rfl) (gB_c lq_cX12_bound q3_cX12_bound 22 (o := 205) rfl) rfl
theorem dX12_bound_119 : decode cX12_bound 119 = .ok (.iconst 1, 1) := dc_4 (gB_c lq_cX12_bound q3_cX12_bound 23 (o := 4) rfl)
theorem dX12_bound_120 : decode cX12_bound 120 = .ok (.iadd, 1) := dc_96 (gB_c lq_cX12_bound q3_cX12_bound 24 (o := 96) rfl)
theorem dX12_bound_121 : decode cX12_bound 121 = .ok (.iconst 2, 1) := dc_5 (gB_c lq_cX12_bound q3_cX12_bound 25 (o := 5) rfl)
theorem dX12_bound_122 : decode cX12_bound 122 = .ok (.idiv, 1) := dc_108 (gB_c lq_cX12_bound q3_cX12_bound 26 (o := 108) rfl)
theorem dX12_bound_123 : decode cX12_bound 123 = .ok (.goto 8, 3) := dc_167 (gB_c lq_cX12_bound q3_cX12_bound 27 (o := 167) rfl) (gB_c lq_cX12_bound q3_cX12_bound 28 (o := 0) rfl) (gB_c lq_cX12_bound q3_cX12_bound 29 (o := 8) rfl) rfl
theorem dX12_bound_126 : decode cX12_bound 126 = .ok (.aload_n 0, 1) := dc_42 (gB_c lq_cX12_bound q3_cX12_bound 30 (o := 42) rfl)
theorem dX12_bound_127 : decode cX12_bound 127 = .ok (.iload_n 1, 1) := dc_27 (gB_c lq_cX12_bound q3_cX12_bound 31 (o := 27) rfl)
theorem dX12_bound_128 : decode cX12_bound 128 = .ok (.invokevirtual 214, 3) := dc_182 (gB_c lq_cX12_bound q4_cX12_bound 0 (o := 182) rfl) (gB_c lq_cX12_bound q4_cX12_bound 1 (o := 0) rfl) (gB_c lq_cX12_bound q4_cX12_bound 2 (o := 214) rfl) rfl
theorem dX12_bound_131 : decode cX12_bound 131 = .ok (.ireturn, 1) := dc_172 (gB_c lq_cX12_bound q4_cX12_bound 3 (o := 172) rfl)
abbrev r2_cX12_core : List Nat := [4, 132, 5, 1, 167, 255, 210, 28, 21, 4, 184, 0, 199, 61, 132, 3, 1, 167, 255, 179, 28, 172]
def a1_cX12_core : List Nat := [29, 21, 5, 184, 0, 166, 153, 0, 23, 21, 4, 42, 27, 21, 5, 182, 0, 80, 29, 126, 184, 0, 84, 184, 0, 118, 167, 0, 5, 21, 4, 54]
abbrev r1_cX12_core : List Nat := a1_cX12_core ++ r2_cX12_core
def a0_cX12_core : List Nat := [3, 61, 4, 62, 29, 4, 42, 27, 182, 0, 63, 120, 162, 0, 72, 16, 9, 54, 4, 3, 54, 5, 21, 5, 42, 27, 182, 0, 63, 162, 0, 42]
abbrev r0_cX12_core : List Nat := a0_cX12_core ++ r1_cX12_core
theorem lq_cX12_core : (cX12_core).data.toList.map UInt8.toNat = r0_cX12_core := by decide +kernel
theorem q1_cX12_core : ∀ i, (r0_cX12_core)[32 + i]? = (r1_cX12_core)[i]? := chn (A := a0_cX12_core) (B := r1_cX12_core) (n := 0) (k := 32) rfl (ch0 (R := r0_cX12_core))
theorem q2_cX12_core : ∀ i, (r0_cX12_core)[64 + i]? = (r2_cX12_core)[i]? := chn (A := a1_cX12_core) (B := r2_cX12_core) (n := 32) (k := 32) rfl q1_cX12_core
theorem dX12_core_0 : decode cX12_core 0 = .ok (.iconst 0, 1) := dc_3 (gB_l lq_cX12_core (p := 0) (o := 3) rfl)
theorem dX12_core_1 : decode cX12_core 1 = .ok (.istore_n 2, 1) := dc_61 (gB_l lq_cX12_core (p := 1) (o := 61) rfl)
theorem dX12_core_2 : decode cX12_core 2 = .ok (.iconst 1, 1) := dc_4 (gB_l lq_cX12_core (p := 2) (o := 4) rfl)
theorem dX12_core_3 : decode cX12_core 3 = .ok (.istore_n 3, 1) := dc_62 (gB_l lq_cX12_core (p := 3) (o := 62) rfl)
theorem dX12_core_4 : decode cX12_core 4 = .ok (.iload_n 3, 1) := dc_29 (gB_l lq_cX12_core (p := 4) (o := 29) rfl)
theorem dX12_core_5 : decode cX12_core 5 = .ok (.iconst 1, 1) := dc_4 (gB_l lq_cX12_core (p := 5) (o := 4) rfl)
theorem dX12_core_6 : decode cX12_core 6 = .ok (.aload_n 0, 1) := dc_42 (gB_l lq_cX12_core (p := 6) (o := 42) rfl)
theorem dX12_core_7 : decode cX12_core 7 = .ok (.iload_n 1, 1) := dc_27 (gB_l lq_cX12_core (p := 7) (o := 27) rfl)
theorem dX12_core_8 : decode cX12_core 8 = .ok (.invokevirtual 63, 3) := dc_182 (gB_l lq_cX12_core (p := 8) (o := 182) rfl) (gB_l lq_cX12_core (p := 9) (o := 0) rfl) (gB_l lq_cX12_core (p := 10) (o := 63) rfl) rfl
theorem dX12_core_11 : decode cX12_core 11 = .ok (.ishl, 1) := dc_120 (gB_l lq_cX12_core (p := 11) (o := 120) rfl)
theorem dX12_core_12 : decode cX12_core 12 = .ok (.if_icmp .ge 72, 3) := dc_162 (gB_l lq_cX12_core (p := 12) (o := 162) rfl) (gB_l lq_cX12_core (p := 13) (o := 0) rfl) (gB_l lq_cX12_core (p := 14) (o := 72) rfl) rfl
theorem dX12_core_15 : decode cX12_core 15 = .ok (.bipush 9, 2) := dc_16 (gB_l lq_cX12_core (p := 15) (o := 16) rfl) (gB_l lq_cX12_core (p := 16) (o := 9) rfl) rfl
theorem dX12_core_17 : decode cX12_core 17 = .ok (.istore 4, 2) := dc_54 (gB_l lq_cX12_core (p := 17) (o := 54) rfl) (gB_l lq_cX12_core (p := 18) (o := 4) rfl)
theorem dX12_core_19 : decode cX12_core 19 = .ok (.iconst 0, 1) := dc_3 (gB_l lq_cX12_core (p := 19) (o := 3) rfl)
theorem dX12_core_20 : decode cX12_core 20 = .ok (.istore 5, 2) := dc_54 (gB_l lq_cX12_core (p := 20) (o := 54) rfl) (gB_l lq_cX12_core (p := 21) (o := 5) rfl)
theorem dX12_core_22 : decode cX12_core 22 = .ok (.iload 5, 2) := dc_21 (gB_l lq_cX12_core (p := 22) (o := 21) rfl) (gB_l lq_cX12_core (p := 23) (o := 5) rfl)
theorem dX12_core_24 : decode cX12_core 24 = .ok (.aload_n 0, 1) := dc_42 (gB_l lq_cX12_core (p := 24) (o := 42) rfl)
theorem dX12_core_25 : decode cX12_core 25 = .ok (.iload_n 1, 1) := dc_27 (gB_l lq_cX12_core (p := 25) (o := 27) rfl)
theorem dX12_core_26 : decode cX12_core 26 = .ok (.invokevirtual 63, 3) := dc_182 (gB_l lq_cX12_core (p := 26) (o := 182) rfl) (gB_l lq_cX12_core (p := 27) (o := 0) rfl) (gB_l lq_cX12_core (p := 28) (o := 63) rfl) rfl
theorem dX12_core_29 : decode cX12_core 29 = .ok (.if_icmp .ge 42, 3) := dc_162 (gB_l lq_cX12_core (p := 29) (o := 162) rfl) (gB_l lq_cX12_core (p := 30) (o := 0) rfl) (gB_l lq_cX12_core (p := 31) (o := 42) rfl) rfl
theorem dX12_core_32 : decode cX12_core 32 = .ok (.iload_n 3, 1) := dc_29 (gB_c lq_cX12_core q1_cX12_core 0 (o := 29) rfl)
theorem dX12_core_33 : decode cX12_core 33 = .ok (.iload 5, 2) := dc_21 (gB_c lq_cX12_core q1_cX12_core 1 (o := 21) rfl) (gB_c lq_cX12_core q1_cX12_core 2 (o := 5) rfl)
theorem dX12_core_35 : decode cX12_core 35 = .ok (.invokestatic 166, 3) := dc_184 (gB_c lq_cX12_core q1_cX12_core 3 (o := 184) rfl) (gB_c lq_cX12_core q1_cX12_core 4 (o := 0) rfl) (gB_c lq_cX12_core q1_cX12_core 5 (o := 166) rfl) rfl
theorem dX12_core_38 : decode cX12_core 38 = .ok (.ifCond .eq 23, 3) := dc_153 (gB_c lq_cX12_core q1_cX12_core 6 (o := 153) rfl) (gB_c lq_cX12_core q1_cX12_core 7 (o := 0) rfl) (gB_c lq_cX12_core q1_cX12_core 8 (o := 23) rfl) rfl
theorem dX12_core_41 : decode cX12_core 41 = .ok (.iload 4, 2) := dc_21 (gB_c lq_cX12_core q1_cX12_core 9 (o := 21) rfl) (gB_c lq_cX12_core q1_cX12_core 10 (o := 4) rfl)
theorem dX12_core_43 : decode cX12_core 43 = .ok (.aload_n 0, 1) := dc_42 (gB_c lq_cX12_core q1_cX12_core 11 (o := 42) rfl)
theorem dX12_core_44 : decode cX12_core 44 = .ok (.iload_n 1, 1) := dc_27 (gB_c lq_cX12_core q1_cX12_core 12 (o := 27) rfl)
theorem dX12_core_45 : decode cX12_core 45 = .ok (.iload 5, 2) := dc_21 (gB_c lq_cX12_core q1_cX12_core 13 (o := 21) rfl) (gB_c lq_cX12_core q1_cX12_core 14 (o := 5) rfl)
theorem dX12_core_47 : decode cX12_core 47 = .ok (.invokevirtual 80, 3) := dc_182 (gB_c lq_cX12_core q1_cX12_core 15 (o := 182) rfl) (gB_c lq_cX12_core q1_cX12_core 16 (o := 0) rfl) (gB_c lq_cX12_core q1_cX12_core 17 (o := 80) rfl) rfl
theorem dX12_core_50 : decode cX12_core 50 = .ok (.iload_n 3, 1) := dc_29 (gB_c lq_cX12_core q1_cX12_core 18 (o := 29) rfl)
theorem dX12_core_51 : decode cX12_core 51 = .ok (.iand, 1) := dc_126 (gB_c lq_cX12_core q1_cX12_core 19 (o := 126) rfl)
theorem dX12_core_52 : decode cX12_core 52 = .ok (.invokestatic 84, 3) := dc_184 (gB_c lq_cX12_core q1_cX12_core 20 (o := 184) rfl) (gB_c lq_cX12_core q1_cX12_core 21 (o := 0) rfl) (gB_c lq_cX12_core q1_cX12_core 22 (o := 84) rfl) rfl
theorem dX12_core_55 : decode cX12_core 55 = .ok (.invokestatic 118, 3) := dc_184 (gB_c lq_cX12_core q1_cX12_core 23 (o := 184) rfl) (gB_c lq_cX12_core q1_cX12_core 24 (o := 0) rfl) (gB_c lq_cX12_core q1_cX12_core 25 (o := 118) rfl) rfl
theorem dX12_core_58 : decode cX12_core 58 = .ok (.goto 5, 3) := dc_167 (gB_c lq_cX12_core q1_cX12_core 26 (o := 167) rfl) (gB_c lq_cX12_core q1_cX12_core 27 (o := 0) rfl) (gB_c lq_cX12_core q1_cX12_core 28 (o := 5) rfl) rfl
theorem dX12_core_61 : decode cX12_core 61 = .ok (.iload 4, 2) := dc_21 (gB_c lq_cX12_core q1_cX12_core 29 (o := 21) rfl) (gB_c lq_cX12_core q1_cX12_core 30 (o := 4) rfl)
theorem dX12_core_63 : decode cX12_core 63 = .ok (.istore 4, 2) := dc_54 (gB_c lq_cX12_core q1_cX12_core 31 (o := 54) rfl) (gB_c lq_cX12_core q2_cX12_core 0 (o := 4) rfl)
theorem dX12_core_65 : decode cX12_core 65 = .ok (.iinc 5 1, 3) := dc_132 (gB_c lq_cX12_core q2_cX12_core 1 (o := 132) rfl) (gB_c lq_cX12_core q2_cX12_core 2 (o := 5) rfl) (gB_c lq_cX12_core q2_cX12_core 3 (o := 1) rfl) rfl
theorem dX12_core_68 : decode cX12_core 68 = .ok (.goto (-46), 3) := dc_167 (gB_c lq_cX12_core q2_cX12_core 4 (o := 167) rfl) (gB_c lq_cX12_core q2_cX12_core 5 (o := 255) rfl) (gB_c lq_cX12_core q2_cX12_core 6 (o := 210) rfl) rfl
theorem dX12_core_71 : decode cX12_core 71 = .ok (.iload_n 2, 1) := dc_28 (gB_c lq_cX12_core q2_cX12_core 7 (o := 28) rfl)
theorem dX12_core_72 : decode cX12_core 72 = .ok (.iload 4, 2) := dc_21 (gB_c lq_cX12_core q2_cX12_core 8 (o := 21) rfl) (gB_c lq_cX12_core q2_cX12_core 9 (o := 4) rfl)
theorem dX12_core_74 : decode cX12_core 74 = .ok (.invokestatic 199, 3) := dc_184 (gB_c lq_cX12_core q2_cX12_core 10 (o := 184) rfl) (gB_c lq_cX12_core q2_cX12_core 11 (o := 0) rfl) (gB_c lq_cX12_core q2_cX12_core 12 (o := 199) rfl) rfl
theorem dX12_core_77 : decode cX12_core 77 = .ok (.istore_n 2, 1) := dc_61 (gB_c lq_cX12_core q2_cX12_core 13 (o := 61) rfl)
theorem dX12_core_78 : decode cX12_core 78 = .ok (.iinc 3 1, 3) := dc_132 (gB_c lq_cX12_core q2_cX12_core 14 (o := 132) rfl) (gB_c lq_cX12_core q2_cX12_core 15 (o := 3) rfl) (gB_c lq_cX12_core q2_cX12_core 16 (o := 1) rfl) rfl
theorem dX12_core_81 : decode cX12_core 81 = .ok (.goto (-77), 3) := dc_167 (gB_c lq_cX12_core q2_cX12_core 17 (o := 167) rfl) (gB_c lq_cX12_core q2_cX12_core 18 (o := 255) rfl) (gB_c lq_cX12_core q2_cX12_core 19 (o := 179) rfl) rfl
theorem dX12_core_84 : decode cX12_core 84 = .ok (.iload_n 2, 1) := dc_28 (gB_c lq_cX12_core q2_cX12_core 20 (o := 28) rfl)
theorem dX12_core_85 : decode cX12_core 85 = .ok (.ireturn, 1) := dc_172 (gB_c lq_cX12_core q2_cX12_core 21 (o := 172) rfl)
abbrev r2_cX12_cost : List Nat := [160, 0, 7, 4, 167, 0, 13, 28, 7, 160, 0, 7, 5, 167, 0, 4, 3, 182, 0, 229, 172]
def a1_cX12_cost : List Nat := [29, 4, 21, 4, 120, 128, 54, 5, 21, 5, 4, 42, 27, 182, 0, 63, 120, 4, 100, 160, 0, 7, 3, 167, 0, 29, 42, 27, 21, 5, 28, 4]
abbrev r1_cX12_cost : List Nat := a1_cX12_cost ++ r2_cX12_cost
def a0_cX12_cost : List Nat := [28, 8, 160, 0, 15, 42, 27, 29, 21, 4, 182, 0, 223, 184, 0, 84, 172, 28, 16, 6, 160, 0, 12, 42, 27, 29, 21, 4, 182, 0, 226, 172]
abbrev r0_cX12_cost : List Nat := a0_cX12_cost ++ r1_cX12_cost
theorem lq_cX12_cost : (cX12_cost).data.toList.map UInt8.toNat = r0_cX12_cost := by decide +kernel
theorem q1_cX12_cost : ∀ i, (r0_cX12_cost)[32 + i]? = (r1_cX12_cost)[i]? := chn (A := a0_cX12_cost) (B := r1_cX12_cost) (n := 0) (k := 32) rfl (ch0 (R := r0_cX12_cost))
theorem q2_cX12_cost : ∀ i, (r0_cX12_cost)[64 + i]? = (r2_cX12_cost)[i]? := chn (A := a1_cX12_cost) (B := r2_cX12_cost) (n := 32) (k := 32) rfl q1_cX12_cost
theorem dX12_cost_0 : decode cX12_cost 0 = .ok (.iload_n 2, 1) := dc_28 (gB_l lq_cX12_cost (p := 0) (o := 28) rfl)
theorem dX12_cost_1 : decode cX12_cost 1 = .ok (.iconst 5, 1) := dc_8 (gB_l lq_cX12_cost (p := 1) (o := 8) rfl)
theorem dX12_cost_2 : decode cX12_cost 2 = .ok (.if_icmp .ne 15, 3) := dc_160 (gB_l lq_cX12_cost (p := 2) (o := 160) rfl) (gB_l lq_cX12_cost (p := 3) (o := 0) rfl) (gB_l lq_cX12_cost (p := 4) (o := 15) rfl) rfl
theorem dX12_cost_5 : decode cX12_cost 5 = .ok (.aload_n 0, 1) := dc_42 (gB_l lq_cX12_cost (p := 5) (o := 42) rfl)
theorem dX12_cost_6 : decode cX12_cost 6 = .ok (.iload_n 1, 1) := dc_27 (gB_l lq_cX12_cost (p := 6) (o := 27) rfl)
theorem dX12_cost_7 : decode cX12_cost 7 = .ok (.iload_n 3, 1) := dc_29 (gB_l lq_cX12_cost (p := 7) (o := 29) rfl)
theorem dX12_cost_8 : decode cX12_cost 8 = .ok (.iload 4, 2) := dc_21 (gB_l lq_cX12_cost (p := 8) (o := 21) rfl) (gB_l lq_cX12_cost (p := 9) (o := 4) rfl)
theorem dX12_cost_10 : decode cX12_cost 10 = .ok (.invokevirtual 223, 3) := dc_182 (gB_l lq_cX12_cost (p := 10) (o := 182) rfl) (gB_l lq_cX12_cost (p := 11) (o := 0) rfl) (gB_l lq_cX12_cost (p := 12) (o := 223) rfl) rfl
theorem dX12_cost_13 : decode cX12_cost 13 = .ok (.invokestatic 84, 3) := dc_184 (gB_l lq_cX12_cost (p := 13) (o := 184) rfl) (gB_l lq_cX12_cost (p := 14) (o := 0) rfl) (gB_l lq_cX12_cost (p := 15) (o := 84) rfl) rfl
theorem dX12_cost_16 : decode cX12_cost 16 = .ok (.ireturn, 1) := dc_172 (gB_l lq_cX12_cost (p := 16) (o := 172) rfl)
theorem dX12_cost_17 : decode cX12_cost 17 = .ok (.iload_n 2, 1) := dc_28 (gB_l lq_cX12_cost (p := 17) (o := 28) rfl)
theorem dX12_cost_18 : decode cX12_cost 18 = .ok (.bipush 6, 2) := dc_16 (gB_l lq_cX12_cost (p := 18) (o := 16) rfl) (gB_l lq_cX12_cost (p := 19) (o := 6) rfl) rfl
theorem dX12_cost_20 : decode cX12_cost 20 = .ok (.if_icmp .ne 12, 3) := dc_160 (gB_l lq_cX12_cost (p := 20) (o := 160) rfl) (gB_l lq_cX12_cost (p := 21) (o := 0) rfl) (gB_l lq_cX12_cost (p := 22) (o := 12) rfl) rfl
theorem dX12_cost_23 : decode cX12_cost 23 = .ok (.aload_n 0, 1) := dc_42 (gB_l lq_cX12_cost (p := 23) (o := 42) rfl)
theorem dX12_cost_24 : decode cX12_cost 24 = .ok (.iload_n 1, 1) := dc_27 (gB_l lq_cX12_cost (p := 24) (o := 27) rfl)
theorem dX12_cost_25 : decode cX12_cost 25 = .ok (.iload_n 3, 1) := dc_29 (gB_l lq_cX12_cost (p := 25) (o := 29) rfl)
theorem dX12_cost_26 : decode cX12_cost 26 = .ok (.iload 4, 2) := dc_21 (gB_l lq_cX12_cost (p := 26) (o := 21) rfl) (gB_l lq_cX12_cost (p := 27) (o := 4) rfl)
theorem dX12_cost_28 : decode cX12_cost 28 = .ok (.invokevirtual 226, 3) := dc_182 (gB_l lq_cX12_cost (p := 28) (o := 182) rfl) (gB_l lq_cX12_cost (p := 29) (o := 0) rfl) (gB_l lq_cX12_cost (p := 30) (o := 226) rfl) rfl
theorem dX12_cost_31 : decode cX12_cost 31 = .ok (.ireturn, 1) := dc_172 (gB_l lq_cX12_cost (p := 31) (o := 172) rfl)
theorem dX12_cost_32 : decode cX12_cost 32 = .ok (.iload_n 3, 1) := dc_29 (gB_c lq_cX12_cost q1_cX12_cost 0 (o := 29) rfl)
theorem dX12_cost_33 : decode cX12_cost 33 = .ok (.iconst 1, 1) := dc_4 (gB_c lq_cX12_cost q1_cX12_cost 1 (o := 4) rfl)
theorem dX12_cost_34 : decode cX12_cost 34 = .ok (.iload 4, 2) := dc_21 (gB_c lq_cX12_cost q1_cX12_cost 2 (o := 21) rfl) (gB_c lq_cX12_cost q1_cX12_cost 3 (o := 4) rfl)
theorem dX12_cost_36 : decode cX12_cost 36 = .ok (.ishl, 1) := dc_120 (gB_c lq_cX12_cost q1_cX12_cost 4 (o := 120) rfl)
theorem dX12_cost_37 : decode cX12_cost 37 = .ok (.ior, 1) := dc_128 (gB_c lq_cX12_cost q1_cX12_cost 5 (o := 128) rfl)
theorem dX12_cost_38 : decode cX12_cost 38 = .ok (.istore 5, 2) := dc_54 (gB_c lq_cX12_cost q1_cX12_cost 6 (o := 54) rfl) (gB_c lq_cX12_cost q1_cX12_cost 7 (o := 5) rfl)
theorem dX12_cost_40 : decode cX12_cost 40 = .ok (.iload 5, 2) := dc_21 (gB_c lq_cX12_cost q1_cX12_cost 8 (o := 21) rfl) (gB_c lq_cX12_cost q1_cX12_cost 9 (o := 5) rfl)
theorem dX12_cost_42 : decode cX12_cost 42 = .ok (.iconst 1, 1) := dc_4 (gB_c lq_cX12_cost q1_cX12_cost 10 (o := 4) rfl)
theorem dX12_cost_43 : decode cX12_cost 43 = .ok (.aload_n 0, 1) := dc_42 (gB_c lq_cX12_cost q1_cX12_cost 11 (o := 42) rfl)
theorem dX12_cost_44 : decode cX12_cost 44 = .ok (.iload_n 1, 1) := dc_27 (gB_c lq_cX12_cost q1_cX12_cost 12 (o := 27) rfl)
theorem dX12_cost_45 : decode cX12_cost 45 = .ok (.invokevirtual 63, 3) := dc_182 (gB_c lq_cX12_cost q1_cX12_cost 13 (o := 182) rfl) (gB_c lq_cX12_cost q1_cX12_cost 14 (o := 0) rfl) (gB_c lq_cX12_cost q1_cX12_cost 15 (o := 63) rfl) rfl
theorem dX12_cost_48 : decode cX12_cost 48 = .ok (.ishl, 1) := dc_120 (gB_c lq_cX12_cost q1_cX12_cost 16 (o := 120) rfl)
theorem dX12_cost_49 : decode cX12_cost 49 = .ok (.iconst 1, 1) := dc_4 (gB_c lq_cX12_cost q1_cX12_cost 17 (o := 4) rfl)
theorem dX12_cost_50 : decode cX12_cost 50 = .ok (.isub, 1) := dc_100 (gB_c lq_cX12_cost q1_cX12_cost 18 (o := 100) rfl)
theorem dX12_cost_51 : decode cX12_cost 51 = .ok (.if_icmp .ne 7, 3) := dc_160 (gB_c lq_cX12_cost q1_cX12_cost 19 (o := 160) rfl) (gB_c lq_cX12_cost q1_cX12_cost 20 (o := 0) rfl) (gB_c lq_cX12_cost q1_cX12_cost 21 (o := 7) rfl) rfl
theorem dX12_cost_54 : decode cX12_cost 54 = .ok (.iconst 0, 1) := dc_3 (gB_c lq_cX12_cost q1_cX12_cost 22 (o := 3) rfl)
theorem dX12_cost_55 : decode cX12_cost 55 = .ok (.goto 29, 3) := dc_167 (gB_c lq_cX12_cost q1_cX12_cost 23 (o := 167) rfl) (gB_c lq_cX12_cost q1_cX12_cost 24 (o := 0) rfl) (gB_c lq_cX12_cost q1_cX12_cost 25 (o := 29) rfl) rfl
theorem dX12_cost_58 : decode cX12_cost 58 = .ok (.aload_n 0, 1) := dc_42 (gB_c lq_cX12_cost q1_cX12_cost 26 (o := 42) rfl)
theorem dX12_cost_59 : decode cX12_cost 59 = .ok (.iload_n 1, 1) := dc_27 (gB_c lq_cX12_cost q1_cX12_cost 27 (o := 27) rfl)
theorem dX12_cost_60 : decode cX12_cost 60 = .ok (.iload 5, 2) := dc_21 (gB_c lq_cX12_cost q1_cX12_cost 28 (o := 21) rfl) (gB_c lq_cX12_cost q1_cX12_cost 29 (o := 5) rfl)
theorem dX12_cost_62 : decode cX12_cost 62 = .ok (.iload_n 2, 1) := dc_28 (gB_c lq_cX12_cost q1_cX12_cost 30 (o := 28) rfl)
theorem dX12_cost_63 : decode cX12_cost 63 = .ok (.iconst 1, 1) := dc_4 (gB_c lq_cX12_cost q1_cX12_cost 31 (o := 4) rfl)
theorem dX12_cost_64 : decode cX12_cost 64 = .ok (.if_icmp .ne 7, 3) := dc_160 (gB_c lq_cX12_cost q2_cX12_cost 0 (o := 160) rfl) (gB_c lq_cX12_cost q2_cX12_cost 1 (o := 0) rfl) (gB_c lq_cX12_cost q2_cX12_cost 2 (o := 7) rfl) rfl
theorem dX12_cost_67 : decode cX12_cost 67 = .ok (.iconst 1, 1) := dc_4 (gB_c lq_cX12_cost q2_cX12_cost 3 (o := 4) rfl)
theorem dX12_cost_68 : decode cX12_cost 68 = .ok (.goto 13, 3) := dc_167 (gB_c lq_cX12_cost q2_cX12_cost 4 (o := 167) rfl) (gB_c lq_cX12_cost q2_cX12_cost 5 (o := 0) rfl) (gB_c lq_cX12_cost q2_cX12_cost 6 (o := 13) rfl) rfl
theorem dX12_cost_71 : decode cX12_cost 71 = .ok (.iload_n 2, 1) := dc_28 (gB_c lq_cX12_cost q2_cX12_cost 7 (o := 28) rfl)
theorem dX12_cost_72 : decode cX12_cost 72 = .ok (.iconst 4, 1) := dc_7 (gB_c lq_cX12_cost q2_cX12_cost 8 (o := 7) rfl)
theorem dX12_cost_73 : decode cX12_cost 73 = .ok (.if_icmp .ne 7, 3) := dc_160 (gB_c lq_cX12_cost q2_cX12_cost 9 (o := 160) rfl) (gB_c lq_cX12_cost q2_cX12_cost 10 (o := 0) rfl) (gB_c lq_cX12_cost q2_cX12_cost 11 (o := 7) rfl) rfl
theorem dX12_cost_76 : decode cX12_cost 76 = .ok (.iconst 2, 1) := dc_5 (gB_c lq_cX12_cost q2_cX12_cost 12 (o := 5) rfl)
theorem dX12_cost_77 : decode cX12_cost 77 = .ok (.goto 4, 3) := dc_167 (gB_c lq_cX12_cost q2_cX12_cost 13 (o := 167) rfl) (gB_c lq_cX12_cost q2_cX12_cost 14 (o := 0) rfl) (gB_c lq_cX12_cost q2_cX12_cost 15 (o := 4) rfl) rfl
theorem dX12_cost_80 : decode cX12_cost 80 = .ok (.iconst 0, 1) := dc_3 (gB_c lq_cX12_cost q2_cX12_cost 16 (o := 3) rfl)
theorem dX12_cost_81 : decode cX12_cost 81 = .ok (.invokevirtual 229, 3) := dc_182 (gB_c lq_cX12_cost q2_cX12_cost 17 (o := 182) rfl) (gB_c lq_cX12_cost q2_cX12_cost 18 (o := 0) rfl) (gB_c lq_cX12_cost q2_cX12_cost 19 (o := 229) rfl) rfl
theorem dX12_cost_84 : decode cX12_cost 84 = .ok (.ireturn, 1) := dc_172 (gB_c lq_cX12_cost q2_cX12_cost 20 (o := 172) rfl)
abbrev r2_cX12_count : List Nat := [28, 172, 42, 180, 0, 87, 172, 42, 180, 0, 100, 172, 42, 180, 0, 193, 172, 2, 172]
def a1_cX12_count : List Nat := [230, 27, 170, 0, 0, 0, 0, 47, 0, 0, 0, 0, 0, 0, 0, 3, 0, 0, 0, 30, 0, 0, 0, 32, 0, 0, 0, 37, 0, 0, 0, 42]
abbrev r1_cX12_count : List Nat := a1_cX12_count ++ r2_cX12_count
def a0_cX12_count : List Nat := [3, 61, 3, 62, 29, 6, 162, 0, 27, 28, 42, 29, 182, 0, 67, 153, 0, 9, 4, 29, 120, 167, 0, 4, 3, 128, 61, 132, 3, 1, 167, 255]
abbrev r0_cX12_count : List Nat := a0_cX12_count ++ r1_cX12_count
theorem lq_cX12_count : (cX12_count).data.toList.map UInt8.toNat = r0_cX12_count := by decide +kernel
theorem q1_cX12_count : ∀ i, (r0_cX12_count)[32 + i]? = (r1_cX12_count)[i]? := chn (A := a0_cX12_count) (B := r1_cX12_count) (n := 0) (k := 32) rfl (ch0 (R := r0_cX12_count))
theorem q2_cX12_count : ∀ i, (r0_cX12_count)[64 + i]? = (r2_cX12_count)[i]? := chn (A := a1_cX12_count) (B := r2_cX12_count) (n := 32) (k := 32) rfl q1_cX12_count
theorem dX12_count_0 : decode cX12_count 0 = .ok (.iconst 0, 1) := dc_3 (gB_l lq_cX12_count (p := 0) (o := 3) rfl)
theorem dX12_count_1 : decode cX12_count 1 = .ok (.istore_n 2, 1) := dc_61 (gB_l lq_cX12_count (p := 1) (o := 61) rfl)
theorem dX12_count_2 : decode cX12_count 2 = .ok (.iconst 0, 1) := dc_3 (gB_l lq_cX12_count (p := 2) (o := 3) rfl)
theorem dX12_count_3 : decode cX12_count 3 = .ok (.istore_n 3, 1) := dc_62 (gB_l lq_cX12_count (p := 3) (o := 62) rfl)
theorem dX12_count_4 : decode cX12_count 4 = .ok (.iload_n 3, 1) := dc_29 (gB_l lq_cX12_count (p := 4) (o := 29) rfl)
theorem dX12_count_5 : decode cX12_count 5 = .ok (.iconst 3, 1) := dc_6 (gB_l lq_cX12_count (p := 5) (o := 6) rfl)
theorem dX12_count_6 : decode cX12_count 6 = .ok (.if_icmp .ge 27, 3) := dc_162 (gB_l lq_cX12_count (p := 6) (o := 162) rfl) (gB_l lq_cX12_count (p := 7) (o := 0) rfl) (gB_l lq_cX12_count (p := 8) (o := 27) rfl) rfl
theorem dX12_count_9 : decode cX12_count 9 = .ok (.iload_n 2, 1) := dc_28 (gB_l lq_cX12_count (p := 9) (o := 28) rfl)
theorem dX12_count_10 : decode cX12_count 10 = .ok (.aload_n 0, 1) := dc_42 (gB_l lq_cX12_count (p := 10) (o := 42) rfl)
theorem dX12_count_11 : decode cX12_count 11 = .ok (.iload_n 3, 1) := dc_29 (gB_l lq_cX12_count (p := 11) (o := 29) rfl)
theorem dX12_count_12 : decode cX12_count 12 = .ok (.invokevirtual 67, 3) := dc_182 (gB_l lq_cX12_count (p := 12) (o := 182) rfl) (gB_l lq_cX12_count (p := 13) (o := 0) rfl) (gB_l lq_cX12_count (p := 14) (o := 67) rfl) rfl
theorem dX12_count_15 : decode cX12_count 15 = .ok (.ifCond .eq 9, 3) := dc_153 (gB_l lq_cX12_count (p := 15) (o := 153) rfl) (gB_l lq_cX12_count (p := 16) (o := 0) rfl) (gB_l lq_cX12_count (p := 17) (o := 9) rfl) rfl
theorem dX12_count_18 : decode cX12_count 18 = .ok (.iconst 1, 1) := dc_4 (gB_l lq_cX12_count (p := 18) (o := 4) rfl)
theorem dX12_count_19 : decode cX12_count 19 = .ok (.iload_n 3, 1) := dc_29 (gB_l lq_cX12_count (p := 19) (o := 29) rfl)
theorem dX12_count_20 : decode cX12_count 20 = .ok (.ishl, 1) := dc_120 (gB_l lq_cX12_count (p := 20) (o := 120) rfl)
theorem dX12_count_21 : decode cX12_count 21 = .ok (.goto 4, 3) := dc_167 (gB_l lq_cX12_count (p := 21) (o := 167) rfl) (gB_l lq_cX12_count (p := 22) (o := 0) rfl) (gB_l lq_cX12_count (p := 23) (o := 4) rfl) rfl
theorem dX12_count_24 : decode cX12_count 24 = .ok (.iconst 0, 1) := dc_3 (gB_l lq_cX12_count (p := 24) (o := 3) rfl)
theorem dX12_count_25 : decode cX12_count 25 = .ok (.ior, 1) := dc_128 (gB_l lq_cX12_count (p := 25) (o := 128) rfl)
theorem dX12_count_26 : decode cX12_count 26 = .ok (.istore_n 2, 1) := dc_61 (gB_l lq_cX12_count (p := 26) (o := 61) rfl)
theorem dX12_count_27 : decode cX12_count 27 = .ok (.iinc 3 1, 3) := dc_132 (gB_l lq_cX12_count (p := 27) (o := 132) rfl) (gB_l lq_cX12_count (p := 28) (o := 3) rfl) (gB_l lq_cX12_count (p := 29) (o := 1) rfl) rfl
theorem dX12_count_30 : decode cX12_count 30 = .ok (.goto (-26), 3) := dc_167 (gB_l lq_cX12_count (p := 30) (o := 167) rfl) (gB_l lq_cX12_count (p := 31) (o := 255) rfl) (gB_c lq_cX12_count q1_cX12_count 0 (o := 230) rfl) rfl
theorem dX12_count_33 : decode cX12_count 33 = .ok (.iload_n 1, 1) := dc_27 (gB_c lq_cX12_count q1_cX12_count 1 (o := 27) rfl)
theorem dX12_count_34 : decode cX12_count 34 = .ok (.tableswitch 47 0 3 #[30, 32, 37, 42], 30) := by decide +kernel
theorem dX12_count_64 : decode cX12_count 64 = .ok (.iload_n 2, 1) := dc_28 (gB_c lq_cX12_count q2_cX12_count 0 (o := 28) rfl)
theorem dX12_count_65 : decode cX12_count 65 = .ok (.ireturn, 1) := dc_172 (gB_c lq_cX12_count q2_cX12_count 1 (o := 172) rfl)
theorem dX12_count_66 : decode cX12_count 66 = .ok (.aload_n 0, 1) := dc_42 (gB_c lq_cX12_count q2_cX12_count 2 (o := 42) rfl)
theorem dX12_count_67 : decode cX12_count 67 = .ok (.getfield 87, 3) := dc_180 (gB_c lq_cX12_count q2_cX12_count 3 (o := 180) rfl) (gB_c lq_cX12_count q2_cX12_count 4 (o := 0) rfl) (gB_c lq_cX12_count q2_cX12_count 5 (o := 87) rfl) rfl
theorem dX12_count_70 : decode cX12_count 70 = .ok (.ireturn, 1) := dc_172 (gB_c lq_cX12_count q2_cX12_count 6 (o := 172) rfl)
theorem dX12_count_71 : decode cX12_count 71 = .ok (.aload_n 0, 1) := dc_42 (gB_c lq_cX12_count q2_cX12_count 7 (o := 42) rfl)
theorem dX12_count_72 : decode cX12_count 72 = .ok (.getfield 100, 3) := dc_180 (gB_c lq_cX12_count q2_cX12_count 8 (o := 180) rfl) (gB_c lq_cX12_count q2_cX12_count 9 (o := 0) rfl) (gB_c lq_cX12_count q2_cX12_count 10 (o := 100) rfl) rfl
theorem dX12_count_75 : decode cX12_count 75 = .ok (.ireturn, 1) := dc_172 (gB_c lq_cX12_count q2_cX12_count 11 (o := 172) rfl)
theorem dX12_count_76 : decode cX12_count 76 = .ok (.aload_n 0, 1) := dc_42 (gB_c lq_cX12_count q2_cX12_count 12 (o := 42) rfl)
theorem dX12_count_77 : decode cX12_count 77 = .ok (.getfield 193, 3) := dc_180 (gB_c lq_cX12_count q2_cX12_count 13 (o := 180) rfl) (gB_c lq_cX12_count q2_cX12_count 14 (o := 0) rfl) (gB_c lq_cX12_count q2_cX12_count 15 (o := 193) rfl) rfl
theorem dX12_count_80 : decode cX12_count 80 = .ok (.ireturn, 1) := dc_172 (gB_c lq_cX12_count q2_cX12_count 16 (o := 172) rfl)
theorem dX12_count_81 : decode cX12_count 81 = .ok (.iconst (-1), 1) := dc_2 (gB_c lq_cX12_count q2_cX12_count 17 (o := 2) rfl)
theorem dX12_count_82 : decode cX12_count 82 = .ok (.ireturn, 1) := dc_172 (gB_c lq_cX12_count q2_cX12_count 18 (o := 172) rfl)
abbrev r1_cX12_cuts : List Nat := [0, 93, 42, 27, 28, 29, 3, 182, 0, 162, 42, 21, 4, 182, 0, 90, 172]
def a0_cX12_cuts : List Nat := [42, 27, 28, 29, 182, 1, 70, 154, 0, 6, 16, 254, 172, 42, 27, 28, 29, 182, 0, 76, 54, 4, 21, 4, 154, 0, 6, 16, 250, 172, 42, 182]
abbrev r0_cX12_cuts : List Nat := a0_cX12_cuts ++ r1_cX12_cuts
theorem lq_cX12_cuts : (cX12_cuts).data.toList.map UInt8.toNat = r0_cX12_cuts := by decide +kernel
theorem q1_cX12_cuts : ∀ i, (r0_cX12_cuts)[32 + i]? = (r1_cX12_cuts)[i]? := chn (A := a0_cX12_cuts) (B := r1_cX12_cuts) (n := 0) (k := 32) rfl (ch0 (R := r0_cX12_cuts))
theorem dX12_cuts_0 : decode cX12_cuts 0 = .ok (.aload_n 0, 1) := dc_42 (gB_l lq_cX12_cuts (p := 0) (o := 42) rfl)
theorem dX12_cuts_1 : decode cX12_cuts 1 = .ok (.iload_n 1, 1) := dc_27 (gB_l lq_cX12_cuts (p := 1) (o := 27) rfl)
theorem dX12_cuts_2 : decode cX12_cuts 2 = .ok (.iload_n 2, 1) := dc_28 (gB_l lq_cX12_cuts (p := 2) (o := 28) rfl)
theorem dX12_cuts_3 : decode cX12_cuts 3 = .ok (.iload_n 3, 1) := dc_29 (gB_l lq_cX12_cuts (p := 3) (o := 29) rfl)
theorem dX12_cuts_4 : decode cX12_cuts 4 = .ok (.invokevirtual 326, 3) := dc_182 (gB_l lq_cX12_cuts (p := 4) (o := 182) rfl) (gB_l lq_cX12_cuts (p := 5) (o := 1) rfl) (gB_l lq_cX12_cuts (p := 6) (o := 70) rfl) rfl
theorem dX12_cuts_7 : decode cX12_cuts 7 = .ok (.ifCond .ne 6, 3) := dc_154 (gB_l lq_cX12_cuts (p := 7) (o := 154) rfl) (gB_l lq_cX12_cuts (p := 8) (o := 0) rfl) (gB_l lq_cX12_cuts (p := 9) (o := 6) rfl) rfl
theorem dX12_cuts_10 : decode cX12_cuts 10 = .ok (.bipush (-2), 2) := dc_16 (gB_l lq_cX12_cuts (p := 10) (o := 16) rfl) (gB_l lq_cX12_cuts (p := 11) (o := 254) rfl) rfl
theorem dX12_cuts_12 : decode cX12_cuts 12 = .ok (.ireturn, 1) := dc_172 (gB_l lq_cX12_cuts (p := 12) (o := 172) rfl)
theorem dX12_cuts_13 : decode cX12_cuts 13 = .ok (.aload_n 0, 1) := dc_42 (gB_l lq_cX12_cuts (p := 13) (o := 42) rfl)
theorem dX12_cuts_14 : decode cX12_cuts 14 = .ok (.iload_n 1, 1) := dc_27 (gB_l lq_cX12_cuts (p := 14) (o := 27) rfl)
theorem dX12_cuts_15 : decode cX12_cuts 15 = .ok (.iload_n 2, 1) := dc_28 (gB_l lq_cX12_cuts (p := 15) (o := 28) rfl)
theorem dX12_cuts_16 : decode cX12_cuts 16 = .ok (.iload_n 3, 1) := dc_29 (gB_l lq_cX12_cuts (p := 16) (o := 29) rfl)
theorem dX12_cuts_17 : decode cX12_cuts 17 = .ok (.invokevirtual 76, 3) := dc_182 (gB_l lq_cX12_cuts (p := 17) (o := 182) rfl) (gB_l lq_cX12_cuts (p := 18) (o := 0) rfl) (gB_l lq_cX12_cuts (p := 19) (o := 76) rfl) rfl
theorem dX12_cuts_20 : decode cX12_cuts 20 = .ok (.istore 4, 2) := dc_54 (gB_l lq_cX12_cuts (p := 20) (o := 54) rfl) (gB_l lq_cX12_cuts (p := 21) (o := 4) rfl)
theorem dX12_cuts_22 : decode cX12_cuts 22 = .ok (.iload 4, 2) := dc_21 (gB_l lq_cX12_cuts (p := 22) (o := 21) rfl) (gB_l lq_cX12_cuts (p := 23) (o := 4) rfl)
theorem dX12_cuts_24 : decode cX12_cuts 24 = .ok (.ifCond .ne 6, 3) := dc_154 (gB_l lq_cX12_cuts (p := 24) (o := 154) rfl) (gB_l lq_cX12_cuts (p := 25) (o := 0) rfl) (gB_l lq_cX12_cuts (p := 26) (o := 6) rfl) rfl
theorem dX12_cuts_27 : decode cX12_cuts 27 = .ok (.bipush (-6), 2) := dc_16 (gB_l lq_cX12_cuts (p := 27) (o := 16) rfl) (gB_l lq_cX12_cuts (p := 28) (o := 250) rfl) rfl
theorem dX12_cuts_29 : decode cX12_cuts 29 = .ok (.ireturn, 1) := dc_172 (gB_l lq_cX12_cuts (p := 29) (o := 172) rfl)
theorem dX12_cuts_30 : decode cX12_cuts 30 = .ok (.aload_n 0, 1) := dc_42 (gB_l lq_cX12_cuts (p := 30) (o := 42) rfl)
theorem dX12_cuts_31 : decode cX12_cuts 31 = .ok (.invokevirtual 93, 3) := dc_182 (gB_l lq_cX12_cuts (p := 31) (o := 182) rfl) (gB_c lq_cX12_cuts q1_cX12_cuts 0 (o := 0) rfl) (gB_c lq_cX12_cuts q1_cX12_cuts 1 (o := 93) rfl) rfl
theorem dX12_cuts_34 : decode cX12_cuts 34 = .ok (.aload_n 0, 1) := dc_42 (gB_c lq_cX12_cuts q1_cX12_cuts 2 (o := 42) rfl)
theorem dX12_cuts_35 : decode cX12_cuts 35 = .ok (.iload_n 1, 1) := dc_27 (gB_c lq_cX12_cuts q1_cX12_cuts 3 (o := 27) rfl)
theorem dX12_cuts_36 : decode cX12_cuts 36 = .ok (.iload_n 2, 1) := dc_28 (gB_c lq_cX12_cuts q1_cX12_cuts 4 (o := 28) rfl)
theorem dX12_cuts_37 : decode cX12_cuts 37 = .ok (.iload_n 3, 1) := dc_29 (gB_c lq_cX12_cuts q1_cX12_cuts 5 (o := 29) rfl)
theorem dX12_cuts_38 : decode cX12_cuts 38 = .ok (.iconst 0, 1) := dc_3 (gB_c lq_cX12_cuts q1_cX12_cuts 6 (o := 3) rfl)
theorem dX12_cuts_39 : decode cX12_cuts 39 = .ok (.invokevirtual 162, 3) := dc_182 (gB_c lq_cX12_cuts q1_cX12_cuts 7 (o := 182) rfl) (gB_c lq_cX12_cuts q1_cX12_cuts 8 (o := 0) rfl) (gB_c lq_cX12_cuts q1_cX12_cuts 9 (o := 162) rfl) rfl
theorem dX12_cuts_42 : decode cX12_cuts 42 = .ok (.aload_n 0, 1) := dc_42 (gB_c lq_cX12_cuts q1_cX12_cuts 10 (o := 42) rfl)
theorem dX12_cuts_43 : decode cX12_cuts 43 = .ok (.iload 4, 2) := dc_21 (gB_c lq_cX12_cuts q1_cX12_cuts 11 (o := 21) rfl) (gB_c lq_cX12_cuts q1_cX12_cuts 12 (o := 4) rfl)
theorem dX12_cuts_45 : decode cX12_cuts 45 = .ok (.invokevirtual 90, 3) := dc_182 (gB_c lq_cX12_cuts q1_cX12_cuts 13 (o := 182) rfl) (gB_c lq_cX12_cuts q1_cX12_cuts 14 (o := 0) rfl) (gB_c lq_cX12_cuts q1_cX12_cuts 15 (o := 90) rfl) rfl
theorem dX12_cuts_48 : decode cX12_cuts 48 = .ok (.ireturn, 1) := dc_172 (gB_c lq_cX12_cuts q1_cX12_cuts 16 (o := 172) rfl)
abbrev r1_cX12_degree : List Nat := [230, 28, 172]
def a0_cX12_degree : List Nat := [3, 61, 3, 62, 29, 42, 27, 182, 0, 63, 162, 0, 23, 28, 42, 27, 29, 182, 0, 80, 184, 0, 84, 184, 0, 199, 61, 132, 3, 1, 167, 255]
abbrev r0_cX12_degree : List Nat := a0_cX12_degree ++ r1_cX12_degree
theorem lq_cX12_degree : (cX12_degree).data.toList.map UInt8.toNat = r0_cX12_degree := by decide +kernel
theorem q1_cX12_degree : ∀ i, (r0_cX12_degree)[32 + i]? = (r1_cX12_degree)[i]? := chn (A := a0_cX12_degree) (B := r1_cX12_degree) (n := 0) (k := 32) rfl (ch0 (R := r0_cX12_degree))
theorem dX12_degree_0 : decode cX12_degree 0 = .ok (.iconst 0, 1) := dc_3 (gB_l lq_cX12_degree (p := 0) (o := 3) rfl)
theorem dX12_degree_1 : decode cX12_degree 1 = .ok (.istore_n 2, 1) := dc_61 (gB_l lq_cX12_degree (p := 1) (o := 61) rfl)
theorem dX12_degree_2 : decode cX12_degree 2 = .ok (.iconst 0, 1) := dc_3 (gB_l lq_cX12_degree (p := 2) (o := 3) rfl)
theorem dX12_degree_3 : decode cX12_degree 3 = .ok (.istore_n 3, 1) := dc_62 (gB_l lq_cX12_degree (p := 3) (o := 62) rfl)
theorem dX12_degree_4 : decode cX12_degree 4 = .ok (.iload_n 3, 1) := dc_29 (gB_l lq_cX12_degree (p := 4) (o := 29) rfl)
theorem dX12_degree_5 : decode cX12_degree 5 = .ok (.aload_n 0, 1) := dc_42 (gB_l lq_cX12_degree (p := 5) (o := 42) rfl)
theorem dX12_degree_6 : decode cX12_degree 6 = .ok (.iload_n 1, 1) := dc_27 (gB_l lq_cX12_degree (p := 6) (o := 27) rfl)
theorem dX12_degree_7 : decode cX12_degree 7 = .ok (.invokevirtual 63, 3) := dc_182 (gB_l lq_cX12_degree (p := 7) (o := 182) rfl) (gB_l lq_cX12_degree (p := 8) (o := 0) rfl) (gB_l lq_cX12_degree (p := 9) (o := 63) rfl) rfl
theorem dX12_degree_10 : decode cX12_degree 10 = .ok (.if_icmp .ge 23, 3) := dc_162 (gB_l lq_cX12_degree (p := 10) (o := 162) rfl) (gB_l lq_cX12_degree (p := 11) (o := 0) rfl) (gB_l lq_cX12_degree (p := 12) (o := 23) rfl) rfl
theorem dX12_degree_13 : decode cX12_degree 13 = .ok (.iload_n 2, 1) := dc_28 (gB_l lq_cX12_degree (p := 13) (o := 28) rfl)
theorem dX12_degree_14 : decode cX12_degree 14 = .ok (.aload_n 0, 1) := dc_42 (gB_l lq_cX12_degree (p := 14) (o := 42) rfl)
theorem dX12_degree_15 : decode cX12_degree 15 = .ok (.iload_n 1, 1) := dc_27 (gB_l lq_cX12_degree (p := 15) (o := 27) rfl)
theorem dX12_degree_16 : decode cX12_degree 16 = .ok (.iload_n 3, 1) := dc_29 (gB_l lq_cX12_degree (p := 16) (o := 29) rfl)
theorem dX12_degree_17 : decode cX12_degree 17 = .ok (.invokevirtual 80, 3) := dc_182 (gB_l lq_cX12_degree (p := 17) (o := 182) rfl) (gB_l lq_cX12_degree (p := 18) (o := 0) rfl) (gB_l lq_cX12_degree (p := 19) (o := 80) rfl) rfl
theorem dX12_degree_20 : decode cX12_degree 20 = .ok (.invokestatic 84, 3) := dc_184 (gB_l lq_cX12_degree (p := 20) (o := 184) rfl) (gB_l lq_cX12_degree (p := 21) (o := 0) rfl) (gB_l lq_cX12_degree (p := 22) (o := 84) rfl) rfl
theorem dX12_degree_23 : decode cX12_degree 23 = .ok (.invokestatic 199, 3) := dc_184 (gB_l lq_cX12_degree (p := 23) (o := 184) rfl) (gB_l lq_cX12_degree (p := 24) (o := 0) rfl) (gB_l lq_cX12_degree (p := 25) (o := 199) rfl) rfl
theorem dX12_degree_26 : decode cX12_degree 26 = .ok (.istore_n 2, 1) := dc_61 (gB_l lq_cX12_degree (p := 26) (o := 61) rfl)
theorem dX12_degree_27 : decode cX12_degree 27 = .ok (.iinc 3 1, 3) := dc_132 (gB_l lq_cX12_degree (p := 27) (o := 132) rfl) (gB_l lq_cX12_degree (p := 28) (o := 3) rfl) (gB_l lq_cX12_degree (p := 29) (o := 1) rfl) rfl
theorem dX12_degree_30 : decode cX12_degree 30 = .ok (.goto (-26), 3) := dc_167 (gB_l lq_cX12_degree (p := 30) (o := 167) rfl) (gB_l lq_cX12_degree (p := 31) (o := 255) rfl) (gB_c lq_cX12_degree q1_cX12_degree 0 (o := 230) rfl) rfl
theorem dX12_degree_33 : decode cX12_degree 33 = .ok (.iload_n 2, 1) := dc_28 (gB_c lq_cX12_degree q1_cX12_degree 1 (o := 28) rfl)
theorem dX12_degree_34 : decode cX12_degree 34 = .ok (.ireturn, 1) := dc_172 (gB_c lq_cX12_degree q1_cX12_degree 2 (o := 172) rfl)
abbrev r2_cX12_diameter : List Nat := [172]
def a1_cX12_diameter : List Nat := [0, 196, 54, 5, 21, 5, 2, 160, 0, 5, 2, 172, 28, 21, 5, 184, 0, 199, 61, 132, 4, 1, 167, 255, 218, 132, 3, 1, 167, 255, 200, 28]
abbrev r1_cX12_diameter : List Nat := a1_cX12_diameter ++ r2_cX12_diameter
def a0_cX12_diameter : List Nat := [3, 61, 3, 62, 29, 42, 27, 182, 0, 63, 162, 0, 53, 3, 54, 4, 21, 4, 42, 27, 182, 0, 63, 162, 0, 34, 42, 27, 29, 21, 4, 182]
abbrev r0_cX12_diameter : List Nat := a0_cX12_diameter ++ r1_cX12_diameter
theorem lq_cX12_diameter : (cX12_diameter).data.toList.map UInt8.toNat = r0_cX12_diameter := by decide +kernel
theorem q1_cX12_diameter : ∀ i, (r0_cX12_diameter)[32 + i]? = (r1_cX12_diameter)[i]? := chn (A := a0_cX12_diameter) (B := r1_cX12_diameter) (n := 0) (k := 32) rfl (ch0 (R := r0_cX12_diameter))
theorem q2_cX12_diameter : ∀ i, (r0_cX12_diameter)[64 + i]? = (r2_cX12_diameter)[i]? := chn (A := a1_cX12_diameter) (B := r2_cX12_diameter) (n := 32) (k := 32) rfl q1_cX12_diameter
theorem dX12_diameter_0 : decode cX12_diameter 0 = .ok (.iconst 0, 1) := dc_3 (gB_l lq_cX12_diameter (p := 0) (o := 3) rfl)
theorem dX12_diameter_1 : decode cX12_diameter 1 = .ok (.istore_n 2, 1) := dc_61 (gB_l lq_cX12_diameter (p := 1) (o := 61) rfl)
theorem dX12_diameter_2 : decode cX12_diameter 2 = .ok (.iconst 0, 1) := dc_3 (gB_l lq_cX12_diameter (p := 2) (o := 3) rfl)
theorem dX12_diameter_3 : decode cX12_diameter 3 = .ok (.istore_n 3, 1) := dc_62 (gB_l lq_cX12_diameter (p := 3) (o := 62) rfl)
theorem dX12_diameter_4 : decode cX12_diameter 4 = .ok (.iload_n 3, 1) := dc_29 (gB_l lq_cX12_diameter (p := 4) (o := 29) rfl)
theorem dX12_diameter_5 : decode cX12_diameter 5 = .ok (.aload_n 0, 1) := dc_42 (gB_l lq_cX12_diameter (p := 5) (o := 42) rfl)
theorem dX12_diameter_6 : decode cX12_diameter 6 = .ok (.iload_n 1, 1) := dc_27 (gB_l lq_cX12_diameter (p := 6) (o := 27) rfl)
theorem dX12_diameter_7 : decode cX12_diameter 7 = .ok (.invokevirtual 63, 3) := dc_182 (gB_l lq_cX12_diameter (p := 7) (o := 182) rfl) (gB_l lq_cX12_diameter (p := 8) (o := 0) rfl) (gB_l lq_cX12_diameter (p := 9) (o := 63) rfl) rfl
theorem dX12_diameter_10 : decode cX12_diameter 10 = .ok (.if_icmp .ge 53, 3) := dc_162 (gB_l lq_cX12_diameter (p := 10) (o := 162) rfl) (gB_l lq_cX12_diameter (p := 11) (o := 0) rfl) (gB_l lq_cX12_diameter (p := 12) (o := 53) rfl) rfl
theorem dX12_diameter_13 : decode cX12_diameter 13 = .ok (.iconst 0, 1) := dc_3 (gB_l lq_cX12_diameter (p := 13) (o := 3) rfl)
theorem dX12_diameter_14 : decode cX12_diameter 14 = .ok (.istore 4, 2) := dc_54 (gB_l lq_cX12_diameter (p := 14) (o := 54) rfl) (gB_l lq_cX12_diameter (p := 15) (o := 4) rfl)
theorem dX12_diameter_16 : decode cX12_diameter 16 = .ok (.iload 4, 2) := dc_21 (gB_l lq_cX12_diameter (p := 16) (o := 21) rfl) (gB_l lq_cX12_diameter (p := 17) (o := 4) rfl)
theorem dX12_diameter_18 : decode cX12_diameter 18 = .ok (.aload_n 0, 1) := dc_42 (gB_l lq_cX12_diameter (p := 18) (o := 42) rfl)
theorem dX12_diameter_19 : decode cX12_diameter 19 = .ok (.iload_n 1, 1) := dc_27 (gB_l lq_cX12_diameter (p := 19) (o := 27) rfl)
theorem dX12_diameter_20 : decode cX12_diameter 20 = .ok (.invokevirtual 63, 3) := dc_182 (gB_l lq_cX12_diameter (p := 20) (o := 182) rfl) (gB_l lq_cX12_diameter (p := 21) (o := 0) rfl) (gB_l lq_cX12_diameter (p := 22) (o := 63) rfl) rfl
theorem dX12_diameter_23 : decode cX12_diameter 23 = .ok (.if_icmp .ge 34, 3) := dc_162 (gB_l lq_cX12_diameter (p := 23) (o := 162) rfl) (gB_l lq_cX12_diameter (p := 24) (o := 0) rfl) (gB_l lq_cX12_diameter (p := 25) (o := 34) rfl) rfl
theorem dX12_diameter_26 : decode cX12_diameter 26 = .ok (.aload_n 0, 1) := dc_42 (gB_l lq_cX12_diameter (p := 26) (o := 42) rfl)
theorem dX12_diameter_27 : decode cX12_diameter 27 = .ok (.iload_n 1, 1) := dc_27 (gB_l lq_cX12_diameter (p := 27) (o := 27) rfl)
theorem dX12_diameter_28 : decode cX12_diameter 28 = .ok (.iload_n 3, 1) := dc_29 (gB_l lq_cX12_diameter (p := 28) (o := 29) rfl)
theorem dX12_diameter_29 : decode cX12_diameter 29 = .ok (.iload 4, 2) := dc_21 (gB_l lq_cX12_diameter (p := 29) (o := 21) rfl) (gB_l lq_cX12_diameter (p := 30) (o := 4) rfl)
theorem dX12_diameter_31 : decode cX12_diameter 31 = .ok (.invokevirtual 196, 3) := dc_182 (gB_l lq_cX12_diameter (p := 31) (o := 182) rfl) (gB_c lq_cX12_diameter q1_cX12_diameter 0 (o := 0) rfl) (gB_c lq_cX12_diameter q1_cX12_diameter 1 (o := 196) rfl) rfl
theorem dX12_diameter_34 : decode cX12_diameter 34 = .ok (.istore 5, 2) := dc_54 (gB_c lq_cX12_diameter q1_cX12_diameter 2 (o := 54) rfl) (gB_c lq_cX12_diameter q1_cX12_diameter 3 (o := 5) rfl)
theorem dX12_diameter_36 : decode cX12_diameter 36 = .ok (.iload 5, 2) := dc_21 (gB_c lq_cX12_diameter q1_cX12_diameter 4 (o := 21) rfl) (gB_c lq_cX12_diameter q1_cX12_diameter 5 (o := 5) rfl)
theorem dX12_diameter_38 : decode cX12_diameter 38 = .ok (.iconst (-1), 1) := dc_2 (gB_c lq_cX12_diameter q1_cX12_diameter 6 (o := 2) rfl)
theorem dX12_diameter_39 : decode cX12_diameter 39 = .ok (.if_icmp .ne 5, 3) := dc_160 (gB_c lq_cX12_diameter q1_cX12_diameter 7 (o := 160) rfl) (gB_c lq_cX12_diameter q1_cX12_diameter 8 (o := 0) rfl) (gB_c lq_cX12_diameter q1_cX12_diameter 9 (o := 5) rfl) rfl
theorem dX12_diameter_42 : decode cX12_diameter 42 = .ok (.iconst (-1), 1) := dc_2 (gB_c lq_cX12_diameter q1_cX12_diameter 10 (o := 2) rfl)
theorem dX12_diameter_43 : decode cX12_diameter 43 = .ok (.ireturn, 1) := dc_172 (gB_c lq_cX12_diameter q1_cX12_diameter 11 (o := 172) rfl)
theorem dX12_diameter_44 : decode cX12_diameter 44 = .ok (.iload_n 2, 1) := dc_28 (gB_c lq_cX12_diameter q1_cX12_diameter 12 (o := 28) rfl)
theorem dX12_diameter_45 : decode cX12_diameter 45 = .ok (.iload 5, 2) := dc_21 (gB_c lq_cX12_diameter q1_cX12_diameter 13 (o := 21) rfl) (gB_c lq_cX12_diameter q1_cX12_diameter 14 (o := 5) rfl)
theorem dX12_diameter_47 : decode cX12_diameter 47 = .ok (.invokestatic 199, 3) := dc_184 (gB_c lq_cX12_diameter q1_cX12_diameter 15 (o := 184) rfl) (gB_c lq_cX12_diameter q1_cX12_diameter 16 (o := 0) rfl) (gB_c lq_cX12_diameter q1_cX12_diameter 17 (o := 199) rfl) rfl
theorem dX12_diameter_50 : decode cX12_diameter 50 = .ok (.istore_n 2, 1) := dc_61 (gB_c lq_cX12_diameter q1_cX12_diameter 18 (o := 61) rfl)
theorem dX12_diameter_51 : decode cX12_diameter 51 = .ok (.iinc 4 1, 3) := dc_132 (gB_c lq_cX12_diameter q1_cX12_diameter 19 (o := 132) rfl) (gB_c lq_cX12_diameter q1_cX12_diameter 20 (o := 4) rfl) (gB_c lq_cX12_diameter q1_cX12_diameter 21 (o := 1) rfl) rfl
theorem dX12_diameter_54 : decode cX12_diameter 54 = .ok (.goto (-38), 3) := dc_167 (gB_c lq_cX12_diameter q1_cX12_diameter 22 (o := 167) rfl) (gB_c lq_cX12_diameter q1_cX12_diameter 23 (o := 255) rfl) (gB_c lq_cX12_diameter q1_cX12_diameter 24 (o := 218) rfl) rfl
theorem dX12_diameter_57 : decode cX12_diameter 57 = .ok (.iinc 3 1, 3) := dc_132 (gB_c lq_cX12_diameter q1_cX12_diameter 25 (o := 132) rfl) (gB_c lq_cX12_diameter q1_cX12_diameter 26 (o := 3) rfl) (gB_c lq_cX12_diameter q1_cX12_diameter 27 (o := 1) rfl) rfl
theorem dX12_diameter_60 : decode cX12_diameter 60 = .ok (.goto (-56), 3) := dc_167 (gB_c lq_cX12_diameter q1_cX12_diameter 28 (o := 167) rfl) (gB_c lq_cX12_diameter q1_cX12_diameter 29 (o := 255) rfl) (gB_c lq_cX12_diameter q1_cX12_diameter 30 (o := 200) rfl) rfl
theorem dX12_diameter_63 : decode cX12_diameter 63 = .ok (.iload_n 2, 1) := dc_28 (gB_c lq_cX12_diameter q1_cX12_diameter 31 (o := 28) rfl)
theorem dX12_diameter_64 : decode cX12_diameter 64 = .ok (.ireturn, 1) := dc_172 (gB_c lq_cX12_diameter q2_cX12_diameter 0 (o := 172) rfl)
abbrev r1_cX12_done : List Nat := [1, 167, 255, 225, 27, 172]
def a0_cX12_done : List Nat := [3, 61, 28, 17, 1, 17, 162, 0, 30, 42, 180, 0, 13, 28, 46, 42, 180, 0, 7, 28, 46, 159, 0, 9, 42, 27, 182, 0, 90, 172, 132, 2]
abbrev r0_cX12_done : List Nat := a0_cX12_done ++ r1_cX12_done
theorem lq_cX12_done : (cX12_done).data.toList.map UInt8.toNat = r0_cX12_done := by decide +kernel
theorem q1_cX12_done : ∀ i, (r0_cX12_done)[32 + i]? = (r1_cX12_done)[i]? := chn (A := a0_cX12_done) (B := r1_cX12_done) (n := 0) (k := 32) rfl (ch0 (R := r0_cX12_done))
theorem dX12_done_0 : decode cX12_done 0 = .ok (.iconst 0, 1) := dc_3 (gB_l lq_cX12_done (p := 0) (o := 3) rfl)
theorem dX12_done_1 : decode cX12_done 1 = .ok (.istore_n 2, 1) := dc_61 (gB_l lq_cX12_done (p := 1) (o := 61) rfl)
theorem dX12_done_2 : decode cX12_done 2 = .ok (.iload_n 2, 1) := dc_28 (gB_l lq_cX12_done (p := 2) (o := 28) rfl)
theorem dX12_done_3 : decode cX12_done 3 = .ok (.sipush 273, 3) := dc_17 (gB_l lq_cX12_done (p := 3) (o := 17) rfl) (gB_l lq_cX12_done (p := 4) (o := 1) rfl) (gB_l lq_cX12_done (p := 5) (o := 17) rfl) rfl
theorem dX12_done_6 : decode cX12_done 6 = .ok (.if_icmp .ge 30, 3) := dc_162 (gB_l lq_cX12_done (p := 6) (o := 162) rfl) (gB_l lq_cX12_done (p := 7) (o := 0) rfl) (gB_l lq_cX12_done (p := 8) (o := 30) rfl) rfl
theorem dX12_done_9 : decode cX12_done 9 = .ok (.aload_n 0, 1) := dc_42 (gB_l lq_cX12_done (p := 9) (o := 42) rfl)
theorem dX12_done_10 : decode cX12_done 10 = .ok (.getfield 13, 3) := dc_180 (gB_l lq_cX12_done (p := 10) (o := 180) rfl) (gB_l lq_cX12_done (p := 11) (o := 0) rfl) (gB_l lq_cX12_done (p := 12) (o := 13) rfl) rfl
theorem dX12_done_13 : decode cX12_done 13 = .ok (.iload_n 2, 1) := dc_28 (gB_l lq_cX12_done (p := 13) (o := 28) rfl)
theorem dX12_done_14 : decode cX12_done 14 = .ok (.iaload, 1) := dc_46 (gB_l lq_cX12_done (p := 14) (o := 46) rfl)
theorem dX12_done_15 : decode cX12_done 15 = .ok (.aload_n 0, 1) := dc_42 (gB_l lq_cX12_done (p := 15) (o := 42) rfl)
theorem dX12_done_16 : decode cX12_done 16 = .ok (.getfield 7, 3) := dc_180 (gB_l lq_cX12_done (p := 16) (o := 180) rfl) (gB_l lq_cX12_done (p := 17) (o := 0) rfl) (gB_l lq_cX12_done (p := 18) (o := 7) rfl) rfl
theorem dX12_done_19 : decode cX12_done 19 = .ok (.iload_n 2, 1) := dc_28 (gB_l lq_cX12_done (p := 19) (o := 28) rfl)
theorem dX12_done_20 : decode cX12_done 20 = .ok (.iaload, 1) := dc_46 (gB_l lq_cX12_done (p := 20) (o := 46) rfl)
theorem dX12_done_21 : decode cX12_done 21 = .ok (.if_icmp .eq 9, 3) := dc_159 (gB_l lq_cX12_done (p := 21) (o := 159) rfl) (gB_l lq_cX12_done (p := 22) (o := 0) rfl) (gB_l lq_cX12_done (p := 23) (o := 9) rfl) rfl
theorem dX12_done_24 : decode cX12_done 24 = .ok (.aload_n 0, 1) := dc_42 (gB_l lq_cX12_done (p := 24) (o := 42) rfl)
