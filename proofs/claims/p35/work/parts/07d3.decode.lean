/-! decode rows -/
theorem dX12_done_25 : decode cX12_done 25 = .ok (.iload_n 1, 1) := dc_27 (gB_l lq_cX12_done (p := 25) (o := 27) rfl)
theorem dX12_done_26 : decode cX12_done 26 = .ok (.invokevirtual 90, 3) := dc_182 (gB_l lq_cX12_done (p := 26) (o := 182) rfl) (gB_l lq_cX12_done (p := 27) (o := 0) rfl) (gB_l lq_cX12_done (p := 28) (o := 90) rfl) rfl
theorem dX12_done_29 : decode cX12_done 29 = .ok (.ireturn, 1) := dc_172 (gB_l lq_cX12_done (p := 29) (o := 172) rfl)
theorem dX12_done_30 : decode cX12_done 30 = .ok (.iinc 2 1, 3) := dc_132 (gB_l lq_cX12_done (p := 30) (o := 132) rfl) (gB_l lq_cX12_done (p := 31) (o := 2) rfl) (gB_c lq_cX12_done q1_cX12_done 0 (o := 1) rfl) rfl
theorem dX12_done_33 : decode cX12_done 33 = .ok (.goto (-31), 3) := dc_167 (gB_c lq_cX12_done q1_cX12_done 1 (o := 167) rfl) (gB_c lq_cX12_done q1_cX12_done 2 (o := 255) rfl) (gB_c lq_cX12_done q1_cX12_done 3 (o := 225) rfl) rfl
theorem dX12_done_36 : decode cX12_done 36 = .ok (.iload_n 1, 1) := dc_27 (gB_c lq_cX12_done q1_cX12_done 4 (o := 27) rfl)
theorem dX12_done_37 : decode cX12_done 37 = .ok (.ireturn, 1) := dc_172 (gB_c lq_cX12_done q1_cX12_done 5 (o := 172) rfl)
abbrev r1_cX12_drops : List Nat := [0, 90, 172]
def a0_cX12_drops : List Nat := [27, 184, 0, 59, 154, 0, 6, 16, 254, 172, 42, 27, 182, 0, 67, 154, 0, 5, 3, 172, 42, 182, 0, 93, 42, 27, 182, 0, 96, 42, 4, 182]
abbrev r0_cX12_drops : List Nat := a0_cX12_drops ++ r1_cX12_drops
theorem lq_cX12_drops : (cX12_drops).data.toList.map UInt8.toNat = r0_cX12_drops := by decide +kernel
theorem q1_cX12_drops : ∀ i, (r0_cX12_drops)[32 + i]? = (r1_cX12_drops)[i]? := chn (A := a0_cX12_drops) (B := r1_cX12_drops) (n := 0) (k := 32) rfl (ch0 (R := r0_cX12_drops))
theorem dX12_drops_0 : decode cX12_drops 0 = .ok (.iload_n 1, 1) := dc_27 (gB_l lq_cX12_drops (p := 0) (o := 27) rfl)
theorem dX12_drops_1 : decode cX12_drops 1 = .ok (.invokestatic 59, 3) := dc_184 (gB_l lq_cX12_drops (p := 1) (o := 184) rfl) (gB_l lq_cX12_drops (p := 2) (o := 0) rfl) (gB_l lq_cX12_drops (p := 3) (o := 59) rfl) rfl
theorem dX12_drops_4 : decode cX12_drops 4 = .ok (.ifCond .ne 6, 3) := dc_154 (gB_l lq_cX12_drops (p := 4) (o := 154) rfl) (gB_l lq_cX12_drops (p := 5) (o := 0) rfl) (gB_l lq_cX12_drops (p := 6) (o := 6) rfl) rfl
theorem dX12_drops_7 : decode cX12_drops 7 = .ok (.bipush (-2), 2) := dc_16 (gB_l lq_cX12_drops (p := 7) (o := 16) rfl) (gB_l lq_cX12_drops (p := 8) (o := 254) rfl) rfl
theorem dX12_drops_9 : decode cX12_drops 9 = .ok (.ireturn, 1) := dc_172 (gB_l lq_cX12_drops (p := 9) (o := 172) rfl)
theorem dX12_drops_10 : decode cX12_drops 10 = .ok (.aload_n 0, 1) := dc_42 (gB_l lq_cX12_drops (p := 10) (o := 42) rfl)
theorem dX12_drops_11 : decode cX12_drops 11 = .ok (.iload_n 1, 1) := dc_27 (gB_l lq_cX12_drops (p := 11) (o := 27) rfl)
theorem dX12_drops_12 : decode cX12_drops 12 = .ok (.invokevirtual 67, 3) := dc_182 (gB_l lq_cX12_drops (p := 12) (o := 182) rfl) (gB_l lq_cX12_drops (p := 13) (o := 0) rfl) (gB_l lq_cX12_drops (p := 14) (o := 67) rfl) rfl
theorem dX12_drops_15 : decode cX12_drops 15 = .ok (.ifCond .ne 5, 3) := dc_154 (gB_l lq_cX12_drops (p := 15) (o := 154) rfl) (gB_l lq_cX12_drops (p := 16) (o := 0) rfl) (gB_l lq_cX12_drops (p := 17) (o := 5) rfl) rfl
theorem dX12_drops_18 : decode cX12_drops 18 = .ok (.iconst 0, 1) := dc_3 (gB_l lq_cX12_drops (p := 18) (o := 3) rfl)
theorem dX12_drops_19 : decode cX12_drops 19 = .ok (.ireturn, 1) := dc_172 (gB_l lq_cX12_drops (p := 19) (o := 172) rfl)
theorem dX12_drops_20 : decode cX12_drops 20 = .ok (.aload_n 0, 1) := dc_42 (gB_l lq_cX12_drops (p := 20) (o := 42) rfl)
theorem dX12_drops_21 : decode cX12_drops 21 = .ok (.invokevirtual 93, 3) := dc_182 (gB_l lq_cX12_drops (p := 21) (o := 182) rfl) (gB_l lq_cX12_drops (p := 22) (o := 0) rfl) (gB_l lq_cX12_drops (p := 23) (o := 93) rfl) rfl
theorem dX12_drops_24 : decode cX12_drops 24 = .ok (.aload_n 0, 1) := dc_42 (gB_l lq_cX12_drops (p := 24) (o := 42) rfl)
theorem dX12_drops_25 : decode cX12_drops 25 = .ok (.iload_n 1, 1) := dc_27 (gB_l lq_cX12_drops (p := 25) (o := 27) rfl)
theorem dX12_drops_26 : decode cX12_drops 26 = .ok (.invokevirtual 96, 3) := dc_182 (gB_l lq_cX12_drops (p := 26) (o := 182) rfl) (gB_l lq_cX12_drops (p := 27) (o := 0) rfl) (gB_l lq_cX12_drops (p := 28) (o := 96) rfl) rfl
theorem dX12_drops_29 : decode cX12_drops 29 = .ok (.aload_n 0, 1) := dc_42 (gB_l lq_cX12_drops (p := 29) (o := 42) rfl)
theorem dX12_drops_30 : decode cX12_drops 30 = .ok (.iconst 1, 1) := dc_4 (gB_l lq_cX12_drops (p := 30) (o := 4) rfl)
theorem dX12_drops_31 : decode cX12_drops 31 = .ok (.invokevirtual 90, 3) := dc_182 (gB_l lq_cX12_drops (p := 31) (o := 182) rfl) (gB_c lq_cX12_drops q1_cX12_drops 0 (o := 0) rfl) (gB_c lq_cX12_drops q1_cX12_drops 1 (o := 90) rfl) rfl
theorem dX12_drops_34 : decode cX12_drops 34 = .ok (.ireturn, 1) := dc_172 (gB_c lq_cX12_drops q1_cX12_drops 2 (o := 172) rfl)
abbrev r0_cX12_empties : List Nat := [3, 61, 28, 16, 91, 162, 0, 21, 42, 180, 0, 7, 16, 91, 27, 104, 28, 96, 3, 79, 132, 2, 1, 167, 255, 235, 177]
theorem lq_cX12_empties : (cX12_empties).data.toList.map UInt8.toNat = r0_cX12_empties := by decide +kernel
theorem dX12_empties_0 : decode cX12_empties 0 = .ok (.iconst 0, 1) := dc_3 (gB_l lq_cX12_empties (p := 0) (o := 3) rfl)
theorem dX12_empties_1 : decode cX12_empties 1 = .ok (.istore_n 2, 1) := dc_61 (gB_l lq_cX12_empties (p := 1) (o := 61) rfl)
theorem dX12_empties_2 : decode cX12_empties 2 = .ok (.iload_n 2, 1) := dc_28 (gB_l lq_cX12_empties (p := 2) (o := 28) rfl)
theorem dX12_empties_3 : decode cX12_empties 3 = .ok (.bipush 91, 2) := dc_16 (gB_l lq_cX12_empties (p := 3) (o := 16) rfl) (gB_l lq_cX12_empties (p := 4) (o := 91) rfl) rfl
theorem dX12_empties_5 : decode cX12_empties 5 = .ok (.if_icmp .ge 21, 3) := dc_162 (gB_l lq_cX12_empties (p := 5) (o := 162) rfl) (gB_l lq_cX12_empties (p := 6) (o := 0) rfl) (gB_l lq_cX12_empties (p := 7) (o := 21) rfl) rfl
theorem dX12_empties_8 : decode cX12_empties 8 = .ok (.aload_n 0, 1) := dc_42 (gB_l lq_cX12_empties (p := 8) (o := 42) rfl)
theorem dX12_empties_9 : decode cX12_empties 9 = .ok (.getfield 7, 3) := dc_180 (gB_l lq_cX12_empties (p := 9) (o := 180) rfl) (gB_l lq_cX12_empties (p := 10) (o := 0) rfl) (gB_l lq_cX12_empties (p := 11) (o := 7) rfl) rfl
theorem dX12_empties_12 : decode cX12_empties 12 = .ok (.bipush 91, 2) := dc_16 (gB_l lq_cX12_empties (p := 12) (o := 16) rfl) (gB_l lq_cX12_empties (p := 13) (o := 91) rfl) rfl
theorem dX12_empties_14 : decode cX12_empties 14 = .ok (.iload_n 1, 1) := dc_27 (gB_l lq_cX12_empties (p := 14) (o := 27) rfl)
theorem dX12_empties_15 : decode cX12_empties 15 = .ok (.imul, 1) := dc_104 (gB_l lq_cX12_empties (p := 15) (o := 104) rfl)
theorem dX12_empties_16 : decode cX12_empties 16 = .ok (.iload_n 2, 1) := dc_28 (gB_l lq_cX12_empties (p := 16) (o := 28) rfl)
theorem dX12_empties_17 : decode cX12_empties 17 = .ok (.iadd, 1) := dc_96 (gB_l lq_cX12_empties (p := 17) (o := 96) rfl)
theorem dX12_empties_18 : decode cX12_empties 18 = .ok (.iconst 0, 1) := dc_3 (gB_l lq_cX12_empties (p := 18) (o := 3) rfl)
theorem dX12_empties_19 : decode cX12_empties 19 = .ok (.iastore, 1) := dc_79 (gB_l lq_cX12_empties (p := 19) (o := 79) rfl)
theorem dX12_empties_20 : decode cX12_empties 20 = .ok (.iinc 2 1, 3) := dc_132 (gB_l lq_cX12_empties (p := 20) (o := 132) rfl) (gB_l lq_cX12_empties (p := 21) (o := 2) rfl) (gB_l lq_cX12_empties (p := 22) (o := 1) rfl) rfl
theorem dX12_empties_23 : decode cX12_empties 23 = .ok (.goto (-21), 3) := dc_167 (gB_l lq_cX12_empties (p := 23) (o := 167) rfl) (gB_l lq_cX12_empties (p := 24) (o := 255) rfl) (gB_l lq_cX12_empties (p := 25) (o := 235) rfl) rfl
theorem dX12_empties_26 : decode cX12_empties 26 = .ok (.return_, 1) := dc_177 (gB_l lq_cX12_empties (p := 26) (o := 177) rfl)
abbrev r0_cX12_end : List Nat := [27, 133, 9, 42, 180, 0, 100, 133, 184, 0, 55, 154, 0, 5, 2, 172, 42, 27, 181, 0, 100, 27, 172]
theorem lq_cX12_end : (cX12_end).data.toList.map UInt8.toNat = r0_cX12_end := by decide +kernel
theorem dX12_end_0 : decode cX12_end 0 = .ok (.iload_n 1, 1) := dc_27 (gB_l lq_cX12_end (p := 0) (o := 27) rfl)
theorem dX12_end_1 : decode cX12_end 1 = .ok (.i2l, 1) := dc_133 (gB_l lq_cX12_end (p := 1) (o := 133) rfl)
theorem dX12_end_2 : decode cX12_end 2 = .ok (.lconst 0, 1) := dc_9 (gB_l lq_cX12_end (p := 2) (o := 9) rfl)
theorem dX12_end_3 : decode cX12_end 3 = .ok (.aload_n 0, 1) := dc_42 (gB_l lq_cX12_end (p := 3) (o := 42) rfl)
theorem dX12_end_4 : decode cX12_end 4 = .ok (.getfield 100, 3) := dc_180 (gB_l lq_cX12_end (p := 4) (o := 180) rfl) (gB_l lq_cX12_end (p := 5) (o := 0) rfl) (gB_l lq_cX12_end (p := 6) (o := 100) rfl) rfl
theorem dX12_end_7 : decode cX12_end 7 = .ok (.i2l, 1) := dc_133 (gB_l lq_cX12_end (p := 7) (o := 133) rfl)
theorem dX12_end_8 : decode cX12_end 8 = .ok (.invokestatic 55, 3) := dc_184 (gB_l lq_cX12_end (p := 8) (o := 184) rfl) (gB_l lq_cX12_end (p := 9) (o := 0) rfl) (gB_l lq_cX12_end (p := 10) (o := 55) rfl) rfl
theorem dX12_end_11 : decode cX12_end 11 = .ok (.ifCond .ne 5, 3) := dc_154 (gB_l lq_cX12_end (p := 11) (o := 154) rfl) (gB_l lq_cX12_end (p := 12) (o := 0) rfl) (gB_l lq_cX12_end (p := 13) (o := 5) rfl) rfl
theorem dX12_end_14 : decode cX12_end 14 = .ok (.iconst (-1), 1) := dc_2 (gB_l lq_cX12_end (p := 14) (o := 2) rfl)
theorem dX12_end_15 : decode cX12_end 15 = .ok (.ireturn, 1) := dc_172 (gB_l lq_cX12_end (p := 15) (o := 172) rfl)
theorem dX12_end_16 : decode cX12_end 16 = .ok (.aload_n 0, 1) := dc_42 (gB_l lq_cX12_end (p := 16) (o := 42) rfl)
theorem dX12_end_17 : decode cX12_end 17 = .ok (.iload_n 1, 1) := dc_27 (gB_l lq_cX12_end (p := 17) (o := 27) rfl)
theorem dX12_end_18 : decode cX12_end 18 = .ok (.putfield 100, 3) := dc_181 (gB_l lq_cX12_end (p := 18) (o := 181) rfl) (gB_l lq_cX12_end (p := 19) (o := 0) rfl) (gB_l lq_cX12_end (p := 20) (o := 100) rfl) rfl
theorem dX12_end_21 : decode cX12_end 21 = .ok (.iload_n 1, 1) := dc_27 (gB_l lq_cX12_end (p := 21) (o := 27) rfl)
theorem dX12_end_22 : decode cX12_end 22 = .ok (.ireturn, 1) := dc_172 (gB_l lq_cX12_end (p := 22) (o := 172) rfl)
abbrev r0_cX12_exchanges : List Nat := [42, 180, 0, 26, 27, 46, 62, 42, 180, 0, 26, 27, 42, 180, 0, 26, 28, 46, 79, 42, 180, 0, 26, 28, 29, 79, 177]
theorem lq_cX12_exchanges : (cX12_exchanges).data.toList.map UInt8.toNat = r0_cX12_exchanges := by decide +kernel
theorem dX12_exchanges_0 : decode cX12_exchanges 0 = .ok (.aload_n 0, 1) := dc_42 (gB_l lq_cX12_exchanges (p := 0) (o := 42) rfl)
theorem dX12_exchanges_1 : decode cX12_exchanges 1 = .ok (.getfield 26, 3) := dc_180 (gB_l lq_cX12_exchanges (p := 1) (o := 180) rfl) (gB_l lq_cX12_exchanges (p := 2) (o := 0) rfl) (gB_l lq_cX12_exchanges (p := 3) (o := 26) rfl) rfl
theorem dX12_exchanges_4 : decode cX12_exchanges 4 = .ok (.iload_n 1, 1) := dc_27 (gB_l lq_cX12_exchanges (p := 4) (o := 27) rfl)
theorem dX12_exchanges_5 : decode cX12_exchanges 5 = .ok (.iaload, 1) := dc_46 (gB_l lq_cX12_exchanges (p := 5) (o := 46) rfl)
theorem dX12_exchanges_6 : decode cX12_exchanges 6 = .ok (.istore_n 3, 1) := dc_62 (gB_l lq_cX12_exchanges (p := 6) (o := 62) rfl)
theorem dX12_exchanges_7 : decode cX12_exchanges 7 = .ok (.aload_n 0, 1) := dc_42 (gB_l lq_cX12_exchanges (p := 7) (o := 42) rfl)
theorem dX12_exchanges_8 : decode cX12_exchanges 8 = .ok (.getfield 26, 3) := dc_180 (gB_l lq_cX12_exchanges (p := 8) (o := 180) rfl) (gB_l lq_cX12_exchanges (p := 9) (o := 0) rfl) (gB_l lq_cX12_exchanges (p := 10) (o := 26) rfl) rfl
theorem dX12_exchanges_11 : decode cX12_exchanges 11 = .ok (.iload_n 1, 1) := dc_27 (gB_l lq_cX12_exchanges (p := 11) (o := 27) rfl)
theorem dX12_exchanges_12 : decode cX12_exchanges 12 = .ok (.aload_n 0, 1) := dc_42 (gB_l lq_cX12_exchanges (p := 12) (o := 42) rfl)
theorem dX12_exchanges_13 : decode cX12_exchanges 13 = .ok (.getfield 26, 3) := dc_180 (gB_l lq_cX12_exchanges (p := 13) (o := 180) rfl) (gB_l lq_cX12_exchanges (p := 14) (o := 0) rfl) (gB_l lq_cX12_exchanges (p := 15) (o := 26) rfl) rfl
theorem dX12_exchanges_16 : decode cX12_exchanges 16 = .ok (.iload_n 2, 1) := dc_28 (gB_l lq_cX12_exchanges (p := 16) (o := 28) rfl)
theorem dX12_exchanges_17 : decode cX12_exchanges 17 = .ok (.iaload, 1) := dc_46 (gB_l lq_cX12_exchanges (p := 17) (o := 46) rfl)
theorem dX12_exchanges_18 : decode cX12_exchanges 18 = .ok (.iastore, 1) := dc_79 (gB_l lq_cX12_exchanges (p := 18) (o := 79) rfl)
theorem dX12_exchanges_19 : decode cX12_exchanges 19 = .ok (.aload_n 0, 1) := dc_42 (gB_l lq_cX12_exchanges (p := 19) (o := 42) rfl)
theorem dX12_exchanges_20 : decode cX12_exchanges 20 = .ok (.getfield 26, 3) := dc_180 (gB_l lq_cX12_exchanges (p := 20) (o := 180) rfl) (gB_l lq_cX12_exchanges (p := 21) (o := 0) rfl) (gB_l lq_cX12_exchanges (p := 22) (o := 26) rfl) rfl
theorem dX12_exchanges_23 : decode cX12_exchanges 23 = .ok (.iload_n 2, 1) := dc_28 (gB_l lq_cX12_exchanges (p := 23) (o := 28) rfl)
theorem dX12_exchanges_24 : decode cX12_exchanges 24 = .ok (.iload_n 3, 1) := dc_29 (gB_l lq_cX12_exchanges (p := 24) (o := 29) rfl)
theorem dX12_exchanges_25 : decode cX12_exchanges 25 = .ok (.iastore, 1) := dc_79 (gB_l lq_cX12_exchanges (p := 25) (o := 79) rfl)
theorem dX12_exchanges_26 : decode cX12_exchanges 26 = .ok (.return_, 1) := dc_177 (gB_l lq_cX12_exchanges (p := 26) (o := 177) rfl)
abbrev r0_cX12_far : List Nat := [42, 27, 28, 182, 0, 70, 153, 0, 22, 42, 27, 29, 182, 0, 70, 153, 0, 13, 42, 27, 28, 29, 182, 0, 196, 167, 0, 5, 16, 254, 172]
theorem lq_cX12_far : (cX12_far).data.toList.map UInt8.toNat = r0_cX12_far := by decide +kernel
theorem dX12_far_0 : decode cX12_far 0 = .ok (.aload_n 0, 1) := dc_42 (gB_l lq_cX12_far (p := 0) (o := 42) rfl)
theorem dX12_far_1 : decode cX12_far 1 = .ok (.iload_n 1, 1) := dc_27 (gB_l lq_cX12_far (p := 1) (o := 27) rfl)
theorem dX12_far_2 : decode cX12_far 2 = .ok (.iload_n 2, 1) := dc_28 (gB_l lq_cX12_far (p := 2) (o := 28) rfl)
theorem dX12_far_3 : decode cX12_far 3 = .ok (.invokevirtual 70, 3) := dc_182 (gB_l lq_cX12_far (p := 3) (o := 182) rfl) (gB_l lq_cX12_far (p := 4) (o := 0) rfl) (gB_l lq_cX12_far (p := 5) (o := 70) rfl) rfl
theorem dX12_far_6 : decode cX12_far 6 = .ok (.ifCond .eq 22, 3) := dc_153 (gB_l lq_cX12_far (p := 6) (o := 153) rfl) (gB_l lq_cX12_far (p := 7) (o := 0) rfl) (gB_l lq_cX12_far (p := 8) (o := 22) rfl) rfl
theorem dX12_far_9 : decode cX12_far 9 = .ok (.aload_n 0, 1) := dc_42 (gB_l lq_cX12_far (p := 9) (o := 42) rfl)
theorem dX12_far_10 : decode cX12_far 10 = .ok (.iload_n 1, 1) := dc_27 (gB_l lq_cX12_far (p := 10) (o := 27) rfl)
theorem dX12_far_11 : decode cX12_far 11 = .ok (.iload_n 3, 1) := dc_29 (gB_l lq_cX12_far (p := 11) (o := 29) rfl)
theorem dX12_far_12 : decode cX12_far 12 = .ok (.invokevirtual 70, 3) := dc_182 (gB_l lq_cX12_far (p := 12) (o := 182) rfl) (gB_l lq_cX12_far (p := 13) (o := 0) rfl) (gB_l lq_cX12_far (p := 14) (o := 70) rfl) rfl
theorem dX12_far_15 : decode cX12_far 15 = .ok (.ifCond .eq 13, 3) := dc_153 (gB_l lq_cX12_far (p := 15) (o := 153) rfl) (gB_l lq_cX12_far (p := 16) (o := 0) rfl) (gB_l lq_cX12_far (p := 17) (o := 13) rfl) rfl
theorem dX12_far_18 : decode cX12_far 18 = .ok (.aload_n 0, 1) := dc_42 (gB_l lq_cX12_far (p := 18) (o := 42) rfl)
theorem dX12_far_19 : decode cX12_far 19 = .ok (.iload_n 1, 1) := dc_27 (gB_l lq_cX12_far (p := 19) (o := 27) rfl)
theorem dX12_far_20 : decode cX12_far 20 = .ok (.iload_n 2, 1) := dc_28 (gB_l lq_cX12_far (p := 20) (o := 28) rfl)
theorem dX12_far_21 : decode cX12_far 21 = .ok (.iload_n 3, 1) := dc_29 (gB_l lq_cX12_far (p := 21) (o := 29) rfl)
theorem dX12_far_22 : decode cX12_far 22 = .ok (.invokevirtual 196, 3) := dc_182 (gB_l lq_cX12_far (p := 22) (o := 182) rfl) (gB_l lq_cX12_far (p := 23) (o := 0) rfl) (gB_l lq_cX12_far (p := 24) (o := 196) rfl) rfl
theorem dX12_far_25 : decode cX12_far 25 = .ok (.goto 5, 3) := dc_167 (gB_l lq_cX12_far (p := 25) (o := 167) rfl) (gB_l lq_cX12_far (p := 26) (o := 0) rfl) (gB_l lq_cX12_far (p := 27) (o := 5) rfl) rfl
theorem dX12_far_28 : decode cX12_far 28 = .ok (.bipush (-2), 2) := dc_16 (gB_l lq_cX12_far (p := 28) (o := 16) rfl) (gB_l lq_cX12_far (p := 29) (o := 254) rfl) rfl
theorem dX12_far_30 : decode cX12_far 30 = .ok (.ireturn, 1) := dc_172 (gB_l lq_cX12_far (p := 30) (o := 172) rfl)
abbrev r2_cX12_farOf : List Nat := [255, 217, 21, 6, 21, 4, 160, 0, 5, 2, 172, 21, 6, 54, 4, 132, 5, 1, 167, 255, 182, 21, 5, 172]
def a1_cX12_farOf : List Nat := [0, 35, 21, 6, 21, 4, 21, 7, 184, 0, 166, 153, 0, 13, 42, 27, 21, 7, 182, 0, 80, 167, 0, 4, 3, 128, 54, 6, 132, 7, 1, 167]
abbrev r1_cX12_farOf : List Nat := a1_cX12_farOf ++ r2_cX12_farOf
def a0_cX12_farOf : List Nat := [4, 28, 120, 54, 4, 3, 54, 5, 21, 4, 29, 184, 0, 166, 154, 0, 71, 21, 4, 54, 6, 3, 54, 7, 21, 7, 42, 27, 182, 0, 63, 162]
abbrev r0_cX12_farOf : List Nat := a0_cX12_farOf ++ r1_cX12_farOf
theorem lq_cX12_farOf : (cX12_farOf).data.toList.map UInt8.toNat = r0_cX12_farOf := by decide +kernel
theorem q1_cX12_farOf : ∀ i, (r0_cX12_farOf)[32 + i]? = (r1_cX12_farOf)[i]? := chn (A := a0_cX12_farOf) (B := r1_cX12_farOf) (n := 0) (k := 32) rfl (ch0 (R := r0_cX12_farOf))
theorem q2_cX12_farOf : ∀ i, (r0_cX12_farOf)[64 + i]? = (r2_cX12_farOf)[i]? := chn (A := a1_cX12_farOf) (B := r2_cX12_farOf) (n := 32) (k := 32) rfl q1_cX12_farOf
theorem dX12_farOf_0 : decode cX12_farOf 0 = .ok (.iconst 1, 1) := dc_4 (gB_l lq_cX12_farOf (p := 0) (o := 4) rfl)
theorem dX12_farOf_1 : decode cX12_farOf 1 = .ok (.iload_n 2, 1) := dc_28 (gB_l lq_cX12_farOf (p := 1) (o := 28) rfl)
theorem dX12_farOf_2 : decode cX12_farOf 2 = .ok (.ishl, 1) := dc_120 (gB_l lq_cX12_farOf (p := 2) (o := 120) rfl)
theorem dX12_farOf_3 : decode cX12_farOf 3 = .ok (.istore 4, 2) := dc_54 (gB_l lq_cX12_farOf (p := 3) (o := 54) rfl) (gB_l lq_cX12_farOf (p := 4) (o := 4) rfl)
theorem dX12_farOf_5 : decode cX12_farOf 5 = .ok (.iconst 0, 1) := dc_3 (gB_l lq_cX12_farOf (p := 5) (o := 3) rfl)
theorem dX12_farOf_6 : decode cX12_farOf 6 = .ok (.istore 5, 2) := dc_54 (gB_l lq_cX12_farOf (p := 6) (o := 54) rfl) (gB_l lq_cX12_farOf (p := 7) (o := 5) rfl)
theorem dX12_farOf_8 : decode cX12_farOf 8 = .ok (.iload 4, 2) := dc_21 (gB_l lq_cX12_farOf (p := 8) (o := 21) rfl) (gB_l lq_cX12_farOf (p := 9) (o := 4) rfl)
theorem dX12_farOf_10 : decode cX12_farOf 10 = .ok (.iload_n 3, 1) := dc_29 (gB_l lq_cX12_farOf (p := 10) (o := 29) rfl)
theorem dX12_farOf_11 : decode cX12_farOf 11 = .ok (.invokestatic 166, 3) := dc_184 (gB_l lq_cX12_farOf (p := 11) (o := 184) rfl) (gB_l lq_cX12_farOf (p := 12) (o := 0) rfl) (gB_l lq_cX12_farOf (p := 13) (o := 166) rfl) rfl
theorem dX12_farOf_14 : decode cX12_farOf 14 = .ok (.ifCond .ne 71, 3) := dc_154 (gB_l lq_cX12_farOf (p := 14) (o := 154) rfl) (gB_l lq_cX12_farOf (p := 15) (o := 0) rfl) (gB_l lq_cX12_farOf (p := 16) (o := 71) rfl) rfl
theorem dX12_farOf_17 : decode cX12_farOf 17 = .ok (.iload 4, 2) := dc_21 (gB_l lq_cX12_farOf (p := 17) (o := 21) rfl) (gB_l lq_cX12_farOf (p := 18) (o := 4) rfl)
theorem dX12_farOf_19 : decode cX12_farOf 19 = .ok (.istore 6, 2) := dc_54 (gB_l lq_cX12_farOf (p := 19) (o := 54) rfl) (gB_l lq_cX12_farOf (p := 20) (o := 6) rfl)
theorem dX12_farOf_21 : decode cX12_farOf 21 = .ok (.iconst 0, 1) := dc_3 (gB_l lq_cX12_farOf (p := 21) (o := 3) rfl)
theorem dX12_farOf_22 : decode cX12_farOf 22 = .ok (.istore 7, 2) := dc_54 (gB_l lq_cX12_farOf (p := 22) (o := 54) rfl) (gB_l lq_cX12_farOf (p := 23) (o := 7) rfl)
theorem dX12_farOf_24 : decode cX12_farOf 24 = .ok (.iload 7, 2) := dc_21 (gB_l lq_cX12_farOf (p := 24) (o := 21) rfl) (gB_l lq_cX12_farOf (p := 25) (o := 7) rfl)
theorem dX12_farOf_26 : decode cX12_farOf 26 = .ok (.aload_n 0, 1) := dc_42 (gB_l lq_cX12_farOf (p := 26) (o := 42) rfl)
theorem dX12_farOf_27 : decode cX12_farOf 27 = .ok (.iload_n 1, 1) := dc_27 (gB_l lq_cX12_farOf (p := 27) (o := 27) rfl)
theorem dX12_farOf_28 : decode cX12_farOf 28 = .ok (.invokevirtual 63, 3) := dc_182 (gB_l lq_cX12_farOf (p := 28) (o := 182) rfl) (gB_l lq_cX12_farOf (p := 29) (o := 0) rfl) (gB_l lq_cX12_farOf (p := 30) (o := 63) rfl) rfl
theorem dX12_farOf_31 : decode cX12_farOf 31 = .ok (.if_icmp .ge 35, 3) := dc_162 (gB_l lq_cX12_farOf (p := 31) (o := 162) rfl) (gB_c lq_cX12_farOf q1_cX12_farOf 0 (o := 0) rfl) (gB_c lq_cX12_farOf q1_cX12_farOf 1 (o := 35) rfl) rfl
theorem dX12_farOf_34 : decode cX12_farOf 34 = .ok (.iload 6, 2) := dc_21 (gB_c lq_cX12_farOf q1_cX12_farOf 2 (o := 21) rfl) (gB_c lq_cX12_farOf q1_cX12_farOf 3 (o := 6) rfl)
theorem dX12_farOf_36 : decode cX12_farOf 36 = .ok (.iload 4, 2) := dc_21 (gB_c lq_cX12_farOf q1_cX12_farOf 4 (o := 21) rfl) (gB_c lq_cX12_farOf q1_cX12_farOf 5 (o := 4) rfl)
theorem dX12_farOf_38 : decode cX12_farOf 38 = .ok (.iload 7, 2) := dc_21 (gB_c lq_cX12_farOf q1_cX12_farOf 6 (o := 21) rfl) (gB_c lq_cX12_farOf q1_cX12_farOf 7 (o := 7) rfl)
theorem dX12_farOf_40 : decode cX12_farOf 40 = .ok (.invokestatic 166, 3) := dc_184 (gB_c lq_cX12_farOf q1_cX12_farOf 8 (o := 184) rfl) (gB_c lq_cX12_farOf q1_cX12_farOf 9 (o := 0) rfl) (gB_c lq_cX12_farOf q1_cX12_farOf 10 (o := 166) rfl) rfl
theorem dX12_farOf_43 : decode cX12_farOf 43 = .ok (.ifCond .eq 13, 3) := dc_153 (gB_c lq_cX12_farOf q1_cX12_farOf 11 (o := 153) rfl) (gB_c lq_cX12_farOf q1_cX12_farOf 12 (o := 0) rfl) (gB_c lq_cX12_farOf q1_cX12_farOf 13 (o := 13) rfl) rfl
theorem dX12_farOf_46 : decode cX12_farOf 46 = .ok (.aload_n 0, 1) := dc_42 (gB_c lq_cX12_farOf q1_cX12_farOf 14 (o := 42) rfl)
theorem dX12_farOf_47 : decode cX12_farOf 47 = .ok (.iload_n 1, 1) := dc_27 (gB_c lq_cX12_farOf q1_cX12_farOf 15 (o := 27) rfl)
theorem dX12_farOf_48 : decode cX12_farOf 48 = .ok (.iload 7, 2) := dc_21 (gB_c lq_cX12_farOf q1_cX12_farOf 16 (o := 21) rfl) (gB_c lq_cX12_farOf q1_cX12_farOf 17 (o := 7) rfl)
theorem dX12_farOf_50 : decode cX12_farOf 50 = .ok (.invokevirtual 80, 3) := dc_182 (gB_c lq_cX12_farOf q1_cX12_farOf 18 (o := 182) rfl) (gB_c lq_cX12_farOf q1_cX12_farOf 19 (o := 0) rfl) (gB_c lq_cX12_farOf q1_cX12_farOf 20 (o := 80) rfl) rfl
theorem dX12_farOf_53 : decode cX12_farOf 53 = .ok (.goto 4, 3) := dc_167 (gB_c lq_cX12_farOf q1_cX12_farOf 21 (o := 167) rfl) (gB_c lq_cX12_farOf q1_cX12_farOf 22 (o := 0) rfl) (gB_c lq_cX12_farOf q1_cX12_farOf 23 (o := 4) rfl) rfl
theorem dX12_farOf_56 : decode cX12_farOf 56 = .ok (.iconst 0, 1) := dc_3 (gB_c lq_cX12_farOf q1_cX12_farOf 24 (o := 3) rfl)
theorem dX12_farOf_57 : decode cX12_farOf 57 = .ok (.ior, 1) := dc_128 (gB_c lq_cX12_farOf q1_cX12_farOf 25 (o := 128) rfl)
theorem dX12_farOf_58 : decode cX12_farOf 58 = .ok (.istore 6, 2) := dc_54 (gB_c lq_cX12_farOf q1_cX12_farOf 26 (o := 54) rfl) (gB_c lq_cX12_farOf q1_cX12_farOf 27 (o := 6) rfl)
theorem dX12_farOf_60 : decode cX12_farOf 60 = .ok (.iinc 7 1, 3) := dc_132 (gB_c lq_cX12_farOf q1_cX12_farOf 28 (o := 132) rfl) (gB_c lq_cX12_farOf q1_cX12_farOf 29 (o := 7) rfl) (gB_c lq_cX12_farOf q1_cX12_farOf 30 (o := 1) rfl) rfl
theorem dX12_farOf_63 : decode cX12_farOf 63 = .ok (.goto (-39), 3) := dc_167 (gB_c lq_cX12_farOf q1_cX12_farOf 31 (o := 167) rfl) (gB_c lq_cX12_farOf q2_cX12_farOf 0 (o := 255) rfl) (gB_c lq_cX12_farOf q2_cX12_farOf 1 (o := 217) rfl) rfl
theorem dX12_farOf_66 : decode cX12_farOf 66 = .ok (.iload 6, 2) := dc_21 (gB_c lq_cX12_farOf q2_cX12_farOf 2 (o := 21) rfl) (gB_c lq_cX12_farOf q2_cX12_farOf 3 (o := 6) rfl)
theorem dX12_farOf_68 : decode cX12_farOf 68 = .ok (.iload 4, 2) := dc_21 (gB_c lq_cX12_farOf q2_cX12_farOf 4 (o := 21) rfl) (gB_c lq_cX12_farOf q2_cX12_farOf 5 (o := 4) rfl)
theorem dX12_farOf_70 : decode cX12_farOf 70 = .ok (.if_icmp .ne 5, 3) := dc_160 (gB_c lq_cX12_farOf q2_cX12_farOf 6 (o := 160) rfl) (gB_c lq_cX12_farOf q2_cX12_farOf 7 (o := 0) rfl) (gB_c lq_cX12_farOf q2_cX12_farOf 8 (o := 5) rfl) rfl
theorem dX12_farOf_73 : decode cX12_farOf 73 = .ok (.iconst (-1), 1) := dc_2 (gB_c lq_cX12_farOf q2_cX12_farOf 9 (o := 2) rfl)
theorem dX12_farOf_74 : decode cX12_farOf 74 = .ok (.ireturn, 1) := dc_172 (gB_c lq_cX12_farOf q2_cX12_farOf 10 (o := 172) rfl)
theorem dX12_farOf_75 : decode cX12_farOf 75 = .ok (.iload 6, 2) := dc_21 (gB_c lq_cX12_farOf q2_cX12_farOf 11 (o := 21) rfl) (gB_c lq_cX12_farOf q2_cX12_farOf 12 (o := 6) rfl)
theorem dX12_farOf_77 : decode cX12_farOf 77 = .ok (.istore 4, 2) := dc_54 (gB_c lq_cX12_farOf q2_cX12_farOf 13 (o := 54) rfl) (gB_c lq_cX12_farOf q2_cX12_farOf 14 (o := 4) rfl)
theorem dX12_farOf_79 : decode cX12_farOf 79 = .ok (.iinc 5 1, 3) := dc_132 (gB_c lq_cX12_farOf q2_cX12_farOf 15 (o := 132) rfl) (gB_c lq_cX12_farOf q2_cX12_farOf 16 (o := 5) rfl) (gB_c lq_cX12_farOf q2_cX12_farOf 17 (o := 1) rfl) rfl
theorem dX12_farOf_82 : decode cX12_farOf 82 = .ok (.goto (-74), 3) := dc_167 (gB_c lq_cX12_farOf q2_cX12_farOf 18 (o := 167) rfl) (gB_c lq_cX12_farOf q2_cX12_farOf 19 (o := 255) rfl) (gB_c lq_cX12_farOf q2_cX12_farOf 20 (o := 182) rfl) rfl
theorem dX12_farOf_85 : decode cX12_farOf 85 = .ok (.iload 5, 2) := dc_21 (gB_c lq_cX12_farOf q2_cX12_farOf 21 (o := 21) rfl) (gB_c lq_cX12_farOf q2_cX12_farOf 22 (o := 5) rfl)
theorem dX12_farOf_87 : decode cX12_farOf 87 = .ok (.ireturn, 1) := dc_172 (gB_c lq_cX12_farOf q2_cX12_farOf 23 (o := 172) rfl)
abbrev r0_cX12_fault : List Nat := [27, 154, 0, 10, 42, 180, 0, 127, 167, 0, 16, 27, 4, 160, 0, 10, 42, 180, 0, 22, 167, 0, 4, 2, 172]
theorem lq_cX12_fault : (cX12_fault).data.toList.map UInt8.toNat = r0_cX12_fault := by decide +kernel
theorem dX12_fault_0 : decode cX12_fault 0 = .ok (.iload_n 1, 1) := dc_27 (gB_l lq_cX12_fault (p := 0) (o := 27) rfl)
theorem dX12_fault_1 : decode cX12_fault 1 = .ok (.ifCond .ne 10, 3) := dc_154 (gB_l lq_cX12_fault (p := 1) (o := 154) rfl) (gB_l lq_cX12_fault (p := 2) (o := 0) rfl) (gB_l lq_cX12_fault (p := 3) (o := 10) rfl) rfl
theorem dX12_fault_4 : decode cX12_fault 4 = .ok (.aload_n 0, 1) := dc_42 (gB_l lq_cX12_fault (p := 4) (o := 42) rfl)
theorem dX12_fault_5 : decode cX12_fault 5 = .ok (.getfield 127, 3) := dc_180 (gB_l lq_cX12_fault (p := 5) (o := 180) rfl) (gB_l lq_cX12_fault (p := 6) (o := 0) rfl) (gB_l lq_cX12_fault (p := 7) (o := 127) rfl) rfl
theorem dX12_fault_8 : decode cX12_fault 8 = .ok (.goto 16, 3) := dc_167 (gB_l lq_cX12_fault (p := 8) (o := 167) rfl) (gB_l lq_cX12_fault (p := 9) (o := 0) rfl) (gB_l lq_cX12_fault (p := 10) (o := 16) rfl) rfl
theorem dX12_fault_11 : decode cX12_fault 11 = .ok (.iload_n 1, 1) := dc_27 (gB_l lq_cX12_fault (p := 11) (o := 27) rfl)
theorem dX12_fault_12 : decode cX12_fault 12 = .ok (.iconst 1, 1) := dc_4 (gB_l lq_cX12_fault (p := 12) (o := 4) rfl)
theorem dX12_fault_13 : decode cX12_fault 13 = .ok (.if_icmp .ne 10, 3) := dc_160 (gB_l lq_cX12_fault (p := 13) (o := 160) rfl) (gB_l lq_cX12_fault (p := 14) (o := 0) rfl) (gB_l lq_cX12_fault (p := 15) (o := 10) rfl) rfl
theorem dX12_fault_16 : decode cX12_fault 16 = .ok (.aload_n 0, 1) := dc_42 (gB_l lq_cX12_fault (p := 16) (o := 42) rfl)
theorem dX12_fault_17 : decode cX12_fault 17 = .ok (.getfield 22, 3) := dc_180 (gB_l lq_cX12_fault (p := 17) (o := 180) rfl) (gB_l lq_cX12_fault (p := 18) (o := 0) rfl) (gB_l lq_cX12_fault (p := 19) (o := 22) rfl) rfl
theorem dX12_fault_20 : decode cX12_fault 20 = .ok (.goto 4, 3) := dc_167 (gB_l lq_cX12_fault (p := 20) (o := 167) rfl) (gB_l lq_cX12_fault (p := 21) (o := 0) rfl) (gB_l lq_cX12_fault (p := 22) (o := 4) rfl) rfl
theorem dX12_fault_23 : decode cX12_fault 23 = .ok (.iconst (-1), 1) := dc_2 (gB_l lq_cX12_fault (p := 23) (o := 2) rfl)
theorem dX12_fault_24 : decode cX12_fault 24 = .ok (.ireturn, 1) := dc_172 (gB_l lq_cX12_fault (p := 24) (o := 172) rfl)
abbrev r0_cX12_faults : List Nat := [42, 180, 0, 123, 154, 0, 21, 42, 4, 181, 0, 123, 42, 27, 181, 0, 127, 42, 42, 180, 0, 109, 181, 0, 22, 177]
theorem lq_cX12_faults : (cX12_faults).data.toList.map UInt8.toNat = r0_cX12_faults := by decide +kernel
theorem dX12_faults_0 : decode cX12_faults 0 = .ok (.aload_n 0, 1) := dc_42 (gB_l lq_cX12_faults (p := 0) (o := 42) rfl)
theorem dX12_faults_1 : decode cX12_faults 1 = .ok (.getfield 123, 3) := dc_180 (gB_l lq_cX12_faults (p := 1) (o := 180) rfl) (gB_l lq_cX12_faults (p := 2) (o := 0) rfl) (gB_l lq_cX12_faults (p := 3) (o := 123) rfl) rfl
theorem dX12_faults_4 : decode cX12_faults 4 = .ok (.ifCond .ne 21, 3) := dc_154 (gB_l lq_cX12_faults (p := 4) (o := 154) rfl) (gB_l lq_cX12_faults (p := 5) (o := 0) rfl) (gB_l lq_cX12_faults (p := 6) (o := 21) rfl) rfl
theorem dX12_faults_7 : decode cX12_faults 7 = .ok (.aload_n 0, 1) := dc_42 (gB_l lq_cX12_faults (p := 7) (o := 42) rfl)
theorem dX12_faults_8 : decode cX12_faults 8 = .ok (.iconst 1, 1) := dc_4 (gB_l lq_cX12_faults (p := 8) (o := 4) rfl)
theorem dX12_faults_9 : decode cX12_faults 9 = .ok (.putfield 123, 3) := dc_181 (gB_l lq_cX12_faults (p := 9) (o := 181) rfl) (gB_l lq_cX12_faults (p := 10) (o := 0) rfl) (gB_l lq_cX12_faults (p := 11) (o := 123) rfl) rfl
theorem dX12_faults_12 : decode cX12_faults 12 = .ok (.aload_n 0, 1) := dc_42 (gB_l lq_cX12_faults (p := 12) (o := 42) rfl)
theorem dX12_faults_13 : decode cX12_faults 13 = .ok (.iload_n 1, 1) := dc_27 (gB_l lq_cX12_faults (p := 13) (o := 27) rfl)
theorem dX12_faults_14 : decode cX12_faults 14 = .ok (.putfield 127, 3) := dc_181 (gB_l lq_cX12_faults (p := 14) (o := 181) rfl) (gB_l lq_cX12_faults (p := 15) (o := 0) rfl) (gB_l lq_cX12_faults (p := 16) (o := 127) rfl) rfl
theorem dX12_faults_17 : decode cX12_faults 17 = .ok (.aload_n 0, 1) := dc_42 (gB_l lq_cX12_faults (p := 17) (o := 42) rfl)
theorem dX12_faults_18 : decode cX12_faults 18 = .ok (.aload_n 0, 1) := dc_42 (gB_l lq_cX12_faults (p := 18) (o := 42) rfl)
theorem dX12_faults_19 : decode cX12_faults 19 = .ok (.getfield 109, 3) := dc_180 (gB_l lq_cX12_faults (p := 19) (o := 180) rfl) (gB_l lq_cX12_faults (p := 20) (o := 0) rfl) (gB_l lq_cX12_faults (p := 21) (o := 109) rfl) rfl
theorem dX12_faults_22 : decode cX12_faults 22 = .ok (.putfield 22, 3) := dc_181 (gB_l lq_cX12_faults (p := 22) (o := 181) rfl) (gB_l lq_cX12_faults (p := 23) (o := 0) rfl) (gB_l lq_cX12_faults (p := 24) (o := 22) rfl) rfl
theorem dX12_faults_25 : decode cX12_faults 25 = .ok (.return_, 1) := dc_177 (gB_l lq_cX12_faults (p := 25) (o := 177) rfl)
abbrev r3_cX12_feed : List Nat := [96, 181, 0, 100, 42, 180, 0, 100, 172]
def a2_cX12_feed : List Nat := [7, 108, 46, 16, 24, 16, 8, 21, 7, 7, 112, 104, 100, 124, 17, 0, 255, 126, 79, 132, 7, 1, 167, 255, 212, 42, 89, 180, 0, 100, 16, 20]
abbrev r2_cX12_feed : List Nat := a2_cX12_feed ++ r3_cX12_feed
def a1_cX12_feed : List Nat := [89, 7, 21, 5, 79, 58, 6, 3, 54, 7, 21, 7, 16, 20, 162, 0, 43, 42, 180, 0, 19, 42, 180, 0, 100, 21, 7, 96, 25, 6, 21, 7]
abbrev r1_cX12_feed : List Nat := a1_cX12_feed ++ r2_cX12_feed
def a0_cX12_feed : List Nat := [42, 180, 0, 100, 17, 1, 124, 164, 0, 5, 2, 172, 8, 188, 10, 89, 3, 27, 79, 89, 4, 28, 79, 89, 5, 29, 79, 89, 6, 21, 4, 79]
abbrev r0_cX12_feed : List Nat := a0_cX12_feed ++ r1_cX12_feed
theorem lq_cX12_feed : (cX12_feed).data.toList.map UInt8.toNat = r0_cX12_feed := by decide +kernel
theorem q1_cX12_feed : ∀ i, (r0_cX12_feed)[32 + i]? = (r1_cX12_feed)[i]? := chn (A := a0_cX12_feed) (B := r1_cX12_feed) (n := 0) (k := 32) rfl (ch0 (R := r0_cX12_feed))
theorem q2_cX12_feed : ∀ i, (r0_cX12_feed)[64 + i]? = (r2_cX12_feed)[i]? := chn (A := a1_cX12_feed) (B := r2_cX12_feed) (n := 32) (k := 32) rfl q1_cX12_feed
theorem q3_cX12_feed : ∀ i, (r0_cX12_feed)[96 + i]? = (r3_cX12_feed)[i]? := chn (A := a2_cX12_feed) (B := r3_cX12_feed) (n := 64) (k := 32) rfl q2_cX12_feed
theorem dX12_feed_0 : decode cX12_feed 0 = .ok (.aload_n 0, 1) := dc_42 (gB_l lq_cX12_feed (p := 0) (o := 42) rfl)
theorem dX12_feed_1 : decode cX12_feed 1 = .ok (.getfield 100, 3) := dc_180 (gB_l lq_cX12_feed (p := 1) (o := 180) rfl) (gB_l lq_cX12_feed (p := 2) (o := 0) rfl) (gB_l lq_cX12_feed (p := 3) (o := 100) rfl) rfl
theorem dX12_feed_4 : decode cX12_feed 4 = .ok (.sipush 380, 3) := dc_17 (gB_l lq_cX12_feed (p := 4) (o := 17) rfl) (gB_l lq_cX12_feed (p := 5) (o := 1) rfl) (gB_l lq_cX12_feed (p := 6) (o := 124) rfl) rfl
theorem dX12_feed_7 : decode cX12_feed 7 = .ok (.if_icmp .le 5, 3) := dc_164 (gB_l lq_cX12_feed (p := 7) (o := 164) rfl) (gB_l lq_cX12_feed (p := 8) (o := 0) rfl) (gB_l lq_cX12_feed (p := 9) (o := 5) rfl) rfl
theorem dX12_feed_10 : decode cX12_feed 10 = .ok (.iconst (-1), 1) := dc_2 (gB_l lq_cX12_feed (p := 10) (o := 2) rfl)
theorem dX12_feed_11 : decode cX12_feed 11 = .ok (.ireturn, 1) := dc_172 (gB_l lq_cX12_feed (p := 11) (o := 172) rfl)
theorem dX12_feed_12 : decode cX12_feed 12 = .ok (.iconst 5, 1) := dc_8 (gB_l lq_cX12_feed (p := 12) (o := 8) rfl)
theorem dX12_feed_13 : decode cX12_feed 13 = .ok (.newarray .int, 2) := dn_10 (gB_l lq_cX12_feed (p := 13) (o := 188) rfl) (gB_l lq_cX12_feed (p := 14) (o := 10) rfl)
theorem dX12_feed_15 : decode cX12_feed 15 = .ok (.dup, 1) := dc_89 (gB_l lq_cX12_feed (p := 15) (o := 89) rfl)
theorem dX12_feed_16 : decode cX12_feed 16 = .ok (.iconst 0, 1) := dc_3 (gB_l lq_cX12_feed (p := 16) (o := 3) rfl)
theorem dX12_feed_17 : decode cX12_feed 17 = .ok (.iload_n 1, 1) := dc_27 (gB_l lq_cX12_feed (p := 17) (o := 27) rfl)
theorem dX12_feed_18 : decode cX12_feed 18 = .ok (.iastore, 1) := dc_79 (gB_l lq_cX12_feed (p := 18) (o := 79) rfl)
theorem dX12_feed_19 : decode cX12_feed 19 = .ok (.dup, 1) := dc_89 (gB_l lq_cX12_feed (p := 19) (o := 89) rfl)
theorem dX12_feed_20 : decode cX12_feed 20 = .ok (.iconst 1, 1) := dc_4 (gB_l lq_cX12_feed (p := 20) (o := 4) rfl)
theorem dX12_feed_21 : decode cX12_feed 21 = .ok (.iload_n 2, 1) := dc_28 (gB_l lq_cX12_feed (p := 21) (o := 28) rfl)
theorem dX12_feed_22 : decode cX12_feed 22 = .ok (.iastore, 1) := dc_79 (gB_l lq_cX12_feed (p := 22) (o := 79) rfl)
theorem dX12_feed_23 : decode cX12_feed 23 = .ok (.dup, 1) := dc_89 (gB_l lq_cX12_feed (p := 23) (o := 89) rfl)
theorem dX12_feed_24 : decode cX12_feed 24 = .ok (.iconst 2, 1) := dc_5 (gB_l lq_cX12_feed (p := 24) (o := 5) rfl)
theorem dX12_feed_25 : decode cX12_feed 25 = .ok (.iload_n 3, 1) := dc_29 (gB_l lq_cX12_feed (p := 25) (o := 29) rfl)
theorem dX12_feed_26 : decode cX12_feed 26 = .ok (.iastore, 1) := dc_79 (gB_l lq_cX12_feed (p := 26) (o := 79) rfl)
theorem dX12_feed_27 : decode cX12_feed 27 = .ok (.dup, 1) := dc_89 (gB_l lq_cX12_feed (p := 27) (o := 89) rfl)
theorem dX12_feed_28 : decode cX12_feed 28 = .ok (.iconst 3, 1) := dc_6 (gB_l lq_cX12_feed (p := 28) (o := 6) rfl)
theorem dX12_feed_29 : decode cX12_feed 29 = .ok (.iload 4, 2) := dc_21 (gB_l lq_cX12_feed (p := 29) (o := 21) rfl) (gB_l lq_cX12_feed (p := 30) (o := 4) rfl)
theorem dX12_feed_31 : decode cX12_feed 31 = .ok (.iastore, 1) := dc_79 (gB_l lq_cX12_feed (p := 31) (o := 79) rfl)
theorem dX12_feed_32 : decode cX12_feed 32 = .ok (.dup, 1) := dc_89 (gB_c lq_cX12_feed q1_cX12_feed 0 (o := 89) rfl)
theorem dX12_feed_33 : decode cX12_feed 33 = .ok (.iconst 4, 1) := dc_7 (gB_c lq_cX12_feed q1_cX12_feed 1 (o := 7) rfl)
theorem dX12_feed_34 : decode cX12_feed 34 = .ok (.iload 5, 2) := dc_21 (gB_c lq_cX12_feed q1_cX12_feed 2 (o := 21) rfl) (gB_c lq_cX12_feed q1_cX12_feed 3 (o := 5) rfl)
theorem dX12_feed_36 : decode cX12_feed 36 = .ok (.iastore, 1) := dc_79 (gB_c lq_cX12_feed q1_cX12_feed 4 (o := 79) rfl)
theorem dX12_feed_37 : decode cX12_feed 37 = .ok (.astore 6, 2) := dc_58 (gB_c lq_cX12_feed q1_cX12_feed 5 (o := 58) rfl) (gB_c lq_cX12_feed q1_cX12_feed 6 (o := 6) rfl)
theorem dX12_feed_39 : decode cX12_feed 39 = .ok (.iconst 0, 1) := dc_3 (gB_c lq_cX12_feed q1_cX12_feed 7 (o := 3) rfl)
theorem dX12_feed_40 : decode cX12_feed 40 = .ok (.istore 7, 2) := dc_54 (gB_c lq_cX12_feed q1_cX12_feed 8 (o := 54) rfl) (gB_c lq_cX12_feed q1_cX12_feed 9 (o := 7) rfl)
theorem dX12_feed_42 : decode cX12_feed 42 = .ok (.iload 7, 2) := dc_21 (gB_c lq_cX12_feed q1_cX12_feed 10 (o := 21) rfl) (gB_c lq_cX12_feed q1_cX12_feed 11 (o := 7) rfl)
theorem dX12_feed_44 : decode cX12_feed 44 = .ok (.bipush 20, 2) := dc_16 (gB_c lq_cX12_feed q1_cX12_feed 12 (o := 16) rfl) (gB_c lq_cX12_feed q1_cX12_feed 13 (o := 20) rfl) rfl
theorem dX12_feed_46 : decode cX12_feed 46 = .ok (.if_icmp .ge 43, 3) := dc_162 (gB_c lq_cX12_feed q1_cX12_feed 14 (o := 162) rfl) (gB_c lq_cX12_feed q1_cX12_feed 15 (o := 0) rfl) (gB_c lq_cX12_feed q1_cX12_feed 16 (o := 43) rfl) rfl
theorem dX12_feed_49 : decode cX12_feed 49 = .ok (.aload_n 0, 1) := dc_42 (gB_c lq_cX12_feed q1_cX12_feed 17 (o := 42) rfl)
theorem dX12_feed_50 : decode cX12_feed 50 = .ok (.getfield 19, 3) := dc_180 (gB_c lq_cX12_feed q1_cX12_feed 18 (o := 180) rfl) (gB_c lq_cX12_feed q1_cX12_feed 19 (o := 0) rfl) (gB_c lq_cX12_feed q1_cX12_feed 20 (o := 19) rfl) rfl
theorem dX12_feed_53 : decode cX12_feed 53 = .ok (.aload_n 0, 1) := dc_42 (gB_c lq_cX12_feed q1_cX12_feed 21 (o := 42) rfl)
theorem dX12_feed_54 : decode cX12_feed 54 = .ok (.getfield 100, 3) := dc_180 (gB_c lq_cX12_feed q1_cX12_feed 22 (o := 180) rfl) (gB_c lq_cX12_feed q1_cX12_feed 23 (o := 0) rfl) (gB_c lq_cX12_feed q1_cX12_feed 24 (o := 100) rfl) rfl
theorem dX12_feed_57 : decode cX12_feed 57 = .ok (.iload 7, 2) := dc_21 (gB_c lq_cX12_feed q1_cX12_feed 25 (o := 21) rfl) (gB_c lq_cX12_feed q1_cX12_feed 26 (o := 7) rfl)
theorem dX12_feed_59 : decode cX12_feed 59 = .ok (.iadd, 1) := dc_96 (gB_c lq_cX12_feed q1_cX12_feed 27 (o := 96) rfl)
theorem dX12_feed_60 : decode cX12_feed 60 = .ok (.aload 6, 2) := dc_25 (gB_c lq_cX12_feed q1_cX12_feed 28 (o := 25) rfl) (gB_c lq_cX12_feed q1_cX12_feed 29 (o := 6) rfl)
theorem dX12_feed_62 : decode cX12_feed 62 = .ok (.iload 7, 2) := dc_21 (gB_c lq_cX12_feed q1_cX12_feed 30 (o := 21) rfl) (gB_c lq_cX12_feed q1_cX12_feed 31 (o := 7) rfl)
theorem dX12_feed_64 : decode cX12_feed 64 = .ok (.iconst 4, 1) := dc_7 (gB_c lq_cX12_feed q2_cX12_feed 0 (o := 7) rfl)
theorem dX12_feed_65 : decode cX12_feed 65 = .ok (.idiv, 1) := dc_108 (gB_c lq_cX12_feed q2_cX12_feed 1 (o := 108) rfl)
theorem dX12_feed_66 : decode cX12_feed 66 = .ok (.iaload, 1) := dc_46 (gB_c lq_cX12_feed q2_cX12_feed 2 (o := 46) rfl)
theorem dX12_feed_67 : decode cX12_feed 67 = .ok (.bipush 24, 2) := dc_16 (gB_c lq_cX12_feed q2_cX12_feed 3 (o := 16) rfl) (gB_c lq_cX12_feed q2_cX12_feed 4 (o := 24) rfl) rfl
theorem dX12_feed_69 : decode cX12_feed 69 = .ok (.bipush 8, 2) := dc_16 (gB_c lq_cX12_feed q2_cX12_feed 5 (o := 16) rfl) (gB_c lq_cX12_feed q2_cX12_feed 6 (o := 8) rfl) rfl
theorem dX12_feed_71 : decode cX12_feed 71 = .ok (.iload 7, 2) := dc_21 (gB_c lq_cX12_feed q2_cX12_feed 7 (o := 21) rfl) (gB_c lq_cX12_feed q2_cX12_feed 8 (o := 7) rfl)
theorem dX12_feed_73 : decode cX12_feed 73 = .ok (.iconst 4, 1) := dc_7 (gB_c lq_cX12_feed q2_cX12_feed 9 (o := 7) rfl)
theorem dX12_feed_74 : decode cX12_feed 74 = .ok (.irem, 1) := dc_112 (gB_c lq_cX12_feed q2_cX12_feed 10 (o := 112) rfl)
theorem dX12_feed_75 : decode cX12_feed 75 = .ok (.imul, 1) := dc_104 (gB_c lq_cX12_feed q2_cX12_feed 11 (o := 104) rfl)
theorem dX12_feed_76 : decode cX12_feed 76 = .ok (.isub, 1) := dc_100 (gB_c lq_cX12_feed q2_cX12_feed 12 (o := 100) rfl)
theorem dX12_feed_77 : decode cX12_feed 77 = .ok (.iushr, 1) := dc_124 (gB_c lq_cX12_feed q2_cX12_feed 13 (o := 124) rfl)
theorem dX12_feed_78 : decode cX12_feed 78 = .ok (.sipush 255, 3) := dc_17 (gB_c lq_cX12_feed q2_cX12_feed 14 (o := 17) rfl) (gB_c lq_cX12_feed q2_cX12_feed 15 (o := 0) rfl) (gB_c lq_cX12_feed q2_cX12_feed 16 (o := 255) rfl) rfl
theorem dX12_feed_81 : decode cX12_feed 81 = .ok (.iand, 1) := dc_126 (gB_c lq_cX12_feed q2_cX12_feed 17 (o := 126) rfl)
theorem dX12_feed_82 : decode cX12_feed 82 = .ok (.iastore, 1) := dc_79 (gB_c lq_cX12_feed q2_cX12_feed 18 (o := 79) rfl)
theorem dX12_feed_83 : decode cX12_feed 83 = .ok (.iinc 7 1, 3) := dc_132 (gB_c lq_cX12_feed q2_cX12_feed 19 (o := 132) rfl) (gB_c lq_cX12_feed q2_cX12_feed 20 (o := 7) rfl) (gB_c lq_cX12_feed q2_cX12_feed 21 (o := 1) rfl) rfl
theorem dX12_feed_86 : decode cX12_feed 86 = .ok (.goto (-44), 3) := dc_167 (gB_c lq_cX12_feed q2_cX12_feed 22 (o := 167) rfl) (gB_c lq_cX12_feed q2_cX12_feed 23 (o := 255) rfl) (gB_c lq_cX12_feed q2_cX12_feed 24 (o := 212) rfl) rfl
theorem dX12_feed_89 : decode cX12_feed 89 = .ok (.aload_n 0, 1) := dc_42 (gB_c lq_cX12_feed q2_cX12_feed 25 (o := 42) rfl)
theorem dX12_feed_90 : decode cX12_feed 90 = .ok (.dup, 1) := dc_89 (gB_c lq_cX12_feed q2_cX12_feed 26 (o := 89) rfl)
theorem dX12_feed_91 : decode cX12_feed 91 = .ok (.getfield 100, 3) := dc_180 (gB_c lq_cX12_feed q2_cX12_feed 27 (o := 180) rfl) (gB_c lq_cX12_feed q2_cX12_feed 28 (o := 0) rfl) (gB_c lq_cX12_feed q2_cX12_feed 29 (o := 100) rfl) rfl
theorem dX12_feed_94 : decode cX12_feed 94 = .ok (.bipush 20, 2) := dc_16 (gB_c lq_cX12_feed q2_cX12_feed 30 (o := 16) rfl) (gB_c lq_cX12_feed q2_cX12_feed 31 (o := 20) rfl) rfl
theorem dX12_feed_96 : decode cX12_feed 96 = .ok (.iadd, 1) := dc_96 (gB_c lq_cX12_feed q3_cX12_feed 0 (o := 96) rfl)
theorem dX12_feed_97 : decode cX12_feed 97 = .ok (.putfield 100, 3) := dc_181 (gB_c lq_cX12_feed q3_cX12_feed 1 (o := 181) rfl) (gB_c lq_cX12_feed q3_cX12_feed 2 (o := 0) rfl) (gB_c lq_cX12_feed q3_cX12_feed 3 (o := 100) rfl) rfl
theorem dX12_feed_100 : decode cX12_feed 100 = .ok (.aload_n 0, 1) := dc_42 (gB_c lq_cX12_feed q3_cX12_feed 4 (o := 42) rfl)
theorem dX12_feed_101 : decode cX12_feed 101 = .ok (.getfield 100, 3) := dc_180 (gB_c lq_cX12_feed q3_cX12_feed 5 (o := 180) rfl) (gB_c lq_cX12_feed q3_cX12_feed 6 (o := 0) rfl) (gB_c lq_cX12_feed q3_cX12_feed 7 (o := 100) rfl) rfl
theorem dX12_feed_104 : decode cX12_feed 104 = .ok (.ireturn, 1) := dc_172 (gB_c lq_cX12_feed q3_cX12_feed 8 (o := 172) rfl)
abbrev r1_cX12_fewestOf : List Nat := [42, 180, 0, 44, 28, 46, 184, 0, 84, 162, 0, 7, 29, 167, 0, 4, 28, 61, 132, 3, 1, 167, 255, 207, 28, 172]
def a0_cX12_fewestOf : List Nat := [2, 61, 3, 62, 29, 16, 9, 162, 0, 49, 27, 29, 184, 0, 166, 153, 0, 33, 28, 2, 159, 0, 24, 42, 180, 0, 44, 29, 46, 184, 0, 84]
abbrev r0_cX12_fewestOf : List Nat := a0_cX12_fewestOf ++ r1_cX12_fewestOf
theorem lq_cX12_fewestOf : (cX12_fewestOf).data.toList.map UInt8.toNat = r0_cX12_fewestOf := by decide +kernel
theorem q1_cX12_fewestOf : ∀ i, (r0_cX12_fewestOf)[32 + i]? = (r1_cX12_fewestOf)[i]? := chn (A := a0_cX12_fewestOf) (B := r1_cX12_fewestOf) (n := 0) (k := 32) rfl (ch0 (R := r0_cX12_fewestOf))
theorem dX12_fewestOf_0 : decode cX12_fewestOf 0 = .ok (.iconst (-1), 1) := dc_2 (gB_l lq_cX12_fewestOf (p := 0) (o := 2) rfl)
theorem dX12_fewestOf_1 : decode cX12_fewestOf 1 = .ok (.istore_n 2, 1) := dc_61 (gB_l lq_cX12_fewestOf (p := 1) (o := 61) rfl)
theorem dX12_fewestOf_2 : decode cX12_fewestOf 2 = .ok (.iconst 0, 1) := dc_3 (gB_l lq_cX12_fewestOf (p := 2) (o := 3) rfl)
theorem dX12_fewestOf_3 : decode cX12_fewestOf 3 = .ok (.istore_n 3, 1) := dc_62 (gB_l lq_cX12_fewestOf (p := 3) (o := 62) rfl)
theorem dX12_fewestOf_4 : decode cX12_fewestOf 4 = .ok (.iload_n 3, 1) := dc_29 (gB_l lq_cX12_fewestOf (p := 4) (o := 29) rfl)
theorem dX12_fewestOf_5 : decode cX12_fewestOf 5 = .ok (.bipush 9, 2) := dc_16 (gB_l lq_cX12_fewestOf (p := 5) (o := 16) rfl) (gB_l lq_cX12_fewestOf (p := 6) (o := 9) rfl) rfl
theorem dX12_fewestOf_7 : decode cX12_fewestOf 7 = .ok (.if_icmp .ge 49, 3) := dc_162 (gB_l lq_cX12_fewestOf (p := 7) (o := 162) rfl) (gB_l lq_cX12_fewestOf (p := 8) (o := 0) rfl) (gB_l lq_cX12_fewestOf (p := 9) (o := 49) rfl) rfl
theorem dX12_fewestOf_10 : decode cX12_fewestOf 10 = .ok (.iload_n 1, 1) := dc_27 (gB_l lq_cX12_fewestOf (p := 10) (o := 27) rfl)
theorem dX12_fewestOf_11 : decode cX12_fewestOf 11 = .ok (.iload_n 3, 1) := dc_29 (gB_l lq_cX12_fewestOf (p := 11) (o := 29) rfl)
theorem dX12_fewestOf_12 : decode cX12_fewestOf 12 = .ok (.invokestatic 166, 3) := dc_184 (gB_l lq_cX12_fewestOf (p := 12) (o := 184) rfl) (gB_l lq_cX12_fewestOf (p := 13) (o := 0) rfl) (gB_l lq_cX12_fewestOf (p := 14) (o := 166) rfl) rfl
theorem dX12_fewestOf_15 : decode cX12_fewestOf 15 = .ok (.ifCond .eq 33, 3) := dc_153 (gB_l lq_cX12_fewestOf (p := 15) (o := 153) rfl) (gB_l lq_cX12_fewestOf (p := 16) (o := 0) rfl) (gB_l lq_cX12_fewestOf (p := 17) (o := 33) rfl) rfl
theorem dX12_fewestOf_18 : decode cX12_fewestOf 18 = .ok (.iload_n 2, 1) := dc_28 (gB_l lq_cX12_fewestOf (p := 18) (o := 28) rfl)
theorem dX12_fewestOf_19 : decode cX12_fewestOf 19 = .ok (.iconst (-1), 1) := dc_2 (gB_l lq_cX12_fewestOf (p := 19) (o := 2) rfl)
theorem dX12_fewestOf_20 : decode cX12_fewestOf 20 = .ok (.if_icmp .eq 24, 3) := dc_159 (gB_l lq_cX12_fewestOf (p := 20) (o := 159) rfl) (gB_l lq_cX12_fewestOf (p := 21) (o := 0) rfl) (gB_l lq_cX12_fewestOf (p := 22) (o := 24) rfl) rfl
theorem dX12_fewestOf_23 : decode cX12_fewestOf 23 = .ok (.aload_n 0, 1) := dc_42 (gB_l lq_cX12_fewestOf (p := 23) (o := 42) rfl)
theorem dX12_fewestOf_24 : decode cX12_fewestOf 24 = .ok (.getfield 44, 3) := dc_180 (gB_l lq_cX12_fewestOf (p := 24) (o := 180) rfl) (gB_l lq_cX12_fewestOf (p := 25) (o := 0) rfl) (gB_l lq_cX12_fewestOf (p := 26) (o := 44) rfl) rfl
theorem dX12_fewestOf_27 : decode cX12_fewestOf 27 = .ok (.iload_n 3, 1) := dc_29 (gB_l lq_cX12_fewestOf (p := 27) (o := 29) rfl)
theorem dX12_fewestOf_28 : decode cX12_fewestOf 28 = .ok (.iaload, 1) := dc_46 (gB_l lq_cX12_fewestOf (p := 28) (o := 46) rfl)
theorem dX12_fewestOf_29 : decode cX12_fewestOf 29 = .ok (.invokestatic 84, 3) := dc_184 (gB_l lq_cX12_fewestOf (p := 29) (o := 184) rfl) (gB_l lq_cX12_fewestOf (p := 30) (o := 0) rfl) (gB_l lq_cX12_fewestOf (p := 31) (o := 84) rfl) rfl
theorem dX12_fewestOf_32 : decode cX12_fewestOf 32 = .ok (.aload_n 0, 1) := dc_42 (gB_c lq_cX12_fewestOf q1_cX12_fewestOf 0 (o := 42) rfl)
theorem dX12_fewestOf_33 : decode cX12_fewestOf 33 = .ok (.getfield 44, 3) := dc_180 (gB_c lq_cX12_fewestOf q1_cX12_fewestOf 1 (o := 180) rfl) (gB_c lq_cX12_fewestOf q1_cX12_fewestOf 2 (o := 0) rfl) (gB_c lq_cX12_fewestOf q1_cX12_fewestOf 3 (o := 44) rfl) rfl
theorem dX12_fewestOf_36 : decode cX12_fewestOf 36 = .ok (.iload_n 2, 1) := dc_28 (gB_c lq_cX12_fewestOf q1_cX12_fewestOf 4 (o := 28) rfl)
theorem dX12_fewestOf_37 : decode cX12_fewestOf 37 = .ok (.iaload, 1) := dc_46 (gB_c lq_cX12_fewestOf q1_cX12_fewestOf 5 (o := 46) rfl)
theorem dX12_fewestOf_38 : decode cX12_fewestOf 38 = .ok (.invokestatic 84, 3) := dc_184 (gB_c lq_cX12_fewestOf q1_cX12_fewestOf 6 (o := 184) rfl) (gB_c lq_cX12_fewestOf q1_cX12_fewestOf 7 (o := 0) rfl) (gB_c lq_cX12_fewestOf q1_cX12_fewestOf 8 (o := 84) rfl) rfl
theorem dX12_fewestOf_41 : decode cX12_fewestOf 41 = .ok (.if_icmp .ge 7, 3) := dc_162 (gB_c lq_cX12_fewestOf q1_cX12_fewestOf 9 (o := 162) rfl) (gB_c lq_cX12_fewestOf q1_cX12_fewestOf 10 (o := 0) rfl) (gB_c lq_cX12_fewestOf q1_cX12_fewestOf 11 (o := 7) rfl) rfl
theorem dX12_fewestOf_44 : decode cX12_fewestOf 44 = .ok (.iload_n 3, 1) := dc_29 (gB_c lq_cX12_fewestOf q1_cX12_fewestOf 12 (o := 29) rfl)
theorem dX12_fewestOf_45 : decode cX12_fewestOf 45 = .ok (.goto 4, 3) := dc_167 (gB_c lq_cX12_fewestOf q1_cX12_fewestOf 13 (o := 167) rfl) (gB_c lq_cX12_fewestOf q1_cX12_fewestOf 14 (o := 0) rfl) (gB_c lq_cX12_fewestOf q1_cX12_fewestOf 15 (o := 4) rfl) rfl
theorem dX12_fewestOf_48 : decode cX12_fewestOf 48 = .ok (.iload_n 2, 1) := dc_28 (gB_c lq_cX12_fewestOf q1_cX12_fewestOf 16 (o := 28) rfl)
theorem dX12_fewestOf_49 : decode cX12_fewestOf 49 = .ok (.istore_n 2, 1) := dc_61 (gB_c lq_cX12_fewestOf q1_cX12_fewestOf 17 (o := 61) rfl)
theorem dX12_fewestOf_50 : decode cX12_fewestOf 50 = .ok (.iinc 3 1, 3) := dc_132 (gB_c lq_cX12_fewestOf q1_cX12_fewestOf 18 (o := 132) rfl) (gB_c lq_cX12_fewestOf q1_cX12_fewestOf 19 (o := 3) rfl) (gB_c lq_cX12_fewestOf q1_cX12_fewestOf 20 (o := 1) rfl) rfl
theorem dX12_fewestOf_53 : decode cX12_fewestOf 53 = .ok (.goto (-49), 3) := dc_167 (gB_c lq_cX12_fewestOf q1_cX12_fewestOf 21 (o := 167) rfl) (gB_c lq_cX12_fewestOf q1_cX12_fewestOf 22 (o := 255) rfl) (gB_c lq_cX12_fewestOf q1_cX12_fewestOf 23 (o := 207) rfl) rfl
theorem dX12_fewestOf_56 : decode cX12_fewestOf 56 = .ok (.iload_n 2, 1) := dc_28 (gB_c lq_cX12_fewestOf q1_cX12_fewestOf 24 (o := 28) rfl)
theorem dX12_fewestOf_57 : decode cX12_fewestOf 57 = .ok (.ireturn, 1) := dc_172 (gB_c lq_cX12_fewestOf q1_cX12_fewestOf 25 (o := 172) rfl)
abbrev r2_cX12_fillOf : List Nat := [167, 0, 4, 3, 96, 54, 5, 132, 6, 1, 167, 255, 197, 21, 5, 172]
def a1_cX12_fillOf : List Nat := [0, 166, 153, 0, 33, 21, 4, 42, 27, 28, 21, 6, 182, 0, 223, 2, 130, 126, 4, 21, 6, 4, 96, 120, 4, 100, 2, 130, 126, 184, 0, 84]
abbrev r1_cX12_fillOf : List Nat := a1_cX12_fillOf ++ r2_cX12_fillOf
def a0_cX12_fillOf : List Nat := [42, 27, 28, 29, 182, 0, 223, 54, 4, 3, 54, 5, 3, 54, 6, 21, 6, 42, 27, 182, 0, 63, 162, 0, 55, 21, 5, 21, 4, 21, 6, 184]
abbrev r0_cX12_fillOf : List Nat := a0_cX12_fillOf ++ r1_cX12_fillOf
theorem lq_cX12_fillOf : (cX12_fillOf).data.toList.map UInt8.toNat = r0_cX12_fillOf := by decide +kernel
theorem q1_cX12_fillOf : ∀ i, (r0_cX12_fillOf)[32 + i]? = (r1_cX12_fillOf)[i]? := chn (A := a0_cX12_fillOf) (B := r1_cX12_fillOf) (n := 0) (k := 32) rfl (ch0 (R := r0_cX12_fillOf))
theorem q2_cX12_fillOf : ∀ i, (r0_cX12_fillOf)[64 + i]? = (r2_cX12_fillOf)[i]? := chn (A := a1_cX12_fillOf) (B := r2_cX12_fillOf) (n := 32) (k := 32) rfl q1_cX12_fillOf
theorem dX12_fillOf_0 : decode cX12_fillOf 0 = .ok (.aload_n 0, 1) := dc_42 (gB_l lq_cX12_fillOf (p := 0) (o := 42) rfl)
theorem dX12_fillOf_1 : decode cX12_fillOf 1 = .ok (.iload_n 1, 1) := dc_27 (gB_l lq_cX12_fillOf (p := 1) (o := 27) rfl)
theorem dX12_fillOf_2 : decode cX12_fillOf 2 = .ok (.iload_n 2, 1) := dc_28 (gB_l lq_cX12_fillOf (p := 2) (o := 28) rfl)
theorem dX12_fillOf_3 : decode cX12_fillOf 3 = .ok (.iload_n 3, 1) := dc_29 (gB_l lq_cX12_fillOf (p := 3) (o := 29) rfl)
theorem dX12_fillOf_4 : decode cX12_fillOf 4 = .ok (.invokevirtual 223, 3) := dc_182 (gB_l lq_cX12_fillOf (p := 4) (o := 182) rfl) (gB_l lq_cX12_fillOf (p := 5) (o := 0) rfl) (gB_l lq_cX12_fillOf (p := 6) (o := 223) rfl) rfl
theorem dX12_fillOf_7 : decode cX12_fillOf 7 = .ok (.istore 4, 2) := dc_54 (gB_l lq_cX12_fillOf (p := 7) (o := 54) rfl) (gB_l lq_cX12_fillOf (p := 8) (o := 4) rfl)
theorem dX12_fillOf_9 : decode cX12_fillOf 9 = .ok (.iconst 0, 1) := dc_3 (gB_l lq_cX12_fillOf (p := 9) (o := 3) rfl)
theorem dX12_fillOf_10 : decode cX12_fillOf 10 = .ok (.istore 5, 2) := dc_54 (gB_l lq_cX12_fillOf (p := 10) (o := 54) rfl) (gB_l lq_cX12_fillOf (p := 11) (o := 5) rfl)
theorem dX12_fillOf_12 : decode cX12_fillOf 12 = .ok (.iconst 0, 1) := dc_3 (gB_l lq_cX12_fillOf (p := 12) (o := 3) rfl)
theorem dX12_fillOf_13 : decode cX12_fillOf 13 = .ok (.istore 6, 2) := dc_54 (gB_l lq_cX12_fillOf (p := 13) (o := 54) rfl) (gB_l lq_cX12_fillOf (p := 14) (o := 6) rfl)
theorem dX12_fillOf_15 : decode cX12_fillOf 15 = .ok (.iload 6, 2) := dc_21 (gB_l lq_cX12_fillOf (p := 15) (o := 21) rfl) (gB_l lq_cX12_fillOf (p := 16) (o := 6) rfl)
theorem dX12_fillOf_17 : decode cX12_fillOf 17 = .ok (.aload_n 0, 1) := dc_42 (gB_l lq_cX12_fillOf (p := 17) (o := 42) rfl)
theorem dX12_fillOf_18 : decode cX12_fillOf 18 = .ok (.iload_n 1, 1) := dc_27 (gB_l lq_cX12_fillOf (p := 18) (o := 27) rfl)
theorem dX12_fillOf_19 : decode cX12_fillOf 19 = .ok (.invokevirtual 63, 3) := dc_182 (gB_l lq_cX12_fillOf (p := 19) (o := 182) rfl) (gB_l lq_cX12_fillOf (p := 20) (o := 0) rfl) (gB_l lq_cX12_fillOf (p := 21) (o := 63) rfl) rfl
theorem dX12_fillOf_22 : decode cX12_fillOf 22 = .ok (.if_icmp .ge 55, 3) := dc_162 (gB_l lq_cX12_fillOf (p := 22) (o := 162) rfl) (gB_l lq_cX12_fillOf (p := 23) (o := 0) rfl) (gB_l lq_cX12_fillOf (p := 24) (o := 55) rfl) rfl
theorem dX12_fillOf_25 : decode cX12_fillOf 25 = .ok (.iload 5, 2) := dc_21 (gB_l lq_cX12_fillOf (p := 25) (o := 21) rfl) (gB_l lq_cX12_fillOf (p := 26) (o := 5) rfl)
theorem dX12_fillOf_27 : decode cX12_fillOf 27 = .ok (.iload 4, 2) := dc_21 (gB_l lq_cX12_fillOf (p := 27) (o := 21) rfl) (gB_l lq_cX12_fillOf (p := 28) (o := 4) rfl)
theorem dX12_fillOf_29 : decode cX12_fillOf 29 = .ok (.iload 6, 2) := dc_21 (gB_l lq_cX12_fillOf (p := 29) (o := 21) rfl) (gB_l lq_cX12_fillOf (p := 30) (o := 6) rfl)
theorem dX12_fillOf_31 : decode cX12_fillOf 31 = .ok (.invokestatic 166, 3) := dc_184 (gB_l lq_cX12_fillOf (p := 31) (o := 184) rfl) (gB_c lq_cX12_fillOf q1_cX12_fillOf 0 (o := 0) rfl) (gB_c lq_cX12_fillOf q1_cX12_fillOf 1 (o := 166) rfl) rfl
theorem dX12_fillOf_34 : decode cX12_fillOf 34 = .ok (.ifCond .eq 33, 3) := dc_153 (gB_c lq_cX12_fillOf q1_cX12_fillOf 2 (o := 153) rfl) (gB_c lq_cX12_fillOf q1_cX12_fillOf 3 (o := 0) rfl) (gB_c lq_cX12_fillOf q1_cX12_fillOf 4 (o := 33) rfl) rfl
theorem dX12_fillOf_37 : decode cX12_fillOf 37 = .ok (.iload 4, 2) := dc_21 (gB_c lq_cX12_fillOf q1_cX12_fillOf 5 (o := 21) rfl) (gB_c lq_cX12_fillOf q1_cX12_fillOf 6 (o := 4) rfl)
theorem dX12_fillOf_39 : decode cX12_fillOf 39 = .ok (.aload_n 0, 1) := dc_42 (gB_c lq_cX12_fillOf q1_cX12_fillOf 7 (o := 42) rfl)
theorem dX12_fillOf_40 : decode cX12_fillOf 40 = .ok (.iload_n 1, 1) := dc_27 (gB_c lq_cX12_fillOf q1_cX12_fillOf 8 (o := 27) rfl)
theorem dX12_fillOf_41 : decode cX12_fillOf 41 = .ok (.iload_n 2, 1) := dc_28 (gB_c lq_cX12_fillOf q1_cX12_fillOf 9 (o := 28) rfl)
theorem dX12_fillOf_42 : decode cX12_fillOf 42 = .ok (.iload 6, 2) := dc_21 (gB_c lq_cX12_fillOf q1_cX12_fillOf 10 (o := 21) rfl) (gB_c lq_cX12_fillOf q1_cX12_fillOf 11 (o := 6) rfl)
theorem dX12_fillOf_44 : decode cX12_fillOf 44 = .ok (.invokevirtual 223, 3) := dc_182 (gB_c lq_cX12_fillOf q1_cX12_fillOf 12 (o := 182) rfl) (gB_c lq_cX12_fillOf q1_cX12_fillOf 13 (o := 0) rfl) (gB_c lq_cX12_fillOf q1_cX12_fillOf 14 (o := 223) rfl) rfl
theorem dX12_fillOf_47 : decode cX12_fillOf 47 = .ok (.iconst (-1), 1) := dc_2 (gB_c lq_cX12_fillOf q1_cX12_fillOf 15 (o := 2) rfl)
theorem dX12_fillOf_48 : decode cX12_fillOf 48 = .ok (.ixor, 1) := dc_130 (gB_c lq_cX12_fillOf q1_cX12_fillOf 16 (o := 130) rfl)
theorem dX12_fillOf_49 : decode cX12_fillOf 49 = .ok (.iand, 1) := dc_126 (gB_c lq_cX12_fillOf q1_cX12_fillOf 17 (o := 126) rfl)
theorem dX12_fillOf_50 : decode cX12_fillOf 50 = .ok (.iconst 1, 1) := dc_4 (gB_c lq_cX12_fillOf q1_cX12_fillOf 18 (o := 4) rfl)
theorem dX12_fillOf_51 : decode cX12_fillOf 51 = .ok (.iload 6, 2) := dc_21 (gB_c lq_cX12_fillOf q1_cX12_fillOf 19 (o := 21) rfl) (gB_c lq_cX12_fillOf q1_cX12_fillOf 20 (o := 6) rfl)
theorem dX12_fillOf_53 : decode cX12_fillOf 53 = .ok (.iconst 1, 1) := dc_4 (gB_c lq_cX12_fillOf q1_cX12_fillOf 21 (o := 4) rfl)
theorem dX12_fillOf_54 : decode cX12_fillOf 54 = .ok (.iadd, 1) := dc_96 (gB_c lq_cX12_fillOf q1_cX12_fillOf 22 (o := 96) rfl)
theorem dX12_fillOf_55 : decode cX12_fillOf 55 = .ok (.ishl, 1) := dc_120 (gB_c lq_cX12_fillOf q1_cX12_fillOf 23 (o := 120) rfl)
theorem dX12_fillOf_56 : decode cX12_fillOf 56 = .ok (.iconst 1, 1) := dc_4 (gB_c lq_cX12_fillOf q1_cX12_fillOf 24 (o := 4) rfl)
theorem dX12_fillOf_57 : decode cX12_fillOf 57 = .ok (.isub, 1) := dc_100 (gB_c lq_cX12_fillOf q1_cX12_fillOf 25 (o := 100) rfl)
theorem dX12_fillOf_58 : decode cX12_fillOf 58 = .ok (.iconst (-1), 1) := dc_2 (gB_c lq_cX12_fillOf q1_cX12_fillOf 26 (o := 2) rfl)
theorem dX12_fillOf_59 : decode cX12_fillOf 59 = .ok (.ixor, 1) := dc_130 (gB_c lq_cX12_fillOf q1_cX12_fillOf 27 (o := 130) rfl)
theorem dX12_fillOf_60 : decode cX12_fillOf 60 = .ok (.iand, 1) := dc_126 (gB_c lq_cX12_fillOf q1_cX12_fillOf 28 (o := 126) rfl)
theorem dX12_fillOf_61 : decode cX12_fillOf 61 = .ok (.invokestatic 84, 3) := dc_184 (gB_c lq_cX12_fillOf q1_cX12_fillOf 29 (o := 184) rfl) (gB_c lq_cX12_fillOf q1_cX12_fillOf 30 (o := 0) rfl) (gB_c lq_cX12_fillOf q1_cX12_fillOf 31 (o := 84) rfl) rfl
theorem dX12_fillOf_64 : decode cX12_fillOf 64 = .ok (.goto 4, 3) := dc_167 (gB_c lq_cX12_fillOf q2_cX12_fillOf 0 (o := 167) rfl) (gB_c lq_cX12_fillOf q2_cX12_fillOf 1 (o := 0) rfl) (gB_c lq_cX12_fillOf q2_cX12_fillOf 2 (o := 4) rfl) rfl
theorem dX12_fillOf_67 : decode cX12_fillOf 67 = .ok (.iconst 0, 1) := dc_3 (gB_c lq_cX12_fillOf q2_cX12_fillOf 3 (o := 3) rfl)
theorem dX12_fillOf_68 : decode cX12_fillOf 68 = .ok (.iadd, 1) := dc_96 (gB_c lq_cX12_fillOf q2_cX12_fillOf 4 (o := 96) rfl)
theorem dX12_fillOf_69 : decode cX12_fillOf 69 = .ok (.istore 5, 2) := dc_54 (gB_c lq_cX12_fillOf q2_cX12_fillOf 5 (o := 54) rfl) (gB_c lq_cX12_fillOf q2_cX12_fillOf 6 (o := 5) rfl)
theorem dX12_fillOf_71 : decode cX12_fillOf 71 = .ok (.iinc 6 1, 3) := dc_132 (gB_c lq_cX12_fillOf q2_cX12_fillOf 7 (o := 132) rfl) (gB_c lq_cX12_fillOf q2_cX12_fillOf 8 (o := 6) rfl) (gB_c lq_cX12_fillOf q2_cX12_fillOf 9 (o := 1) rfl) rfl
theorem dX12_fillOf_74 : decode cX12_fillOf 74 = .ok (.goto (-59), 3) := dc_167 (gB_c lq_cX12_fillOf q2_cX12_fillOf 10 (o := 167) rfl) (gB_c lq_cX12_fillOf q2_cX12_fillOf 11 (o := 255) rfl) (gB_c lq_cX12_fillOf q2_cX12_fillOf 12 (o := 197) rfl) rfl
theorem dX12_fillOf_77 : decode cX12_fillOf 77 = .ok (.iload 5, 2) := dc_21 (gB_c lq_cX12_fillOf q2_cX12_fillOf 13 (o := 21) rfl) (gB_c lq_cX12_fillOf q2_cX12_fillOf 14 (o := 5) rfl)
theorem dX12_fillOf_79 : decode cX12_fillOf 79 = .ok (.ireturn, 1) := dc_172 (gB_c lq_cX12_fillOf q2_cX12_fillOf 15 (o := 172) rfl)
abbrev r5_cX12_filled : List Nat := [0, 7, 29, 167, 0, 4, 2, 172]
def a4_cX12_filled : List Nat := [10, 21, 7, 104, 21, 8, 96, 172, 132, 3, 1, 132, 8, 1, 167, 255, 189, 132, 7, 1, 167, 255, 167, 132, 4, 1, 167, 255, 123, 28, 2, 160]
abbrev r4_cX12_filled : List Nat := a4_cX12_filled ++ r5_cX12_filled
def a3_cX12_filled : List Nat := [6, 21, 8, 184, 0, 166, 153, 0, 37, 42, 27, 21, 5, 21, 7, 182, 0, 223, 21, 8, 184, 0, 166, 154, 0, 20, 29, 28, 160, 0, 12, 16]
abbrev r3_cX12_filled : List Nat := a3_cX12_filled ++ r4_cX12_filled
def a2_cX12_filled : List Nat := [0, 63, 162, 0, 85, 21, 7, 4, 96, 54, 8, 21, 8, 42, 27, 182, 0, 63, 162, 0, 63, 21, 6, 21, 7, 184, 0, 166, 153, 0, 47, 21]
abbrev r2_cX12_filled : List Nat := a2_cX12_filled ++ r3_cX12_filled
def a1_cX12_filled : List Nat := [27, 21, 4, 182, 1, 1, 54, 5, 42, 27, 21, 5, 42, 27, 21, 4, 182, 0, 217, 182, 0, 223, 54, 6, 3, 54, 7, 21, 7, 42, 27, 182]
abbrev r1_cX12_filled : List Nat := a1_cX12_filled ++ r2_cX12_filled
def a0_cX12_filled : List Nat := [42, 27, 182, 0, 67, 153, 0, 8, 28, 2, 162, 0, 6, 16, 254, 172, 3, 62, 3, 54, 4, 21, 4, 42, 27, 182, 0, 63, 162, 0, 129, 42]
abbrev r0_cX12_filled : List Nat := a0_cX12_filled ++ r1_cX12_filled
theorem lq_cX12_filled : (cX12_filled).data.toList.map UInt8.toNat = r0_cX12_filled := by decide +kernel
theorem q1_cX12_filled : ∀ i, (r0_cX12_filled)[32 + i]? = (r1_cX12_filled)[i]? := chn (A := a0_cX12_filled) (B := r1_cX12_filled) (n := 0) (k := 32) rfl (ch0 (R := r0_cX12_filled))
theorem q2_cX12_filled : ∀ i, (r0_cX12_filled)[64 + i]? = (r2_cX12_filled)[i]? := chn (A := a1_cX12_filled) (B := r2_cX12_filled) (n := 32) (k := 32) rfl q1_cX12_filled
theorem q3_cX12_filled : ∀ i, (r0_cX12_filled)[96 + i]? = (r3_cX12_filled)[i]? := chn (A := a2_cX12_filled) (B := r3_cX12_filled) (n := 64) (k := 32) rfl q2_cX12_filled
theorem q4_cX12_filled : ∀ i, (r0_cX12_filled)[128 + i]? = (r4_cX12_filled)[i]? := chn (A := a3_cX12_filled) (B := r4_cX12_filled) (n := 96) (k := 32) rfl q3_cX12_filled
theorem q5_cX12_filled : ∀ i, (r0_cX12_filled)[160 + i]? = (r5_cX12_filled)[i]? := chn (A := a4_cX12_filled) (B := r5_cX12_filled) (n := 128) (k := 32) rfl q4_cX12_filled
theorem dX12_filled_0 : decode cX12_filled 0 = .ok (.aload_n 0, 1) := dc_42 (gB_l lq_cX12_filled (p := 0) (o := 42) rfl)
theorem dX12_filled_1 : decode cX12_filled 1 = .ok (.iload_n 1, 1) := dc_27 (gB_l lq_cX12_filled (p := 1) (o := 27) rfl)
theorem dX12_filled_2 : decode cX12_filled 2 = .ok (.invokevirtual 67, 3) := dc_182 (gB_l lq_cX12_filled (p := 2) (o := 182) rfl) (gB_l lq_cX12_filled (p := 3) (o := 0) rfl) (gB_l lq_cX12_filled (p := 4) (o := 67) rfl) rfl
theorem dX12_filled_5 : decode cX12_filled 5 = .ok (.ifCond .eq 8, 3) := dc_153 (gB_l lq_cX12_filled (p := 5) (o := 153) rfl) (gB_l lq_cX12_filled (p := 6) (o := 0) rfl) (gB_l lq_cX12_filled (p := 7) (o := 8) rfl) rfl
theorem dX12_filled_8 : decode cX12_filled 8 = .ok (.iload_n 2, 1) := dc_28 (gB_l lq_cX12_filled (p := 8) (o := 28) rfl)
theorem dX12_filled_9 : decode cX12_filled 9 = .ok (.iconst (-1), 1) := dc_2 (gB_l lq_cX12_filled (p := 9) (o := 2) rfl)
theorem dX12_filled_10 : decode cX12_filled 10 = .ok (.if_icmp .ge 6, 3) := dc_162 (gB_l lq_cX12_filled (p := 10) (o := 162) rfl) (gB_l lq_cX12_filled (p := 11) (o := 0) rfl) (gB_l lq_cX12_filled (p := 12) (o := 6) rfl) rfl
theorem dX12_filled_13 : decode cX12_filled 13 = .ok (.bipush (-2), 2) := dc_16 (gB_l lq_cX12_filled (p := 13) (o := 16) rfl) (gB_l lq_cX12_filled (p := 14) (o := 254) rfl) rfl
theorem dX12_filled_15 : decode cX12_filled 15 = .ok (.ireturn, 1) := dc_172 (gB_l lq_cX12_filled (p := 15) (o := 172) rfl)
theorem dX12_filled_16 : decode cX12_filled 16 = .ok (.iconst 0, 1) := dc_3 (gB_l lq_cX12_filled (p := 16) (o := 3) rfl)
theorem dX12_filled_17 : decode cX12_filled 17 = .ok (.istore_n 3, 1) := dc_62 (gB_l lq_cX12_filled (p := 17) (o := 62) rfl)
theorem dX12_filled_18 : decode cX12_filled 18 = .ok (.iconst 0, 1) := dc_3 (gB_l lq_cX12_filled (p := 18) (o := 3) rfl)
theorem dX12_filled_19 : decode cX12_filled 19 = .ok (.istore 4, 2) := dc_54 (gB_l lq_cX12_filled (p := 19) (o := 54) rfl) (gB_l lq_cX12_filled (p := 20) (o := 4) rfl)
theorem dX12_filled_21 : decode cX12_filled 21 = .ok (.iload 4, 2) := dc_21 (gB_l lq_cX12_filled (p := 21) (o := 21) rfl) (gB_l lq_cX12_filled (p := 22) (o := 4) rfl)
theorem dX12_filled_23 : decode cX12_filled 23 = .ok (.aload_n 0, 1) := dc_42 (gB_l lq_cX12_filled (p := 23) (o := 42) rfl)
theorem dX12_filled_24 : decode cX12_filled 24 = .ok (.iload_n 1, 1) := dc_27 (gB_l lq_cX12_filled (p := 24) (o := 27) rfl)
theorem dX12_filled_25 : decode cX12_filled 25 = .ok (.invokevirtual 63, 3) := dc_182 (gB_l lq_cX12_filled (p := 25) (o := 182) rfl) (gB_l lq_cX12_filled (p := 26) (o := 0) rfl) (gB_l lq_cX12_filled (p := 27) (o := 63) rfl) rfl
theorem dX12_filled_28 : decode cX12_filled 28 = .ok (.if_icmp .ge 129, 3) := dc_162 (gB_l lq_cX12_filled (p := 28) (o := 162) rfl) (gB_l lq_cX12_filled (p := 29) (o := 0) rfl) (gB_l lq_cX12_filled (p := 30) (o := 129) rfl) rfl
theorem dX12_filled_31 : decode cX12_filled 31 = .ok (.aload_n 0, 1) := dc_42 (gB_l lq_cX12_filled (p := 31) (o := 42) rfl)
theorem dX12_filled_32 : decode cX12_filled 32 = .ok (.iload_n 1, 1) := dc_27 (gB_c lq_cX12_filled q1_cX12_filled 0 (o := 27) rfl)
theorem dX12_filled_33 : decode cX12_filled 33 = .ok (.iload 4, 2) := dc_21 (gB_c lq_cX12_filled q1_cX12_filled 1 (o := 21) rfl) (gB_c lq_cX12_filled q1_cX12_filled 2 (o := 4) rfl)
theorem dX12_filled_35 : decode cX12_filled 35 = .ok (.invokevirtual 257, 3) := dc_182 (gB_c lq_cX12_filled q1_cX12_filled 3 (o := 182) rfl) (gB_c lq_cX12_filled q1_cX12_filled 4 (o := 1) rfl) (gB_c lq_cX12_filled q1_cX12_filled 5 (o := 1) rfl) rfl
theorem dX12_filled_38 : decode cX12_filled 38 = .ok (.istore 5, 2) := dc_54 (gB_c lq_cX12_filled q1_cX12_filled 6 (o := 54) rfl) (gB_c lq_cX12_filled q1_cX12_filled 7 (o := 5) rfl)
theorem dX12_filled_40 : decode cX12_filled 40 = .ok (.aload_n 0, 1) := dc_42 (gB_c lq_cX12_filled q1_cX12_filled 8 (o := 42) rfl)
theorem dX12_filled_41 : decode cX12_filled 41 = .ok (.iload_n 1, 1) := dc_27 (gB_c lq_cX12_filled q1_cX12_filled 9 (o := 27) rfl)
theorem dX12_filled_42 : decode cX12_filled 42 = .ok (.iload 5, 2) := dc_21 (gB_c lq_cX12_filled q1_cX12_filled 10 (o := 21) rfl) (gB_c lq_cX12_filled q1_cX12_filled 11 (o := 5) rfl)
theorem dX12_filled_44 : decode cX12_filled 44 = .ok (.aload_n 0, 1) := dc_42 (gB_c lq_cX12_filled q1_cX12_filled 12 (o := 42) rfl)
theorem dX12_filled_45 : decode cX12_filled 45 = .ok (.iload_n 1, 1) := dc_27 (gB_c lq_cX12_filled q1_cX12_filled 13 (o := 27) rfl)
theorem dX12_filled_46 : decode cX12_filled 46 = .ok (.iload 4, 2) := dc_21 (gB_c lq_cX12_filled q1_cX12_filled 14 (o := 21) rfl) (gB_c lq_cX12_filled q1_cX12_filled 15 (o := 4) rfl)
theorem dX12_filled_48 : decode cX12_filled 48 = .ok (.invokevirtual 217, 3) := dc_182 (gB_c lq_cX12_filled q1_cX12_filled 16 (o := 182) rfl) (gB_c lq_cX12_filled q1_cX12_filled 17 (o := 0) rfl) (gB_c lq_cX12_filled q1_cX12_filled 18 (o := 217) rfl) rfl
theorem dX12_filled_51 : decode cX12_filled 51 = .ok (.invokevirtual 223, 3) := dc_182 (gB_c lq_cX12_filled q1_cX12_filled 19 (o := 182) rfl) (gB_c lq_cX12_filled q1_cX12_filled 20 (o := 0) rfl) (gB_c lq_cX12_filled q1_cX12_filled 21 (o := 223) rfl) rfl
theorem dX12_filled_54 : decode cX12_filled 54 = .ok (.istore 6, 2) := dc_54 (gB_c lq_cX12_filled q1_cX12_filled 22 (o := 54) rfl) (gB_c lq_cX12_filled q1_cX12_filled 23 (o := 6) rfl)
theorem dX12_filled_56 : decode cX12_filled 56 = .ok (.iconst 0, 1) := dc_3 (gB_c lq_cX12_filled q1_cX12_filled 24 (o := 3) rfl)
theorem dX12_filled_57 : decode cX12_filled 57 = .ok (.istore 7, 2) := dc_54 (gB_c lq_cX12_filled q1_cX12_filled 25 (o := 54) rfl) (gB_c lq_cX12_filled q1_cX12_filled 26 (o := 7) rfl)
theorem dX12_filled_59 : decode cX12_filled 59 = .ok (.iload 7, 2) := dc_21 (gB_c lq_cX12_filled q1_cX12_filled 27 (o := 21) rfl) (gB_c lq_cX12_filled q1_cX12_filled 28 (o := 7) rfl)
theorem dX12_filled_61 : decode cX12_filled 61 = .ok (.aload_n 0, 1) := dc_42 (gB_c lq_cX12_filled q1_cX12_filled 29 (o := 42) rfl)
theorem dX12_filled_62 : decode cX12_filled 62 = .ok (.iload_n 1, 1) := dc_27 (gB_c lq_cX12_filled q1_cX12_filled 30 (o := 27) rfl)
theorem dX12_filled_63 : decode cX12_filled 63 = .ok (.invokevirtual 63, 3) := dc_182 (gB_c lq_cX12_filled q1_cX12_filled 31 (o := 182) rfl) (gB_c lq_cX12_filled q2_cX12_filled 0 (o := 0) rfl) (gB_c lq_cX12_filled q2_cX12_filled 1 (o := 63) rfl) rfl
theorem dX12_filled_66 : decode cX12_filled 66 = .ok (.if_icmp .ge 85, 3) := dc_162 (gB_c lq_cX12_filled q2_cX12_filled 2 (o := 162) rfl) (gB_c lq_cX12_filled q2_cX12_filled 3 (o := 0) rfl) (gB_c lq_cX12_filled q2_cX12_filled 4 (o := 85) rfl) rfl
theorem dX12_filled_69 : decode cX12_filled 69 = .ok (.iload 7, 2) := dc_21 (gB_c lq_cX12_filled q2_cX12_filled 5 (o := 21) rfl) (gB_c lq_cX12_filled q2_cX12_filled 6 (o := 7) rfl)
theorem dX12_filled_71 : decode cX12_filled 71 = .ok (.iconst 1, 1) := dc_4 (gB_c lq_cX12_filled q2_cX12_filled 7 (o := 4) rfl)
theorem dX12_filled_72 : decode cX12_filled 72 = .ok (.iadd, 1) := dc_96 (gB_c lq_cX12_filled q2_cX12_filled 8 (o := 96) rfl)
theorem dX12_filled_73 : decode cX12_filled 73 = .ok (.istore 8, 2) := dc_54 (gB_c lq_cX12_filled q2_cX12_filled 9 (o := 54) rfl) (gB_c lq_cX12_filled q2_cX12_filled 10 (o := 8) rfl)
theorem dX12_filled_75 : decode cX12_filled 75 = .ok (.iload 8, 2) := dc_21 (gB_c lq_cX12_filled q2_cX12_filled 11 (o := 21) rfl) (gB_c lq_cX12_filled q2_cX12_filled 12 (o := 8) rfl)
theorem dX12_filled_77 : decode cX12_filled 77 = .ok (.aload_n 0, 1) := dc_42 (gB_c lq_cX12_filled q2_cX12_filled 13 (o := 42) rfl)
theorem dX12_filled_78 : decode cX12_filled 78 = .ok (.iload_n 1, 1) := dc_27 (gB_c lq_cX12_filled q2_cX12_filled 14 (o := 27) rfl)
theorem dX12_filled_79 : decode cX12_filled 79 = .ok (.invokevirtual 63, 3) := dc_182 (gB_c lq_cX12_filled q2_cX12_filled 15 (o := 182) rfl) (gB_c lq_cX12_filled q2_cX12_filled 16 (o := 0) rfl) (gB_c lq_cX12_filled q2_cX12_filled 17 (o := 63) rfl) rfl
theorem dX12_filled_82 : decode cX12_filled 82 = .ok (.if_icmp .ge 63, 3) := dc_162 (gB_c lq_cX12_filled q2_cX12_filled 18 (o := 162) rfl) (gB_c lq_cX12_filled q2_cX12_filled 19 (o := 0) rfl) (gB_c lq_cX12_filled q2_cX12_filled 20 (o := 63) rfl) rfl
theorem dX12_filled_85 : decode cX12_filled 85 = .ok (.iload 6, 2) := dc_21 (gB_c lq_cX12_filled q2_cX12_filled 21 (o := 21) rfl) (gB_c lq_cX12_filled q2_cX12_filled 22 (o := 6) rfl)
theorem dX12_filled_87 : decode cX12_filled 87 = .ok (.iload 7, 2) := dc_21 (gB_c lq_cX12_filled q2_cX12_filled 23 (o := 21) rfl) (gB_c lq_cX12_filled q2_cX12_filled 24 (o := 7) rfl)
theorem dX12_filled_89 : decode cX12_filled 89 = .ok (.invokestatic 166, 3) := dc_184 (gB_c lq_cX12_filled q2_cX12_filled 25 (o := 184) rfl) (gB_c lq_cX12_filled q2_cX12_filled 26 (o := 0) rfl) (gB_c lq_cX12_filled q2_cX12_filled 27 (o := 166) rfl) rfl
theorem dX12_filled_92 : decode cX12_filled 92 = .ok (.ifCond .eq 47, 3) := dc_153 (gB_c lq_cX12_filled q2_cX12_filled 28 (o := 153) rfl) (gB_c lq_cX12_filled q2_cX12_filled 29 (o := 0) rfl) (gB_c lq_cX12_filled q2_cX12_filled 30 (o := 47) rfl) rfl
theorem dX12_filled_95 : decode cX12_filled 95 = .ok (.iload 6, 2) := dc_21 (gB_c lq_cX12_filled q2_cX12_filled 31 (o := 21) rfl) (gB_c lq_cX12_filled q3_cX12_filled 0 (o := 6) rfl)
theorem dX12_filled_97 : decode cX12_filled 97 = .ok (.iload 8, 2) := dc_21 (gB_c lq_cX12_filled q3_cX12_filled 1 (o := 21) rfl) (gB_c lq_cX12_filled q3_cX12_filled 2 (o := 8) rfl)
theorem dX12_filled_99 : decode cX12_filled 99 = .ok (.invokestatic 166, 3) := dc_184 (gB_c lq_cX12_filled q3_cX12_filled 3 (o := 184) rfl) (gB_c lq_cX12_filled q3_cX12_filled 4 (o := 0) rfl) (gB_c lq_cX12_filled q3_cX12_filled 5 (o := 166) rfl) rfl
theorem dX12_filled_102 : decode cX12_filled 102 = .ok (.ifCond .eq 37, 3) := dc_153 (gB_c lq_cX12_filled q3_cX12_filled 6 (o := 153) rfl) (gB_c lq_cX12_filled q3_cX12_filled 7 (o := 0) rfl) (gB_c lq_cX12_filled q3_cX12_filled 8 (o := 37) rfl) rfl
theorem dX12_filled_105 : decode cX12_filled 105 = .ok (.aload_n 0, 1) := dc_42 (gB_c lq_cX12_filled q3_cX12_filled 9 (o := 42) rfl)
theorem dX12_filled_106 : decode cX12_filled 106 = .ok (.iload_n 1, 1) := dc_27 (gB_c lq_cX12_filled q3_cX12_filled 10 (o := 27) rfl)
theorem dX12_filled_107 : decode cX12_filled 107 = .ok (.iload 5, 2) := dc_21 (gB_c lq_cX12_filled q3_cX12_filled 11 (o := 21) rfl) (gB_c lq_cX12_filled q3_cX12_filled 12 (o := 5) rfl)
theorem dX12_filled_109 : decode cX12_filled 109 = .ok (.iload 7, 2) := dc_21 (gB_c lq_cX12_filled q3_cX12_filled 13 (o := 21) rfl) (gB_c lq_cX12_filled q3_cX12_filled 14 (o := 7) rfl)
theorem dX12_filled_111 : decode cX12_filled 111 = .ok (.invokevirtual 223, 3) := dc_182 (gB_c lq_cX12_filled q3_cX12_filled 15 (o := 182) rfl) (gB_c lq_cX12_filled q3_cX12_filled 16 (o := 0) rfl) (gB_c lq_cX12_filled q3_cX12_filled 17 (o := 223) rfl) rfl
theorem dX12_filled_114 : decode cX12_filled 114 = .ok (.iload 8, 2) := dc_21 (gB_c lq_cX12_filled q3_cX12_filled 18 (o := 21) rfl) (gB_c lq_cX12_filled q3_cX12_filled 19 (o := 8) rfl)
theorem dX12_filled_116 : decode cX12_filled 116 = .ok (.invokestatic 166, 3) := dc_184 (gB_c lq_cX12_filled q3_cX12_filled 20 (o := 184) rfl) (gB_c lq_cX12_filled q3_cX12_filled 21 (o := 0) rfl) (gB_c lq_cX12_filled q3_cX12_filled 22 (o := 166) rfl) rfl
theorem dX12_filled_119 : decode cX12_filled 119 = .ok (.ifCond .ne 20, 3) := dc_154 (gB_c lq_cX12_filled q3_cX12_filled 23 (o := 154) rfl) (gB_c lq_cX12_filled q3_cX12_filled 24 (o := 0) rfl) (gB_c lq_cX12_filled q3_cX12_filled 25 (o := 20) rfl) rfl
theorem dX12_filled_122 : decode cX12_filled 122 = .ok (.iload_n 3, 1) := dc_29 (gB_c lq_cX12_filled q3_cX12_filled 26 (o := 29) rfl)
theorem dX12_filled_123 : decode cX12_filled 123 = .ok (.iload_n 2, 1) := dc_28 (gB_c lq_cX12_filled q3_cX12_filled 27 (o := 28) rfl)
theorem dX12_filled_124 : decode cX12_filled 124 = .ok (.if_icmp .ne 12, 3) := dc_160 (gB_c lq_cX12_filled q3_cX12_filled 28 (o := 160) rfl) (gB_c lq_cX12_filled q3_cX12_filled 29 (o := 0) rfl) (gB_c lq_cX12_filled q3_cX12_filled 30 (o := 12) rfl) rfl
theorem dX12_filled_127 : decode cX12_filled 127 = .ok (.bipush 10, 2) := dc_16 (gB_c lq_cX12_filled q3_cX12_filled 31 (o := 16) rfl) (gB_c lq_cX12_filled q4_cX12_filled 0 (o := 10) rfl) rfl
theorem dX12_filled_129 : decode cX12_filled 129 = .ok (.iload 7, 2) := dc_21 (gB_c lq_cX12_filled q4_cX12_filled 1 (o := 21) rfl) (gB_c lq_cX12_filled q4_cX12_filled 2 (o := 7) rfl)
theorem dX12_filled_131 : decode cX12_filled 131 = .ok (.imul, 1) := dc_104 (gB_c lq_cX12_filled q4_cX12_filled 3 (o := 104) rfl)
theorem dX12_filled_132 : decode cX12_filled 132 = .ok (.iload 8, 2) := dc_21 (gB_c lq_cX12_filled q4_cX12_filled 4 (o := 21) rfl) (gB_c lq_cX12_filled q4_cX12_filled 5 (o := 8) rfl)
theorem dX12_filled_134 : decode cX12_filled 134 = .ok (.iadd, 1) := dc_96 (gB_c lq_cX12_filled q4_cX12_filled 6 (o := 96) rfl)
theorem dX12_filled_135 : decode cX12_filled 135 = .ok (.ireturn, 1) := dc_172 (gB_c lq_cX12_filled q4_cX12_filled 7 (o := 172) rfl)
theorem dX12_filled_136 : decode cX12_filled 136 = .ok (.iinc 3 1, 3) := dc_132 (gB_c lq_cX12_filled q4_cX12_filled 8 (o := 132) rfl) (gB_c lq_cX12_filled q4_cX12_filled 9 (o := 3) rfl) (gB_c lq_cX12_filled q4_cX12_filled 10 (o := 1) rfl) rfl
theorem dX12_filled_139 : decode cX12_filled 139 = .ok (.iinc 8 1, 3) := dc_132 (gB_c lq_cX12_filled q4_cX12_filled 11 (o := 132) rfl) (gB_c lq_cX12_filled q4_cX12_filled 12 (o := 8) rfl) (gB_c lq_cX12_filled q4_cX12_filled 13 (o := 1) rfl) rfl
theorem dX12_filled_142 : decode cX12_filled 142 = .ok (.goto (-67), 3) := dc_167 (gB_c lq_cX12_filled q4_cX12_filled 14 (o := 167) rfl) (gB_c lq_cX12_filled q4_cX12_filled 15 (o := 255) rfl) (gB_c lq_cX12_filled q4_cX12_filled 16 (o := 189) rfl) rfl
theorem dX12_filled_145 : decode cX12_filled 145 = .ok (.iinc 7 1, 3) := dc_132 (gB_c lq_cX12_filled q4_cX12_filled 17 (o := 132) rfl) (gB_c lq_cX12_filled q4_cX12_filled 18 (o := 7) rfl) (gB_c lq_cX12_filled q4_cX12_filled 19 (o := 1) rfl) rfl
theorem dX12_filled_148 : decode cX12_filled 148 = .ok (.goto (-89), 3) := dc_167 (gB_c lq_cX12_filled q4_cX12_filled 20 (o := 167) rfl) (gB_c lq_cX12_filled q4_cX12_filled 21 (o := 255) rfl) (gB_c lq_cX12_filled q4_cX12_filled 22 (o := 167) rfl) rfl
theorem dX12_filled_151 : decode cX12_filled 151 = .ok (.iinc 4 1, 3) := dc_132 (gB_c lq_cX12_filled q4_cX12_filled 23 (o := 132) rfl) (gB_c lq_cX12_filled q4_cX12_filled 24 (o := 4) rfl) (gB_c lq_cX12_filled q4_cX12_filled 25 (o := 1) rfl) rfl
theorem dX12_filled_154 : decode cX12_filled 154 = .ok (.goto (-133), 3) := dc_167 (gB_c lq_cX12_filled q4_cX12_filled 26 (o := 167) rfl) (gB_c lq_cX12_filled q4_cX12_filled 27 (o := 255) rfl) (gB_c lq_cX12_filled q4_cX12_filled 28 (o := 123) rfl) rfl
theorem dX12_filled_157 : decode cX12_filled 157 = .ok (.iload_n 2, 1) := dc_28 (gB_c lq_cX12_filled q4_cX12_filled 29 (o := 28) rfl)
theorem dX12_filled_158 : decode cX12_filled 158 = .ok (.iconst (-1), 1) := dc_2 (gB_c lq_cX12_filled q4_cX12_filled 30 (o := 2) rfl)
theorem dX12_filled_159 : decode cX12_filled 159 = .ok (.if_icmp .ne 7, 3) := dc_160 (gB_c lq_cX12_filled q4_cX12_filled 31 (o := 160) rfl) (gB_c lq_cX12_filled q5_cX12_filled 0 (o := 0) rfl) (gB_c lq_cX12_filled q5_cX12_filled 1 (o := 7) rfl) rfl
theorem dX12_filled_162 : decode cX12_filled 162 = .ok (.iload_n 3, 1) := dc_29 (gB_c lq_cX12_filled q5_cX12_filled 2 (o := 29) rfl)
theorem dX12_filled_163 : decode cX12_filled 163 = .ok (.goto 4, 3) := dc_167 (gB_c lq_cX12_filled q5_cX12_filled 3 (o := 167) rfl) (gB_c lq_cX12_filled q5_cX12_filled 4 (o := 0) rfl) (gB_c lq_cX12_filled q5_cX12_filled 5 (o := 4) rfl) rfl
theorem dX12_filled_166 : decode cX12_filled 166 = .ok (.iconst (-1), 1) := dc_2 (gB_c lq_cX12_filled q5_cX12_filled 6 (o := 2) rfl)
theorem dX12_filled_167 : decode cX12_filled 167 = .ok (.ireturn, 1) := dc_172 (gB_c lq_cX12_filled q5_cX12_filled 7 (o := 172) rfl)
abbrev r2_cX12_firsts : List Nat := [3, 21, 4, 3, 182, 1, 41, 153, 0, 10, 4, 21, 4, 120, 167, 0, 4, 3, 128, 62, 132, 4, 1, 167, 255, 220, 29, 172]
def a1_cX12_firsts : List Nat := [1, 37, 62, 42, 180, 1, 30, 172, 42, 27, 28, 182, 1, 24, 3, 62, 3, 54, 4, 21, 4, 42, 27, 182, 0, 63, 162, 0, 32, 29, 42, 28]
abbrev r1_cX12_firsts : List Nat := a1_cX12_firsts ++ r2_cX12_firsts
def a0_cX12_firsts : List Nat := [42, 27, 182, 0, 67, 153, 0, 10, 28, 184, 0, 245, 154, 0, 6, 16, 254, 172, 28, 5, 160, 0, 20, 42, 27, 42, 27, 182, 1, 21, 3, 182]
abbrev r0_cX12_firsts : List Nat := a0_cX12_firsts ++ r1_cX12_firsts
theorem lq_cX12_firsts : (cX12_firsts).data.toList.map UInt8.toNat = r0_cX12_firsts := by decide +kernel
theorem q1_cX12_firsts : ∀ i, (r0_cX12_firsts)[32 + i]? = (r1_cX12_firsts)[i]? := chn (A := a0_cX12_firsts) (B := r1_cX12_firsts) (n := 0) (k := 32) rfl (ch0 (R := r0_cX12_firsts))
theorem q2_cX12_firsts : ∀ i, (r0_cX12_firsts)[64 + i]? = (r2_cX12_firsts)[i]? := chn (A := a1_cX12_firsts) (B := r2_cX12_firsts) (n := 32) (k := 32) rfl q1_cX12_firsts
theorem dX12_firsts_0 : decode cX12_firsts 0 = .ok (.aload_n 0, 1) := dc_42 (gB_l lq_cX12_firsts (p := 0) (o := 42) rfl)
theorem dX12_firsts_1 : decode cX12_firsts 1 = .ok (.iload_n 1, 1) := dc_27 (gB_l lq_cX12_firsts (p := 1) (o := 27) rfl)
theorem dX12_firsts_2 : decode cX12_firsts 2 = .ok (.invokevirtual 67, 3) := dc_182 (gB_l lq_cX12_firsts (p := 2) (o := 182) rfl) (gB_l lq_cX12_firsts (p := 3) (o := 0) rfl) (gB_l lq_cX12_firsts (p := 4) (o := 67) rfl) rfl
theorem dX12_firsts_5 : decode cX12_firsts 5 = .ok (.ifCond .eq 10, 3) := dc_153 (gB_l lq_cX12_firsts (p := 5) (o := 153) rfl) (gB_l lq_cX12_firsts (p := 6) (o := 0) rfl) (gB_l lq_cX12_firsts (p := 7) (o := 10) rfl) rfl
theorem dX12_firsts_8 : decode cX12_firsts 8 = .ok (.iload_n 2, 1) := dc_28 (gB_l lq_cX12_firsts (p := 8) (o := 28) rfl)
theorem dX12_firsts_9 : decode cX12_firsts 9 = .ok (.invokestatic 245, 3) := dc_184 (gB_l lq_cX12_firsts (p := 9) (o := 184) rfl) (gB_l lq_cX12_firsts (p := 10) (o := 0) rfl) (gB_l lq_cX12_firsts (p := 11) (o := 245) rfl) rfl
theorem dX12_firsts_12 : decode cX12_firsts 12 = .ok (.ifCond .ne 6, 3) := dc_154 (gB_l lq_cX12_firsts (p := 12) (o := 154) rfl) (gB_l lq_cX12_firsts (p := 13) (o := 0) rfl) (gB_l lq_cX12_firsts (p := 14) (o := 6) rfl) rfl
theorem dX12_firsts_15 : decode cX12_firsts 15 = .ok (.bipush (-2), 2) := dc_16 (gB_l lq_cX12_firsts (p := 15) (o := 16) rfl) (gB_l lq_cX12_firsts (p := 16) (o := 254) rfl) rfl
theorem dX12_firsts_17 : decode cX12_firsts 17 = .ok (.ireturn, 1) := dc_172 (gB_l lq_cX12_firsts (p := 17) (o := 172) rfl)
theorem dX12_firsts_18 : decode cX12_firsts 18 = .ok (.iload_n 2, 1) := dc_28 (gB_l lq_cX12_firsts (p := 18) (o := 28) rfl)
theorem dX12_firsts_19 : decode cX12_firsts 19 = .ok (.iconst 2, 1) := dc_5 (gB_l lq_cX12_firsts (p := 19) (o := 5) rfl)
theorem dX12_firsts_20 : decode cX12_firsts 20 = .ok (.if_icmp .ne 20, 3) := dc_160 (gB_l lq_cX12_firsts (p := 20) (o := 160) rfl) (gB_l lq_cX12_firsts (p := 21) (o := 0) rfl) (gB_l lq_cX12_firsts (p := 22) (o := 20) rfl) rfl
theorem dX12_firsts_23 : decode cX12_firsts 23 = .ok (.aload_n 0, 1) := dc_42 (gB_l lq_cX12_firsts (p := 23) (o := 42) rfl)
theorem dX12_firsts_24 : decode cX12_firsts 24 = .ok (.iload_n 1, 1) := dc_27 (gB_l lq_cX12_firsts (p := 24) (o := 27) rfl)
theorem dX12_firsts_25 : decode cX12_firsts 25 = .ok (.aload_n 0, 1) := dc_42 (gB_l lq_cX12_firsts (p := 25) (o := 42) rfl)
theorem dX12_firsts_26 : decode cX12_firsts 26 = .ok (.iload_n 1, 1) := dc_27 (gB_l lq_cX12_firsts (p := 26) (o := 27) rfl)
theorem dX12_firsts_27 : decode cX12_firsts 27 = .ok (.invokevirtual 277, 3) := dc_182 (gB_l lq_cX12_firsts (p := 27) (o := 182) rfl) (gB_l lq_cX12_firsts (p := 28) (o := 1) rfl) (gB_l lq_cX12_firsts (p := 29) (o := 21) rfl) rfl
theorem dX12_firsts_30 : decode cX12_firsts 30 = .ok (.iconst 0, 1) := dc_3 (gB_l lq_cX12_firsts (p := 30) (o := 3) rfl)
theorem dX12_firsts_31 : decode cX12_firsts 31 = .ok (.invokevirtual 293, 3) := dc_182 (gB_l lq_cX12_firsts (p := 31) (o := 182) rfl) (gB_c lq_cX12_firsts q1_cX12_firsts 0 (o := 1) rfl) (gB_c lq_cX12_firsts q1_cX12_firsts 1 (o := 37) rfl) rfl
theorem dX12_firsts_34 : decode cX12_firsts 34 = .ok (.istore_n 3, 1) := dc_62 (gB_c lq_cX12_firsts q1_cX12_firsts 2 (o := 62) rfl)
theorem dX12_firsts_35 : decode cX12_firsts 35 = .ok (.aload_n 0, 1) := dc_42 (gB_c lq_cX12_firsts q1_cX12_firsts 3 (o := 42) rfl)
theorem dX12_firsts_36 : decode cX12_firsts 36 = .ok (.getfield 286, 3) := dc_180 (gB_c lq_cX12_firsts q1_cX12_firsts 4 (o := 180) rfl) (gB_c lq_cX12_firsts q1_cX12_firsts 5 (o := 1) rfl) (gB_c lq_cX12_firsts q1_cX12_firsts 6 (o := 30) rfl) rfl
theorem dX12_firsts_39 : decode cX12_firsts 39 = .ok (.ireturn, 1) := dc_172 (gB_c lq_cX12_firsts q1_cX12_firsts 7 (o := 172) rfl)
theorem dX12_firsts_40 : decode cX12_firsts 40 = .ok (.aload_n 0, 1) := dc_42 (gB_c lq_cX12_firsts q1_cX12_firsts 8 (o := 42) rfl)
theorem dX12_firsts_41 : decode cX12_firsts 41 = .ok (.iload_n 1, 1) := dc_27 (gB_c lq_cX12_firsts q1_cX12_firsts 9 (o := 27) rfl)
theorem dX12_firsts_42 : decode cX12_firsts 42 = .ok (.iload_n 2, 1) := dc_28 (gB_c lq_cX12_firsts q1_cX12_firsts 10 (o := 28) rfl)
theorem dX12_firsts_43 : decode cX12_firsts 43 = .ok (.invokevirtual 280, 3) := dc_182 (gB_c lq_cX12_firsts q1_cX12_firsts 11 (o := 182) rfl) (gB_c lq_cX12_firsts q1_cX12_firsts 12 (o := 1) rfl) (gB_c lq_cX12_firsts q1_cX12_firsts 13 (o := 24) rfl) rfl
theorem dX12_firsts_46 : decode cX12_firsts 46 = .ok (.iconst 0, 1) := dc_3 (gB_c lq_cX12_firsts q1_cX12_firsts 14 (o := 3) rfl)
theorem dX12_firsts_47 : decode cX12_firsts 47 = .ok (.istore_n 3, 1) := dc_62 (gB_c lq_cX12_firsts q1_cX12_firsts 15 (o := 62) rfl)
theorem dX12_firsts_48 : decode cX12_firsts 48 = .ok (.iconst 0, 1) := dc_3 (gB_c lq_cX12_firsts q1_cX12_firsts 16 (o := 3) rfl)
theorem dX12_firsts_49 : decode cX12_firsts 49 = .ok (.istore 4, 2) := dc_54 (gB_c lq_cX12_firsts q1_cX12_firsts 17 (o := 54) rfl) (gB_c lq_cX12_firsts q1_cX12_firsts 18 (o := 4) rfl)
theorem dX12_firsts_51 : decode cX12_firsts 51 = .ok (.iload 4, 2) := dc_21 (gB_c lq_cX12_firsts q1_cX12_firsts 19 (o := 21) rfl) (gB_c lq_cX12_firsts q1_cX12_firsts 20 (o := 4) rfl)
theorem dX12_firsts_53 : decode cX12_firsts 53 = .ok (.aload_n 0, 1) := dc_42 (gB_c lq_cX12_firsts q1_cX12_firsts 21 (o := 42) rfl)
theorem dX12_firsts_54 : decode cX12_firsts 54 = .ok (.iload_n 1, 1) := dc_27 (gB_c lq_cX12_firsts q1_cX12_firsts 22 (o := 27) rfl)
theorem dX12_firsts_55 : decode cX12_firsts 55 = .ok (.invokevirtual 63, 3) := dc_182 (gB_c lq_cX12_firsts q1_cX12_firsts 23 (o := 182) rfl) (gB_c lq_cX12_firsts q1_cX12_firsts 24 (o := 0) rfl) (gB_c lq_cX12_firsts q1_cX12_firsts 25 (o := 63) rfl) rfl
theorem dX12_firsts_58 : decode cX12_firsts 58 = .ok (.if_icmp .ge 32, 3) := dc_162 (gB_c lq_cX12_firsts q1_cX12_firsts 26 (o := 162) rfl) (gB_c lq_cX12_firsts q1_cX12_firsts 27 (o := 0) rfl) (gB_c lq_cX12_firsts q1_cX12_firsts 28 (o := 32) rfl) rfl
theorem dX12_firsts_61 : decode cX12_firsts 61 = .ok (.iload_n 3, 1) := dc_29 (gB_c lq_cX12_firsts q1_cX12_firsts 29 (o := 29) rfl)
theorem dX12_firsts_62 : decode cX12_firsts 62 = .ok (.aload_n 0, 1) := dc_42 (gB_c lq_cX12_firsts q1_cX12_firsts 30 (o := 42) rfl)
theorem dX12_firsts_63 : decode cX12_firsts 63 = .ok (.iload_n 2, 1) := dc_28 (gB_c lq_cX12_firsts q1_cX12_firsts 31 (o := 28) rfl)
theorem dX12_firsts_64 : decode cX12_firsts 64 = .ok (.iconst 0, 1) := dc_3 (gB_c lq_cX12_firsts q2_cX12_firsts 0 (o := 3) rfl)
theorem dX12_firsts_65 : decode cX12_firsts 65 = .ok (.iload 4, 2) := dc_21 (gB_c lq_cX12_firsts q2_cX12_firsts 1 (o := 21) rfl) (gB_c lq_cX12_firsts q2_cX12_firsts 2 (o := 4) rfl)
theorem dX12_firsts_67 : decode cX12_firsts 67 = .ok (.iconst 0, 1) := dc_3 (gB_c lq_cX12_firsts q2_cX12_firsts 3 (o := 3) rfl)
theorem dX12_firsts_68 : decode cX12_firsts 68 = .ok (.invokevirtual 297, 3) := dc_182 (gB_c lq_cX12_firsts q2_cX12_firsts 4 (o := 182) rfl) (gB_c lq_cX12_firsts q2_cX12_firsts 5 (o := 1) rfl) (gB_c lq_cX12_firsts q2_cX12_firsts 6 (o := 41) rfl) rfl
theorem dX12_firsts_71 : decode cX12_firsts 71 = .ok (.ifCond .eq 10, 3) := dc_153 (gB_c lq_cX12_firsts q2_cX12_firsts 7 (o := 153) rfl) (gB_c lq_cX12_firsts q2_cX12_firsts 8 (o := 0) rfl) (gB_c lq_cX12_firsts q2_cX12_firsts 9 (o := 10) rfl) rfl
theorem dX12_firsts_74 : decode cX12_firsts 74 = .ok (.iconst 1, 1) := dc_4 (gB_c lq_cX12_firsts q2_cX12_firsts 10 (o := 4) rfl)
theorem dX12_firsts_75 : decode cX12_firsts 75 = .ok (.iload 4, 2) := dc_21 (gB_c lq_cX12_firsts q2_cX12_firsts 11 (o := 21) rfl) (gB_c lq_cX12_firsts q2_cX12_firsts 12 (o := 4) rfl)
theorem dX12_firsts_77 : decode cX12_firsts 77 = .ok (.ishl, 1) := dc_120 (gB_c lq_cX12_firsts q2_cX12_firsts 13 (o := 120) rfl)
theorem dX12_firsts_78 : decode cX12_firsts 78 = .ok (.goto 4, 3) := dc_167 (gB_c lq_cX12_firsts q2_cX12_firsts 14 (o := 167) rfl) (gB_c lq_cX12_firsts q2_cX12_firsts 15 (o := 0) rfl) (gB_c lq_cX12_firsts q2_cX12_firsts 16 (o := 4) rfl) rfl
theorem dX12_firsts_81 : decode cX12_firsts 81 = .ok (.iconst 0, 1) := dc_3 (gB_c lq_cX12_firsts q2_cX12_firsts 17 (o := 3) rfl)
theorem dX12_firsts_82 : decode cX12_firsts 82 = .ok (.ior, 1) := dc_128 (gB_c lq_cX12_firsts q2_cX12_firsts 18 (o := 128) rfl)
theorem dX12_firsts_83 : decode cX12_firsts 83 = .ok (.istore_n 3, 1) := dc_62 (gB_c lq_cX12_firsts q2_cX12_firsts 19 (o := 62) rfl)
theorem dX12_firsts_84 : decode cX12_firsts 84 = .ok (.iinc 4 1, 3) := dc_132 (gB_c lq_cX12_firsts q2_cX12_firsts 20 (o := 132) rfl) (gB_c lq_cX12_firsts q2_cX12_firsts 21 (o := 4) rfl) (gB_c lq_cX12_firsts q2_cX12_firsts 22 (o := 1) rfl) rfl
theorem dX12_firsts_87 : decode cX12_firsts 87 = .ok (.goto (-36), 3) := dc_167 (gB_c lq_cX12_firsts q2_cX12_firsts 23 (o := 167) rfl) (gB_c lq_cX12_firsts q2_cX12_firsts 24 (o := 255) rfl) (gB_c lq_cX12_firsts q2_cX12_firsts 25 (o := 220) rfl) rfl
theorem dX12_firsts_90 : decode cX12_firsts 90 = .ok (.iload_n 3, 1) := dc_29 (gB_c lq_cX12_firsts q2_cX12_firsts 26 (o := 29) rfl)
theorem dX12_firsts_91 : decode cX12_firsts 91 = .ok (.ireturn, 1) := dc_172 (gB_c lq_cX12_firsts q2_cX12_firsts 27 (o := 172) rfl)
abbrev r1_cX12_gain : List Nat := [182, 0, 248, 42, 27, 28, 182, 0, 251, 54, 5, 42, 29, 21, 4, 182, 1, 61, 42, 27, 28, 182, 0, 251, 21, 5, 100, 172]
def a0_cX12_gain : List Nat := [42, 27, 29, 182, 0, 70, 153, 0, 20, 42, 27, 21, 4, 182, 0, 70, 153, 0, 10, 28, 184, 0, 245, 154, 0, 7, 17, 252, 24, 172, 42, 27]
abbrev r0_cX12_gain : List Nat := a0_cX12_gain ++ r1_cX12_gain
theorem lq_cX12_gain : (cX12_gain).data.toList.map UInt8.toNat = r0_cX12_gain := by decide +kernel
theorem q1_cX12_gain : ∀ i, (r0_cX12_gain)[32 + i]? = (r1_cX12_gain)[i]? := chn (A := a0_cX12_gain) (B := r1_cX12_gain) (n := 0) (k := 32) rfl (ch0 (R := r0_cX12_gain))
theorem dX12_gain_0 : decode cX12_gain 0 = .ok (.aload_n 0, 1) := dc_42 (gB_l lq_cX12_gain (p := 0) (o := 42) rfl)
theorem dX12_gain_1 : decode cX12_gain 1 = .ok (.iload_n 1, 1) := dc_27 (gB_l lq_cX12_gain (p := 1) (o := 27) rfl)
theorem dX12_gain_2 : decode cX12_gain 2 = .ok (.iload_n 3, 1) := dc_29 (gB_l lq_cX12_gain (p := 2) (o := 29) rfl)
theorem dX12_gain_3 : decode cX12_gain 3 = .ok (.invokevirtual 70, 3) := dc_182 (gB_l lq_cX12_gain (p := 3) (o := 182) rfl) (gB_l lq_cX12_gain (p := 4) (o := 0) rfl) (gB_l lq_cX12_gain (p := 5) (o := 70) rfl) rfl
theorem dX12_gain_6 : decode cX12_gain 6 = .ok (.ifCond .eq 20, 3) := dc_153 (gB_l lq_cX12_gain (p := 6) (o := 153) rfl) (gB_l lq_cX12_gain (p := 7) (o := 0) rfl) (gB_l lq_cX12_gain (p := 8) (o := 20) rfl) rfl
theorem dX12_gain_9 : decode cX12_gain 9 = .ok (.aload_n 0, 1) := dc_42 (gB_l lq_cX12_gain (p := 9) (o := 42) rfl)
theorem dX12_gain_10 : decode cX12_gain 10 = .ok (.iload_n 1, 1) := dc_27 (gB_l lq_cX12_gain (p := 10) (o := 27) rfl)
theorem dX12_gain_11 : decode cX12_gain 11 = .ok (.iload 4, 2) := dc_21 (gB_l lq_cX12_gain (p := 11) (o := 21) rfl) (gB_l lq_cX12_gain (p := 12) (o := 4) rfl)
theorem dX12_gain_13 : decode cX12_gain 13 = .ok (.invokevirtual 70, 3) := dc_182 (gB_l lq_cX12_gain (p := 13) (o := 182) rfl) (gB_l lq_cX12_gain (p := 14) (o := 0) rfl) (gB_l lq_cX12_gain (p := 15) (o := 70) rfl) rfl
theorem dX12_gain_16 : decode cX12_gain 16 = .ok (.ifCond .eq 10, 3) := dc_153 (gB_l lq_cX12_gain (p := 16) (o := 153) rfl) (gB_l lq_cX12_gain (p := 17) (o := 0) rfl) (gB_l lq_cX12_gain (p := 18) (o := 10) rfl) rfl
theorem dX12_gain_19 : decode cX12_gain 19 = .ok (.iload_n 2, 1) := dc_28 (gB_l lq_cX12_gain (p := 19) (o := 28) rfl)
theorem dX12_gain_20 : decode cX12_gain 20 = .ok (.invokestatic 245, 3) := dc_184 (gB_l lq_cX12_gain (p := 20) (o := 184) rfl) (gB_l lq_cX12_gain (p := 21) (o := 0) rfl) (gB_l lq_cX12_gain (p := 22) (o := 245) rfl) rfl
theorem dX12_gain_23 : decode cX12_gain 23 = .ok (.ifCond .ne 7, 3) := dc_154 (gB_l lq_cX12_gain (p := 23) (o := 154) rfl) (gB_l lq_cX12_gain (p := 24) (o := 0) rfl) (gB_l lq_cX12_gain (p := 25) (o := 7) rfl) rfl
theorem dX12_gain_26 : decode cX12_gain 26 = .ok (.sipush (-1000), 3) := dc_17 (gB_l lq_cX12_gain (p := 26) (o := 17) rfl) (gB_l lq_cX12_gain (p := 27) (o := 252) rfl) (gB_l lq_cX12_gain (p := 28) (o := 24) rfl) rfl
theorem dX12_gain_29 : decode cX12_gain 29 = .ok (.ireturn, 1) := dc_172 (gB_l lq_cX12_gain (p := 29) (o := 172) rfl)
theorem dX12_gain_30 : decode cX12_gain 30 = .ok (.aload_n 0, 1) := dc_42 (gB_l lq_cX12_gain (p := 30) (o := 42) rfl)
theorem dX12_gain_31 : decode cX12_gain 31 = .ok (.iload_n 1, 1) := dc_27 (gB_l lq_cX12_gain (p := 31) (o := 27) rfl)
theorem dX12_gain_32 : decode cX12_gain 32 = .ok (.invokevirtual 248, 3) := dc_182 (gB_c lq_cX12_gain q1_cX12_gain 0 (o := 182) rfl) (gB_c lq_cX12_gain q1_cX12_gain 1 (o := 0) rfl) (gB_c lq_cX12_gain q1_cX12_gain 2 (o := 248) rfl) rfl
theorem dX12_gain_35 : decode cX12_gain 35 = .ok (.aload_n 0, 1) := dc_42 (gB_c lq_cX12_gain q1_cX12_gain 3 (o := 42) rfl)
theorem dX12_gain_36 : decode cX12_gain 36 = .ok (.iload_n 1, 1) := dc_27 (gB_c lq_cX12_gain q1_cX12_gain 4 (o := 27) rfl)
theorem dX12_gain_37 : decode cX12_gain 37 = .ok (.iload_n 2, 1) := dc_28 (gB_c lq_cX12_gain q1_cX12_gain 5 (o := 28) rfl)
theorem dX12_gain_38 : decode cX12_gain 38 = .ok (.invokevirtual 251, 3) := dc_182 (gB_c lq_cX12_gain q1_cX12_gain 6 (o := 182) rfl) (gB_c lq_cX12_gain q1_cX12_gain 7 (o := 0) rfl) (gB_c lq_cX12_gain q1_cX12_gain 8 (o := 251) rfl) rfl
theorem dX12_gain_41 : decode cX12_gain 41 = .ok (.istore 5, 2) := dc_54 (gB_c lq_cX12_gain q1_cX12_gain 9 (o := 54) rfl) (gB_c lq_cX12_gain q1_cX12_gain 10 (o := 5) rfl)
theorem dX12_gain_43 : decode cX12_gain 43 = .ok (.aload_n 0, 1) := dc_42 (gB_c lq_cX12_gain q1_cX12_gain 11 (o := 42) rfl)
theorem dX12_gain_44 : decode cX12_gain 44 = .ok (.iload_n 3, 1) := dc_29 (gB_c lq_cX12_gain q1_cX12_gain 12 (o := 29) rfl)
theorem dX12_gain_45 : decode cX12_gain 45 = .ok (.iload 4, 2) := dc_21 (gB_c lq_cX12_gain q1_cX12_gain 13 (o := 21) rfl) (gB_c lq_cX12_gain q1_cX12_gain 14 (o := 4) rfl)
theorem dX12_gain_47 : decode cX12_gain 47 = .ok (.invokevirtual 317, 3) := dc_182 (gB_c lq_cX12_gain q1_cX12_gain 15 (o := 182) rfl) (gB_c lq_cX12_gain q1_cX12_gain 16 (o := 1) rfl) (gB_c lq_cX12_gain q1_cX12_gain 17 (o := 61) rfl) rfl
theorem dX12_gain_50 : decode cX12_gain 50 = .ok (.aload_n 0, 1) := dc_42 (gB_c lq_cX12_gain q1_cX12_gain 18 (o := 42) rfl)
theorem dX12_gain_51 : decode cX12_gain 51 = .ok (.iload_n 1, 1) := dc_27 (gB_c lq_cX12_gain q1_cX12_gain 19 (o := 27) rfl)
theorem dX12_gain_52 : decode cX12_gain 52 = .ok (.iload_n 2, 1) := dc_28 (gB_c lq_cX12_gain q1_cX12_gain 20 (o := 28) rfl)
theorem dX12_gain_53 : decode cX12_gain 53 = .ok (.invokevirtual 251, 3) := dc_182 (gB_c lq_cX12_gain q1_cX12_gain 21 (o := 182) rfl) (gB_c lq_cX12_gain q1_cX12_gain 22 (o := 0) rfl) (gB_c lq_cX12_gain q1_cX12_gain 23 (o := 251) rfl) rfl
theorem dX12_gain_56 : decode cX12_gain 56 = .ok (.iload 5, 2) := dc_21 (gB_c lq_cX12_gain q1_cX12_gain 24 (o := 21) rfl) (gB_c lq_cX12_gain q1_cX12_gain 25 (o := 5) rfl)
theorem dX12_gain_58 : decode cX12_gain 58 = .ok (.isub, 1) := dc_100 (gB_c lq_cX12_gain q1_cX12_gain 26 (o := 100) rfl)
theorem dX12_gain_59 : decode cX12_gain 59 = .ok (.ireturn, 1) := dc_172 (gB_c lq_cX12_gain q1_cX12_gain 27 (o := 172) rfl)
abbrev r6_cX12_goesBand : List Nat := [1, 167, 255, 141, 3, 172]
def a5_cX12_goesBand : List Nat := [180, 0, 26, 28, 21, 6, 79, 42, 27, 28, 4, 96, 29, 4, 21, 6, 120, 128, 21, 4, 21, 5, 182, 1, 33, 153, 0, 5, 4, 172, 132, 6]
abbrev r5_cX12_goesBand : List Nat := a5_cX12_goesBand ++ r6_cX12_goesBand
def a4_cX12_goesBand : List Nat := [8, 46, 21, 6, 182, 0, 76, 154, 0, 7, 4, 167, 0, 4, 3, 54, 7, 132, 8, 1, 167, 255, 215, 21, 7, 154, 0, 6, 167, 0, 34, 42]
abbrev r4_cX12_goesBand : List Nat := a4_cX12_goesBand ++ r5_cX12_goesBand
def a3_cX12_goesBand : List Nat := [7, 4, 167, 0, 4, 3, 54, 7, 3, 54, 8, 21, 8, 28, 21, 4, 100, 162, 0, 38, 21, 7, 153, 0, 33, 42, 27, 42, 180, 0, 26, 21]
abbrev r3_cX12_goesBand : List Nat := a3_cX12_goesBand ++ r4_cX12_goesBand
def a2_cX12_goesBand : List Nat := [26, 3, 46, 120, 128, 181, 1, 30, 21, 5, 172, 3, 54, 6, 21, 6, 42, 27, 182, 0, 63, 162, 0, 111, 29, 21, 6, 184, 0, 166, 154, 0]
abbrev r2_cX12_goesBand : List Nat := a2_cX12_goesBand ++ r3_cX12_goesBand
def a1_cX12_goesBand : List Nat := [180, 0, 26, 21, 6, 46, 79, 132, 6, 1, 167, 255, 233, 42, 89, 180, 1, 27, 4, 96, 181, 1, 27, 42, 89, 180, 1, 30, 4, 42, 180, 0]
abbrev r1_cX12_goesBand : List Nat := a1_cX12_goesBand ++ r2_cX12_goesBand
def a0_cX12_goesBand : List Nat := [28, 42, 27, 182, 0, 63, 160, 0, 69, 42, 180, 1, 27, 154, 0, 32, 3, 54, 6, 21, 6, 28, 162, 0, 23, 42, 180, 0, 38, 21, 6, 42]
abbrev r0_cX12_goesBand : List Nat := a0_cX12_goesBand ++ r1_cX12_goesBand
theorem lq_cX12_goesBand : (cX12_goesBand).data.toList.map UInt8.toNat = r0_cX12_goesBand := by decide +kernel
theorem q1_cX12_goesBand : ∀ i, (r0_cX12_goesBand)[32 + i]? = (r1_cX12_goesBand)[i]? := chn (A := a0_cX12_goesBand) (B := r1_cX12_goesBand) (n := 0) (k := 32) rfl (ch0 (R := r0_cX12_goesBand))
theorem q2_cX12_goesBand : ∀ i, (r0_cX12_goesBand)[64 + i]? = (r2_cX12_goesBand)[i]? := chn (A := a1_cX12_goesBand) (B := r2_cX12_goesBand) (n := 32) (k := 32) rfl q1_cX12_goesBand
theorem q3_cX12_goesBand : ∀ i, (r0_cX12_goesBand)[96 + i]? = (r3_cX12_goesBand)[i]? := chn (A := a2_cX12_goesBand) (B := r3_cX12_goesBand) (n := 64) (k := 32) rfl q2_cX12_goesBand
theorem q4_cX12_goesBand : ∀ i, (r0_cX12_goesBand)[128 + i]? = (r4_cX12_goesBand)[i]? := chn (A := a3_cX12_goesBand) (B := r4_cX12_goesBand) (n := 96) (k := 32) rfl q3_cX12_goesBand
theorem q5_cX12_goesBand : ∀ i, (r0_cX12_goesBand)[160 + i]? = (r5_cX12_goesBand)[i]? := chn (A := a4_cX12_goesBand) (B := r5_cX12_goesBand) (n := 128) (k := 32) rfl q4_cX12_goesBand
theorem q6_cX12_goesBand : ∀ i, (r0_cX12_goesBand)[192 + i]? = (r6_cX12_goesBand)[i]? := chn (A := a5_cX12_goesBand) (B := r6_cX12_goesBand) (n := 160) (k := 32) rfl q5_cX12_goesBand
theorem dX12_goesBand_0 : decode cX12_goesBand 0 = .ok (.iload_n 2, 1) := dc_28 (gB_l lq_cX12_goesBand (p := 0) (o := 28) rfl)
theorem dX12_goesBand_1 : decode cX12_goesBand 1 = .ok (.aload_n 0, 1) := dc_42 (gB_l lq_cX12_goesBand (p := 1) (o := 42) rfl)
theorem dX12_goesBand_2 : decode cX12_goesBand 2 = .ok (.iload_n 1, 1) := dc_27 (gB_l lq_cX12_goesBand (p := 2) (o := 27) rfl)
theorem dX12_goesBand_3 : decode cX12_goesBand 3 = .ok (.invokevirtual 63, 3) := dc_182 (gB_l lq_cX12_goesBand (p := 3) (o := 182) rfl) (gB_l lq_cX12_goesBand (p := 4) (o := 0) rfl) (gB_l lq_cX12_goesBand (p := 5) (o := 63) rfl) rfl
theorem dX12_goesBand_6 : decode cX12_goesBand 6 = .ok (.if_icmp .ne 69, 3) := dc_160 (gB_l lq_cX12_goesBand (p := 6) (o := 160) rfl) (gB_l lq_cX12_goesBand (p := 7) (o := 0) rfl) (gB_l lq_cX12_goesBand (p := 8) (o := 69) rfl) rfl
theorem dX12_goesBand_9 : decode cX12_goesBand 9 = .ok (.aload_n 0, 1) := dc_42 (gB_l lq_cX12_goesBand (p := 9) (o := 42) rfl)
theorem dX12_goesBand_10 : decode cX12_goesBand 10 = .ok (.getfield 283, 3) := dc_180 (gB_l lq_cX12_goesBand (p := 10) (o := 180) rfl) (gB_l lq_cX12_goesBand (p := 11) (o := 1) rfl) (gB_l lq_cX12_goesBand (p := 12) (o := 27) rfl) rfl
theorem dX12_goesBand_13 : decode cX12_goesBand 13 = .ok (.ifCond .ne 32, 3) := dc_154 (gB_l lq_cX12_goesBand (p := 13) (o := 154) rfl) (gB_l lq_cX12_goesBand (p := 14) (o := 0) rfl) (gB_l lq_cX12_goesBand (p := 15) (o := 32) rfl) rfl
theorem dX12_goesBand_16 : decode cX12_goesBand 16 = .ok (.iconst 0, 1) := dc_3 (gB_l lq_cX12_goesBand (p := 16) (o := 3) rfl)
theorem dX12_goesBand_17 : decode cX12_goesBand 17 = .ok (.istore 6, 2) := dc_54 (gB_l lq_cX12_goesBand (p := 17) (o := 54) rfl) (gB_l lq_cX12_goesBand (p := 18) (o := 6) rfl)
theorem dX12_goesBand_19 : decode cX12_goesBand 19 = .ok (.iload 6, 2) := dc_21 (gB_l lq_cX12_goesBand (p := 19) (o := 21) rfl) (gB_l lq_cX12_goesBand (p := 20) (o := 6) rfl)
theorem dX12_goesBand_21 : decode cX12_goesBand 21 = .ok (.iload_n 2, 1) := dc_28 (gB_l lq_cX12_goesBand (p := 21) (o := 28) rfl)
theorem dX12_goesBand_22 : decode cX12_goesBand 22 = .ok (.if_icmp .ge 23, 3) := dc_162 (gB_l lq_cX12_goesBand (p := 22) (o := 162) rfl) (gB_l lq_cX12_goesBand (p := 23) (o := 0) rfl) (gB_l lq_cX12_goesBand (p := 24) (o := 23) rfl) rfl
theorem dX12_goesBand_25 : decode cX12_goesBand 25 = .ok (.aload_n 0, 1) := dc_42 (gB_l lq_cX12_goesBand (p := 25) (o := 42) rfl)
theorem dX12_goesBand_26 : decode cX12_goesBand 26 = .ok (.getfield 38, 3) := dc_180 (gB_l lq_cX12_goesBand (p := 26) (o := 180) rfl) (gB_l lq_cX12_goesBand (p := 27) (o := 0) rfl) (gB_l lq_cX12_goesBand (p := 28) (o := 38) rfl) rfl
theorem dX12_goesBand_29 : decode cX12_goesBand 29 = .ok (.iload 6, 2) := dc_21 (gB_l lq_cX12_goesBand (p := 29) (o := 21) rfl) (gB_l lq_cX12_goesBand (p := 30) (o := 6) rfl)
theorem dX12_goesBand_31 : decode cX12_goesBand 31 = .ok (.aload_n 0, 1) := dc_42 (gB_l lq_cX12_goesBand (p := 31) (o := 42) rfl)
theorem dX12_goesBand_32 : decode cX12_goesBand 32 = .ok (.getfield 26, 3) := dc_180 (gB_c lq_cX12_goesBand q1_cX12_goesBand 0 (o := 180) rfl) (gB_c lq_cX12_goesBand q1_cX12_goesBand 1 (o := 0) rfl) (gB_c lq_cX12_goesBand q1_cX12_goesBand 2 (o := 26) rfl) rfl
theorem dX12_goesBand_35 : decode cX12_goesBand 35 = .ok (.iload 6, 2) := dc_21 (gB_c lq_cX12_goesBand q1_cX12_goesBand 3 (o := 21) rfl) (gB_c lq_cX12_goesBand q1_cX12_goesBand 4 (o := 6) rfl)
theorem dX12_goesBand_37 : decode cX12_goesBand 37 = .ok (.iaload, 1) := dc_46 (gB_c lq_cX12_goesBand q1_cX12_goesBand 5 (o := 46) rfl)
theorem dX12_goesBand_38 : decode cX12_goesBand 38 = .ok (.iastore, 1) := dc_79 (gB_c lq_cX12_goesBand q1_cX12_goesBand 6 (o := 79) rfl)
theorem dX12_goesBand_39 : decode cX12_goesBand 39 = .ok (.iinc 6 1, 3) := dc_132 (gB_c lq_cX12_goesBand q1_cX12_goesBand 7 (o := 132) rfl) (gB_c lq_cX12_goesBand q1_cX12_goesBand 8 (o := 6) rfl) (gB_c lq_cX12_goesBand q1_cX12_goesBand 9 (o := 1) rfl) rfl
theorem dX12_goesBand_42 : decode cX12_goesBand 42 = .ok (.goto (-23), 3) := dc_167 (gB_c lq_cX12_goesBand q1_cX12_goesBand 10 (o := 167) rfl) (gB_c lq_cX12_goesBand q1_cX12_goesBand 11 (o := 255) rfl) (gB_c lq_cX12_goesBand q1_cX12_goesBand 12 (o := 233) rfl) rfl
theorem dX12_goesBand_45 : decode cX12_goesBand 45 = .ok (.aload_n 0, 1) := dc_42 (gB_c lq_cX12_goesBand q1_cX12_goesBand 13 (o := 42) rfl)
theorem dX12_goesBand_46 : decode cX12_goesBand 46 = .ok (.dup, 1) := dc_89 (gB_c lq_cX12_goesBand q1_cX12_goesBand 14 (o := 89) rfl)
theorem dX12_goesBand_47 : decode cX12_goesBand 47 = .ok (.getfield 283, 3) := dc_180 (gB_c lq_cX12_goesBand q1_cX12_goesBand 15 (o := 180) rfl) (gB_c lq_cX12_goesBand q1_cX12_goesBand 16 (o := 1) rfl) (gB_c lq_cX12_goesBand q1_cX12_goesBand 17 (o := 27) rfl) rfl
theorem dX12_goesBand_50 : decode cX12_goesBand 50 = .ok (.iconst 1, 1) := dc_4 (gB_c lq_cX12_goesBand q1_cX12_goesBand 18 (o := 4) rfl)
theorem dX12_goesBand_51 : decode cX12_goesBand 51 = .ok (.iadd, 1) := dc_96 (gB_c lq_cX12_goesBand q1_cX12_goesBand 19 (o := 96) rfl)
theorem dX12_goesBand_52 : decode cX12_goesBand 52 = .ok (.putfield 283, 3) := dc_181 (gB_c lq_cX12_goesBand q1_cX12_goesBand 20 (o := 181) rfl) (gB_c lq_cX12_goesBand q1_cX12_goesBand 21 (o := 1) rfl) (gB_c lq_cX12_goesBand q1_cX12_goesBand 22 (o := 27) rfl) rfl
theorem dX12_goesBand_55 : decode cX12_goesBand 55 = .ok (.aload_n 0, 1) := dc_42 (gB_c lq_cX12_goesBand q1_cX12_goesBand 23 (o := 42) rfl)
theorem dX12_goesBand_56 : decode cX12_goesBand 56 = .ok (.dup, 1) := dc_89 (gB_c lq_cX12_goesBand q1_cX12_goesBand 24 (o := 89) rfl)
theorem dX12_goesBand_57 : decode cX12_goesBand 57 = .ok (.getfield 286, 3) := dc_180 (gB_c lq_cX12_goesBand q1_cX12_goesBand 25 (o := 180) rfl) (gB_c lq_cX12_goesBand q1_cX12_goesBand 26 (o := 1) rfl) (gB_c lq_cX12_goesBand q1_cX12_goesBand 27 (o := 30) rfl) rfl
theorem dX12_goesBand_60 : decode cX12_goesBand 60 = .ok (.iconst 1, 1) := dc_4 (gB_c lq_cX12_goesBand q1_cX12_goesBand 28 (o := 4) rfl)
theorem dX12_goesBand_61 : decode cX12_goesBand 61 = .ok (.aload_n 0, 1) := dc_42 (gB_c lq_cX12_goesBand q1_cX12_goesBand 29 (o := 42) rfl)
theorem dX12_goesBand_62 : decode cX12_goesBand 62 = .ok (.getfield 26, 3) := dc_180 (gB_c lq_cX12_goesBand q1_cX12_goesBand 30 (o := 180) rfl) (gB_c lq_cX12_goesBand q1_cX12_goesBand 31 (o := 0) rfl) (gB_c lq_cX12_goesBand q2_cX12_goesBand 0 (o := 26) rfl) rfl
theorem dX12_goesBand_65 : decode cX12_goesBand 65 = .ok (.iconst 0, 1) := dc_3 (gB_c lq_cX12_goesBand q2_cX12_goesBand 1 (o := 3) rfl)
theorem dX12_goesBand_66 : decode cX12_goesBand 66 = .ok (.iaload, 1) := dc_46 (gB_c lq_cX12_goesBand q2_cX12_goesBand 2 (o := 46) rfl)
theorem dX12_goesBand_67 : decode cX12_goesBand 67 = .ok (.ishl, 1) := dc_120 (gB_c lq_cX12_goesBand q2_cX12_goesBand 3 (o := 120) rfl)
theorem dX12_goesBand_68 : decode cX12_goesBand 68 = .ok (.ior, 1) := dc_128 (gB_c lq_cX12_goesBand q2_cX12_goesBand 4 (o := 128) rfl)
theorem dX12_goesBand_69 : decode cX12_goesBand 69 = .ok (.putfield 286, 3) := dc_181 (gB_c lq_cX12_goesBand q2_cX12_goesBand 5 (o := 181) rfl) (gB_c lq_cX12_goesBand q2_cX12_goesBand 6 (o := 1) rfl) (gB_c lq_cX12_goesBand q2_cX12_goesBand 7 (o := 30) rfl) rfl
theorem dX12_goesBand_72 : decode cX12_goesBand 72 = .ok (.iload 5, 2) := dc_21 (gB_c lq_cX12_goesBand q2_cX12_goesBand 8 (o := 21) rfl) (gB_c lq_cX12_goesBand q2_cX12_goesBand 9 (o := 5) rfl)
theorem dX12_goesBand_74 : decode cX12_goesBand 74 = .ok (.ireturn, 1) := dc_172 (gB_c lq_cX12_goesBand q2_cX12_goesBand 10 (o := 172) rfl)
theorem dX12_goesBand_75 : decode cX12_goesBand 75 = .ok (.iconst 0, 1) := dc_3 (gB_c lq_cX12_goesBand q2_cX12_goesBand 11 (o := 3) rfl)
theorem dX12_goesBand_76 : decode cX12_goesBand 76 = .ok (.istore 6, 2) := dc_54 (gB_c lq_cX12_goesBand q2_cX12_goesBand 12 (o := 54) rfl) (gB_c lq_cX12_goesBand q2_cX12_goesBand 13 (o := 6) rfl)
theorem dX12_goesBand_78 : decode cX12_goesBand 78 = .ok (.iload 6, 2) := dc_21 (gB_c lq_cX12_goesBand q2_cX12_goesBand 14 (o := 21) rfl) (gB_c lq_cX12_goesBand q2_cX12_goesBand 15 (o := 6) rfl)
theorem dX12_goesBand_80 : decode cX12_goesBand 80 = .ok (.aload_n 0, 1) := dc_42 (gB_c lq_cX12_goesBand q2_cX12_goesBand 16 (o := 42) rfl)
theorem dX12_goesBand_81 : decode cX12_goesBand 81 = .ok (.iload_n 1, 1) := dc_27 (gB_c lq_cX12_goesBand q2_cX12_goesBand 17 (o := 27) rfl)
theorem dX12_goesBand_82 : decode cX12_goesBand 82 = .ok (.invokevirtual 63, 3) := dc_182 (gB_c lq_cX12_goesBand q2_cX12_goesBand 18 (o := 182) rfl) (gB_c lq_cX12_goesBand q2_cX12_goesBand 19 (o := 0) rfl) (gB_c lq_cX12_goesBand q2_cX12_goesBand 20 (o := 63) rfl) rfl
theorem dX12_goesBand_85 : decode cX12_goesBand 85 = .ok (.if_icmp .ge 111, 3) := dc_162 (gB_c lq_cX12_goesBand q2_cX12_goesBand 21 (o := 162) rfl) (gB_c lq_cX12_goesBand q2_cX12_goesBand 22 (o := 0) rfl) (gB_c lq_cX12_goesBand q2_cX12_goesBand 23 (o := 111) rfl) rfl
theorem dX12_goesBand_88 : decode cX12_goesBand 88 = .ok (.iload_n 3, 1) := dc_29 (gB_c lq_cX12_goesBand q2_cX12_goesBand 24 (o := 29) rfl)
theorem dX12_goesBand_89 : decode cX12_goesBand 89 = .ok (.iload 6, 2) := dc_21 (gB_c lq_cX12_goesBand q2_cX12_goesBand 25 (o := 21) rfl) (gB_c lq_cX12_goesBand q2_cX12_goesBand 26 (o := 6) rfl)
theorem dX12_goesBand_91 : decode cX12_goesBand 91 = .ok (.invokestatic 166, 3) := dc_184 (gB_c lq_cX12_goesBand q2_cX12_goesBand 27 (o := 184) rfl) (gB_c lq_cX12_goesBand q2_cX12_goesBand 28 (o := 0) rfl) (gB_c lq_cX12_goesBand q2_cX12_goesBand 29 (o := 166) rfl) rfl
theorem dX12_goesBand_94 : decode cX12_goesBand 94 = .ok (.ifCond .ne 7, 3) := dc_154 (gB_c lq_cX12_goesBand q2_cX12_goesBand 30 (o := 154) rfl) (gB_c lq_cX12_goesBand q2_cX12_goesBand 31 (o := 0) rfl) (gB_c lq_cX12_goesBand q3_cX12_goesBand 0 (o := 7) rfl) rfl
theorem dX12_goesBand_97 : decode cX12_goesBand 97 = .ok (.iconst 1, 1) := dc_4 (gB_c lq_cX12_goesBand q3_cX12_goesBand 1 (o := 4) rfl)
theorem dX12_goesBand_98 : decode cX12_goesBand 98 = .ok (.goto 4, 3) := dc_167 (gB_c lq_cX12_goesBand q3_cX12_goesBand 2 (o := 167) rfl) (gB_c lq_cX12_goesBand q3_cX12_goesBand 3 (o := 0) rfl) (gB_c lq_cX12_goesBand q3_cX12_goesBand 4 (o := 4) rfl) rfl
theorem dX12_goesBand_101 : decode cX12_goesBand 101 = .ok (.iconst 0, 1) := dc_3 (gB_c lq_cX12_goesBand q3_cX12_goesBand 5 (o := 3) rfl)
theorem dX12_goesBand_102 : decode cX12_goesBand 102 = .ok (.istore 7, 2) := dc_54 (gB_c lq_cX12_goesBand q3_cX12_goesBand 6 (o := 54) rfl) (gB_c lq_cX12_goesBand q3_cX12_goesBand 7 (o := 7) rfl)
theorem dX12_goesBand_104 : decode cX12_goesBand 104 = .ok (.iconst 0, 1) := dc_3 (gB_c lq_cX12_goesBand q3_cX12_goesBand 8 (o := 3) rfl)
theorem dX12_goesBand_105 : decode cX12_goesBand 105 = .ok (.istore 8, 2) := dc_54 (gB_c lq_cX12_goesBand q3_cX12_goesBand 9 (o := 54) rfl) (gB_c lq_cX12_goesBand q3_cX12_goesBand 10 (o := 8) rfl)
theorem dX12_goesBand_107 : decode cX12_goesBand 107 = .ok (.iload 8, 2) := dc_21 (gB_c lq_cX12_goesBand q3_cX12_goesBand 11 (o := 21) rfl) (gB_c lq_cX12_goesBand q3_cX12_goesBand 12 (o := 8) rfl)
theorem dX12_goesBand_109 : decode cX12_goesBand 109 = .ok (.iload_n 2, 1) := dc_28 (gB_c lq_cX12_goesBand q3_cX12_goesBand 13 (o := 28) rfl)
theorem dX12_goesBand_110 : decode cX12_goesBand 110 = .ok (.iload 4, 2) := dc_21 (gB_c lq_cX12_goesBand q3_cX12_goesBand 14 (o := 21) rfl) (gB_c lq_cX12_goesBand q3_cX12_goesBand 15 (o := 4) rfl)
theorem dX12_goesBand_112 : decode cX12_goesBand 112 = .ok (.isub, 1) := dc_100 (gB_c lq_cX12_goesBand q3_cX12_goesBand 16 (o := 100) rfl)
theorem dX12_goesBand_113 : decode cX12_goesBand 113 = .ok (.if_icmp .ge 38, 3) := dc_162 (gB_c lq_cX12_goesBand q3_cX12_goesBand 17 (o := 162) rfl) (gB_c lq_cX12_goesBand q3_cX12_goesBand 18 (o := 0) rfl) (gB_c lq_cX12_goesBand q3_cX12_goesBand 19 (o := 38) rfl) rfl
theorem dX12_goesBand_116 : decode cX12_goesBand 116 = .ok (.iload 7, 2) := dc_21 (gB_c lq_cX12_goesBand q3_cX12_goesBand 20 (o := 21) rfl) (gB_c lq_cX12_goesBand q3_cX12_goesBand 21 (o := 7) rfl)
theorem dX12_goesBand_118 : decode cX12_goesBand 118 = .ok (.ifCond .eq 33, 3) := dc_153 (gB_c lq_cX12_goesBand q3_cX12_goesBand 22 (o := 153) rfl) (gB_c lq_cX12_goesBand q3_cX12_goesBand 23 (o := 0) rfl) (gB_c lq_cX12_goesBand q3_cX12_goesBand 24 (o := 33) rfl) rfl
theorem dX12_goesBand_121 : decode cX12_goesBand 121 = .ok (.aload_n 0, 1) := dc_42 (gB_c lq_cX12_goesBand q3_cX12_goesBand 25 (o := 42) rfl)
theorem dX12_goesBand_122 : decode cX12_goesBand 122 = .ok (.iload_n 1, 1) := dc_27 (gB_c lq_cX12_goesBand q3_cX12_goesBand 26 (o := 27) rfl)
theorem dX12_goesBand_123 : decode cX12_goesBand 123 = .ok (.aload_n 0, 1) := dc_42 (gB_c lq_cX12_goesBand q3_cX12_goesBand 27 (o := 42) rfl)
theorem dX12_goesBand_124 : decode cX12_goesBand 124 = .ok (.getfield 26, 3) := dc_180 (gB_c lq_cX12_goesBand q3_cX12_goesBand 28 (o := 180) rfl) (gB_c lq_cX12_goesBand q3_cX12_goesBand 29 (o := 0) rfl) (gB_c lq_cX12_goesBand q3_cX12_goesBand 30 (o := 26) rfl) rfl
theorem dX12_goesBand_127 : decode cX12_goesBand 127 = .ok (.iload 8, 2) := dc_21 (gB_c lq_cX12_goesBand q3_cX12_goesBand 31 (o := 21) rfl) (gB_c lq_cX12_goesBand q4_cX12_goesBand 0 (o := 8) rfl)
theorem dX12_goesBand_129 : decode cX12_goesBand 129 = .ok (.iaload, 1) := dc_46 (gB_c lq_cX12_goesBand q4_cX12_goesBand 1 (o := 46) rfl)
theorem dX12_goesBand_130 : decode cX12_goesBand 130 = .ok (.iload 6, 2) := dc_21 (gB_c lq_cX12_goesBand q4_cX12_goesBand 2 (o := 21) rfl) (gB_c lq_cX12_goesBand q4_cX12_goesBand 3 (o := 6) rfl)
theorem dX12_goesBand_132 : decode cX12_goesBand 132 = .ok (.invokevirtual 76, 3) := dc_182 (gB_c lq_cX12_goesBand q4_cX12_goesBand 4 (o := 182) rfl) (gB_c lq_cX12_goesBand q4_cX12_goesBand 5 (o := 0) rfl) (gB_c lq_cX12_goesBand q4_cX12_goesBand 6 (o := 76) rfl) rfl
theorem dX12_goesBand_135 : decode cX12_goesBand 135 = .ok (.ifCond .ne 7, 3) := dc_154 (gB_c lq_cX12_goesBand q4_cX12_goesBand 7 (o := 154) rfl) (gB_c lq_cX12_goesBand q4_cX12_goesBand 8 (o := 0) rfl) (gB_c lq_cX12_goesBand q4_cX12_goesBand 9 (o := 7) rfl) rfl
theorem dX12_goesBand_138 : decode cX12_goesBand 138 = .ok (.iconst 1, 1) := dc_4 (gB_c lq_cX12_goesBand q4_cX12_goesBand 10 (o := 4) rfl)
theorem dX12_goesBand_139 : decode cX12_goesBand 139 = .ok (.goto 4, 3) := dc_167 (gB_c lq_cX12_goesBand q4_cX12_goesBand 11 (o := 167) rfl) (gB_c lq_cX12_goesBand q4_cX12_goesBand 12 (o := 0) rfl) (gB_c lq_cX12_goesBand q4_cX12_goesBand 13 (o := 4) rfl) rfl
theorem dX12_goesBand_142 : decode cX12_goesBand 142 = .ok (.iconst 0, 1) := dc_3 (gB_c lq_cX12_goesBand q4_cX12_goesBand 14 (o := 3) rfl)
theorem dX12_goesBand_143 : decode cX12_goesBand 143 = .ok (.istore 7, 2) := dc_54 (gB_c lq_cX12_goesBand q4_cX12_goesBand 15 (o := 54) rfl) (gB_c lq_cX12_goesBand q4_cX12_goesBand 16 (o := 7) rfl)
theorem dX12_goesBand_145 : decode cX12_goesBand 145 = .ok (.iinc 8 1, 3) := dc_132 (gB_c lq_cX12_goesBand q4_cX12_goesBand 17 (o := 132) rfl) (gB_c lq_cX12_goesBand q4_cX12_goesBand 18 (o := 8) rfl) (gB_c lq_cX12_goesBand q4_cX12_goesBand 19 (o := 1) rfl) rfl
theorem dX12_goesBand_148 : decode cX12_goesBand 148 = .ok (.goto (-41), 3) := dc_167 (gB_c lq_cX12_goesBand q4_cX12_goesBand 20 (o := 167) rfl) (gB_c lq_cX12_goesBand q4_cX12_goesBand 21 (o := 255) rfl) (gB_c lq_cX12_goesBand q4_cX12_goesBand 22 (o := 215) rfl) rfl
theorem dX12_goesBand_151 : decode cX12_goesBand 151 = .ok (.iload 7, 2) := dc_21 (gB_c lq_cX12_goesBand q4_cX12_goesBand 23 (o := 21) rfl) (gB_c lq_cX12_goesBand q4_cX12_goesBand 24 (o := 7) rfl)
theorem dX12_goesBand_153 : decode cX12_goesBand 153 = .ok (.ifCond .ne 6, 3) := dc_154 (gB_c lq_cX12_goesBand q4_cX12_goesBand 25 (o := 154) rfl) (gB_c lq_cX12_goesBand q4_cX12_goesBand 26 (o := 0) rfl) (gB_c lq_cX12_goesBand q4_cX12_goesBand 27 (o := 6) rfl) rfl
theorem dX12_goesBand_156 : decode cX12_goesBand 156 = .ok (.goto 34, 3) := dc_167 (gB_c lq_cX12_goesBand q4_cX12_goesBand 28 (o := 167) rfl) (gB_c lq_cX12_goesBand q4_cX12_goesBand 29 (o := 0) rfl) (gB_c lq_cX12_goesBand q4_cX12_goesBand 30 (o := 34) rfl) rfl
theorem dX12_goesBand_159 : decode cX12_goesBand 159 = .ok (.aload_n 0, 1) := dc_42 (gB_c lq_cX12_goesBand q4_cX12_goesBand 31 (o := 42) rfl)
theorem dX12_goesBand_160 : decode cX12_goesBand 160 = .ok (.getfield 26, 3) := dc_180 (gB_c lq_cX12_goesBand q5_cX12_goesBand 0 (o := 180) rfl) (gB_c lq_cX12_goesBand q5_cX12_goesBand 1 (o := 0) rfl) (gB_c lq_cX12_goesBand q5_cX12_goesBand 2 (o := 26) rfl) rfl
theorem dX12_goesBand_163 : decode cX12_goesBand 163 = .ok (.iload_n 2, 1) := dc_28 (gB_c lq_cX12_goesBand q5_cX12_goesBand 3 (o := 28) rfl)
theorem dX12_goesBand_164 : decode cX12_goesBand 164 = .ok (.iload 6, 2) := dc_21 (gB_c lq_cX12_goesBand q5_cX12_goesBand 4 (o := 21) rfl) (gB_c lq_cX12_goesBand q5_cX12_goesBand 5 (o := 6) rfl)
theorem dX12_goesBand_166 : decode cX12_goesBand 166 = .ok (.iastore, 1) := dc_79 (gB_c lq_cX12_goesBand q5_cX12_goesBand 6 (o := 79) rfl)
theorem dX12_goesBand_167 : decode cX12_goesBand 167 = .ok (.aload_n 0, 1) := dc_42 (gB_c lq_cX12_goesBand q5_cX12_goesBand 7 (o := 42) rfl)
theorem dX12_goesBand_168 : decode cX12_goesBand 168 = .ok (.iload_n 1, 1) := dc_27 (gB_c lq_cX12_goesBand q5_cX12_goesBand 8 (o := 27) rfl)
theorem dX12_goesBand_169 : decode cX12_goesBand 169 = .ok (.iload_n 2, 1) := dc_28 (gB_c lq_cX12_goesBand q5_cX12_goesBand 9 (o := 28) rfl)
theorem dX12_goesBand_170 : decode cX12_goesBand 170 = .ok (.iconst 1, 1) := dc_4 (gB_c lq_cX12_goesBand q5_cX12_goesBand 10 (o := 4) rfl)
theorem dX12_goesBand_171 : decode cX12_goesBand 171 = .ok (.iadd, 1) := dc_96 (gB_c lq_cX12_goesBand q5_cX12_goesBand 11 (o := 96) rfl)
theorem dX12_goesBand_172 : decode cX12_goesBand 172 = .ok (.iload_n 3, 1) := dc_29 (gB_c lq_cX12_goesBand q5_cX12_goesBand 12 (o := 29) rfl)
theorem dX12_goesBand_173 : decode cX12_goesBand 173 = .ok (.iconst 1, 1) := dc_4 (gB_c lq_cX12_goesBand q5_cX12_goesBand 13 (o := 4) rfl)
theorem dX12_goesBand_174 : decode cX12_goesBand 174 = .ok (.iload 6, 2) := dc_21 (gB_c lq_cX12_goesBand q5_cX12_goesBand 14 (o := 21) rfl) (gB_c lq_cX12_goesBand q5_cX12_goesBand 15 (o := 6) rfl)
theorem dX12_goesBand_176 : decode cX12_goesBand 176 = .ok (.ishl, 1) := dc_120 (gB_c lq_cX12_goesBand q5_cX12_goesBand 16 (o := 120) rfl)
theorem dX12_goesBand_177 : decode cX12_goesBand 177 = .ok (.ior, 1) := dc_128 (gB_c lq_cX12_goesBand q5_cX12_goesBand 17 (o := 128) rfl)
theorem dX12_goesBand_178 : decode cX12_goesBand 178 = .ok (.iload 4, 2) := dc_21 (gB_c lq_cX12_goesBand q5_cX12_goesBand 18 (o := 21) rfl) (gB_c lq_cX12_goesBand q5_cX12_goesBand 19 (o := 4) rfl)
theorem dX12_goesBand_180 : decode cX12_goesBand 180 = .ok (.iload 5, 2) := dc_21 (gB_c lq_cX12_goesBand q5_cX12_goesBand 20 (o := 21) rfl) (gB_c lq_cX12_goesBand q5_cX12_goesBand 21 (o := 5) rfl)
theorem dX12_goesBand_182 : decode cX12_goesBand 182 = .ok (.invokevirtual 289, 3) := dc_182 (gB_c lq_cX12_goesBand q5_cX12_goesBand 22 (o := 182) rfl) (gB_c lq_cX12_goesBand q5_cX12_goesBand 23 (o := 1) rfl) (gB_c lq_cX12_goesBand q5_cX12_goesBand 24 (o := 33) rfl) rfl
theorem dX12_goesBand_185 : decode cX12_goesBand 185 = .ok (.ifCond .eq 5, 3) := dc_153 (gB_c lq_cX12_goesBand q5_cX12_goesBand 25 (o := 153) rfl) (gB_c lq_cX12_goesBand q5_cX12_goesBand 26 (o := 0) rfl) (gB_c lq_cX12_goesBand q5_cX12_goesBand 27 (o := 5) rfl) rfl
theorem dX12_goesBand_188 : decode cX12_goesBand 188 = .ok (.iconst 1, 1) := dc_4 (gB_c lq_cX12_goesBand q5_cX12_goesBand 28 (o := 4) rfl)
theorem dX12_goesBand_189 : decode cX12_goesBand 189 = .ok (.ireturn, 1) := dc_172 (gB_c lq_cX12_goesBand q5_cX12_goesBand 29 (o := 172) rfl)
theorem dX12_goesBand_190 : decode cX12_goesBand 190 = .ok (.iinc 6 1, 3) := dc_132 (gB_c lq_cX12_goesBand q5_cX12_goesBand 30 (o := 132) rfl) (gB_c lq_cX12_goesBand q5_cX12_goesBand 31 (o := 6) rfl) (gB_c lq_cX12_goesBand q6_cX12_goesBand 0 (o := 1) rfl) rfl
theorem dX12_goesBand_193 : decode cX12_goesBand 193 = .ok (.goto (-115), 3) := dc_167 (gB_c lq_cX12_goesBand q6_cX12_goesBand 1 (o := 167) rfl) (gB_c lq_cX12_goesBand q6_cX12_goesBand 2 (o := 255) rfl) (gB_c lq_cX12_goesBand q6_cX12_goesBand 3 (o := 141) rfl) rfl
theorem dX12_goesBand_196 : decode cX12_goesBand 196 = .ok (.iconst 0, 1) := dc_3 (gB_c lq_cX12_goesBand q6_cX12_goesBand 4 (o := 3) rfl)
theorem dX12_goesBand_197 : decode cX12_goesBand 197 = .ok (.ireturn, 1) := dc_172 (gB_c lq_cX12_goesBand q6_cX12_goesBand 5 (o := 172) rfl)
abbrev r4_cX12_greedy : List Nat := [27, 182, 1, 64, 54, 4, 42, 27, 28, 182, 0, 251, 172]
def a3_cX12_greedy : List Nat := [5, 54, 5, 132, 6, 1, 167, 255, 198, 42, 180, 0, 26, 21, 4, 21, 5, 79, 29, 4, 21, 5, 120, 128, 62, 132, 4, 1, 167, 255, 160, 42]
abbrev r3_cX12_greedy : List Nat := a3_cX12_greedy ++ r4_cX12_greedy
def a2_cX12_greedy : List Nat := [5, 2, 159, 0, 24, 42, 27, 28, 29, 21, 6, 182, 0, 238, 42, 27, 28, 29, 21, 5, 182, 0, 238, 162, 0, 8, 21, 6, 167, 0, 5, 21]
abbrev r2_cX12_greedy : List Nat := a2_cX12_greedy ++ r3_cX12_greedy
def a1_cX12_greedy : List Nat := [182, 0, 63, 162, 0, 92, 2, 54, 5, 3, 54, 6, 21, 6, 42, 27, 182, 0, 63, 162, 0, 54, 29, 21, 6, 184, 0, 166, 154, 0, 35, 21]
abbrev r1_cX12_greedy : List Nat := a1_cX12_greedy ++ r2_cX12_greedy
def a0_cX12_greedy : List Nat := [42, 27, 182, 0, 67, 153, 0, 15, 28, 184, 0, 245, 153, 0, 8, 28, 5, 160, 0, 6, 16, 254, 172, 3, 62, 3, 54, 4, 21, 4, 42, 27]
abbrev r0_cX12_greedy : List Nat := a0_cX12_greedy ++ r1_cX12_greedy
theorem lq_cX12_greedy : (cX12_greedy).data.toList.map UInt8.toNat = r0_cX12_greedy := by decide +kernel
theorem q1_cX12_greedy : ∀ i, (r0_cX12_greedy)[32 + i]? = (r1_cX12_greedy)[i]? := chn (A := a0_cX12_greedy) (B := r1_cX12_greedy) (n := 0) (k := 32) rfl (ch0 (R := r0_cX12_greedy))
theorem q2_cX12_greedy : ∀ i, (r0_cX12_greedy)[64 + i]? = (r2_cX12_greedy)[i]? := chn (A := a1_cX12_greedy) (B := r2_cX12_greedy) (n := 32) (k := 32) rfl q1_cX12_greedy
theorem q3_cX12_greedy : ∀ i, (r0_cX12_greedy)[96 + i]? = (r3_cX12_greedy)[i]? := chn (A := a2_cX12_greedy) (B := r3_cX12_greedy) (n := 64) (k := 32) rfl q2_cX12_greedy
theorem q4_cX12_greedy : ∀ i, (r0_cX12_greedy)[128 + i]? = (r4_cX12_greedy)[i]? := chn (A := a3_cX12_greedy) (B := r4_cX12_greedy) (n := 96) (k := 32) rfl q3_cX12_greedy
theorem dX12_greedy_0 : decode cX12_greedy 0 = .ok (.aload_n 0, 1) := dc_42 (gB_l lq_cX12_greedy (p := 0) (o := 42) rfl)
theorem dX12_greedy_1 : decode cX12_greedy 1 = .ok (.iload_n 1, 1) := dc_27 (gB_l lq_cX12_greedy (p := 1) (o := 27) rfl)
theorem dX12_greedy_2 : decode cX12_greedy 2 = .ok (.invokevirtual 67, 3) := dc_182 (gB_l lq_cX12_greedy (p := 2) (o := 182) rfl) (gB_l lq_cX12_greedy (p := 3) (o := 0) rfl) (gB_l lq_cX12_greedy (p := 4) (o := 67) rfl) rfl
theorem dX12_greedy_5 : decode cX12_greedy 5 = .ok (.ifCond .eq 15, 3) := dc_153 (gB_l lq_cX12_greedy (p := 5) (o := 153) rfl) (gB_l lq_cX12_greedy (p := 6) (o := 0) rfl) (gB_l lq_cX12_greedy (p := 7) (o := 15) rfl) rfl
theorem dX12_greedy_8 : decode cX12_greedy 8 = .ok (.iload_n 2, 1) := dc_28 (gB_l lq_cX12_greedy (p := 8) (o := 28) rfl)
theorem dX12_greedy_9 : decode cX12_greedy 9 = .ok (.invokestatic 245, 3) := dc_184 (gB_l lq_cX12_greedy (p := 9) (o := 184) rfl) (gB_l lq_cX12_greedy (p := 10) (o := 0) rfl) (gB_l lq_cX12_greedy (p := 11) (o := 245) rfl) rfl
theorem dX12_greedy_12 : decode cX12_greedy 12 = .ok (.ifCond .eq 8, 3) := dc_153 (gB_l lq_cX12_greedy (p := 12) (o := 153) rfl) (gB_l lq_cX12_greedy (p := 13) (o := 0) rfl) (gB_l lq_cX12_greedy (p := 14) (o := 8) rfl) rfl
theorem dX12_greedy_15 : decode cX12_greedy 15 = .ok (.iload_n 2, 1) := dc_28 (gB_l lq_cX12_greedy (p := 15) (o := 28) rfl)
theorem dX12_greedy_16 : decode cX12_greedy 16 = .ok (.iconst 2, 1) := dc_5 (gB_l lq_cX12_greedy (p := 16) (o := 5) rfl)
theorem dX12_greedy_17 : decode cX12_greedy 17 = .ok (.if_icmp .ne 6, 3) := dc_160 (gB_l lq_cX12_greedy (p := 17) (o := 160) rfl) (gB_l lq_cX12_greedy (p := 18) (o := 0) rfl) (gB_l lq_cX12_greedy (p := 19) (o := 6) rfl) rfl
theorem dX12_greedy_20 : decode cX12_greedy 20 = .ok (.bipush (-2), 2) := dc_16 (gB_l lq_cX12_greedy (p := 20) (o := 16) rfl) (gB_l lq_cX12_greedy (p := 21) (o := 254) rfl) rfl
theorem dX12_greedy_22 : decode cX12_greedy 22 = .ok (.ireturn, 1) := dc_172 (gB_l lq_cX12_greedy (p := 22) (o := 172) rfl)
theorem dX12_greedy_23 : decode cX12_greedy 23 = .ok (.iconst 0, 1) := dc_3 (gB_l lq_cX12_greedy (p := 23) (o := 3) rfl)
theorem dX12_greedy_24 : decode cX12_greedy 24 = .ok (.istore_n 3, 1) := dc_62 (gB_l lq_cX12_greedy (p := 24) (o := 62) rfl)
theorem dX12_greedy_25 : decode cX12_greedy 25 = .ok (.iconst 0, 1) := dc_3 (gB_l lq_cX12_greedy (p := 25) (o := 3) rfl)
theorem dX12_greedy_26 : decode cX12_greedy 26 = .ok (.istore 4, 2) := dc_54 (gB_l lq_cX12_greedy (p := 26) (o := 54) rfl) (gB_l lq_cX12_greedy (p := 27) (o := 4) rfl)
theorem dX12_greedy_28 : decode cX12_greedy 28 = .ok (.iload 4, 2) := dc_21 (gB_l lq_cX12_greedy (p := 28) (o := 21) rfl) (gB_l lq_cX12_greedy (p := 29) (o := 4) rfl)
theorem dX12_greedy_30 : decode cX12_greedy 30 = .ok (.aload_n 0, 1) := dc_42 (gB_l lq_cX12_greedy (p := 30) (o := 42) rfl)
theorem dX12_greedy_31 : decode cX12_greedy 31 = .ok (.iload_n 1, 1) := dc_27 (gB_l lq_cX12_greedy (p := 31) (o := 27) rfl)
theorem dX12_greedy_32 : decode cX12_greedy 32 = .ok (.invokevirtual 63, 3) := dc_182 (gB_c lq_cX12_greedy q1_cX12_greedy 0 (o := 182) rfl) (gB_c lq_cX12_greedy q1_cX12_greedy 1 (o := 0) rfl) (gB_c lq_cX12_greedy q1_cX12_greedy 2 (o := 63) rfl) rfl
theorem dX12_greedy_35 : decode cX12_greedy 35 = .ok (.if_icmp .ge 92, 3) := dc_162 (gB_c lq_cX12_greedy q1_cX12_greedy 3 (o := 162) rfl) (gB_c lq_cX12_greedy q1_cX12_greedy 4 (o := 0) rfl) (gB_c lq_cX12_greedy q1_cX12_greedy 5 (o := 92) rfl) rfl
theorem dX12_greedy_38 : decode cX12_greedy 38 = .ok (.iconst (-1), 1) := dc_2 (gB_c lq_cX12_greedy q1_cX12_greedy 6 (o := 2) rfl)
theorem dX12_greedy_39 : decode cX12_greedy 39 = .ok (.istore 5, 2) := dc_54 (gB_c lq_cX12_greedy q1_cX12_greedy 7 (o := 54) rfl) (gB_c lq_cX12_greedy q1_cX12_greedy 8 (o := 5) rfl)
theorem dX12_greedy_41 : decode cX12_greedy 41 = .ok (.iconst 0, 1) := dc_3 (gB_c lq_cX12_greedy q1_cX12_greedy 9 (o := 3) rfl)
theorem dX12_greedy_42 : decode cX12_greedy 42 = .ok (.istore 6, 2) := dc_54 (gB_c lq_cX12_greedy q1_cX12_greedy 10 (o := 54) rfl) (gB_c lq_cX12_greedy q1_cX12_greedy 11 (o := 6) rfl)
theorem dX12_greedy_44 : decode cX12_greedy 44 = .ok (.iload 6, 2) := dc_21 (gB_c lq_cX12_greedy q1_cX12_greedy 12 (o := 21) rfl) (gB_c lq_cX12_greedy q1_cX12_greedy 13 (o := 6) rfl)
theorem dX12_greedy_46 : decode cX12_greedy 46 = .ok (.aload_n 0, 1) := dc_42 (gB_c lq_cX12_greedy q1_cX12_greedy 14 (o := 42) rfl)
theorem dX12_greedy_47 : decode cX12_greedy 47 = .ok (.iload_n 1, 1) := dc_27 (gB_c lq_cX12_greedy q1_cX12_greedy 15 (o := 27) rfl)
theorem dX12_greedy_48 : decode cX12_greedy 48 = .ok (.invokevirtual 63, 3) := dc_182 (gB_c lq_cX12_greedy q1_cX12_greedy 16 (o := 182) rfl) (gB_c lq_cX12_greedy q1_cX12_greedy 17 (o := 0) rfl) (gB_c lq_cX12_greedy q1_cX12_greedy 18 (o := 63) rfl) rfl
theorem dX12_greedy_51 : decode cX12_greedy 51 = .ok (.if_icmp .ge 54, 3) := dc_162 (gB_c lq_cX12_greedy q1_cX12_greedy 19 (o := 162) rfl) (gB_c lq_cX12_greedy q1_cX12_greedy 20 (o := 0) rfl) (gB_c lq_cX12_greedy q1_cX12_greedy 21 (o := 54) rfl) rfl
theorem dX12_greedy_54 : decode cX12_greedy 54 = .ok (.iload_n 3, 1) := dc_29 (gB_c lq_cX12_greedy q1_cX12_greedy 22 (o := 29) rfl)
theorem dX12_greedy_55 : decode cX12_greedy 55 = .ok (.iload 6, 2) := dc_21 (gB_c lq_cX12_greedy q1_cX12_greedy 23 (o := 21) rfl) (gB_c lq_cX12_greedy q1_cX12_greedy 24 (o := 6) rfl)
theorem dX12_greedy_57 : decode cX12_greedy 57 = .ok (.invokestatic 166, 3) := dc_184 (gB_c lq_cX12_greedy q1_cX12_greedy 25 (o := 184) rfl) (gB_c lq_cX12_greedy q1_cX12_greedy 26 (o := 0) rfl) (gB_c lq_cX12_greedy q1_cX12_greedy 27 (o := 166) rfl) rfl
theorem dX12_greedy_60 : decode cX12_greedy 60 = .ok (.ifCond .ne 35, 3) := dc_154 (gB_c lq_cX12_greedy q1_cX12_greedy 28 (o := 154) rfl) (gB_c lq_cX12_greedy q1_cX12_greedy 29 (o := 0) rfl) (gB_c lq_cX12_greedy q1_cX12_greedy 30 (o := 35) rfl) rfl
theorem dX12_greedy_63 : decode cX12_greedy 63 = .ok (.iload 5, 2) := dc_21 (gB_c lq_cX12_greedy q1_cX12_greedy 31 (o := 21) rfl) (gB_c lq_cX12_greedy q2_cX12_greedy 0 (o := 5) rfl)
theorem dX12_greedy_65 : decode cX12_greedy 65 = .ok (.iconst (-1), 1) := dc_2 (gB_c lq_cX12_greedy q2_cX12_greedy 1 (o := 2) rfl)
theorem dX12_greedy_66 : decode cX12_greedy 66 = .ok (.if_icmp .eq 24, 3) := dc_159 (gB_c lq_cX12_greedy q2_cX12_greedy 2 (o := 159) rfl) (gB_c lq_cX12_greedy q2_cX12_greedy 3 (o := 0) rfl) (gB_c lq_cX12_greedy q2_cX12_greedy 4 (o := 24) rfl) rfl
theorem dX12_greedy_69 : decode cX12_greedy 69 = .ok (.aload_n 0, 1) := dc_42 (gB_c lq_cX12_greedy q2_cX12_greedy 5 (o := 42) rfl)
theorem dX12_greedy_70 : decode cX12_greedy 70 = .ok (.iload_n 1, 1) := dc_27 (gB_c lq_cX12_greedy q2_cX12_greedy 6 (o := 27) rfl)
theorem dX12_greedy_71 : decode cX12_greedy 71 = .ok (.iload_n 2, 1) := dc_28 (gB_c lq_cX12_greedy q2_cX12_greedy 7 (o := 28) rfl)
theorem dX12_greedy_72 : decode cX12_greedy 72 = .ok (.iload_n 3, 1) := dc_29 (gB_c lq_cX12_greedy q2_cX12_greedy 8 (o := 29) rfl)
theorem dX12_greedy_73 : decode cX12_greedy 73 = .ok (.iload 6, 2) := dc_21 (gB_c lq_cX12_greedy q2_cX12_greedy 9 (o := 21) rfl) (gB_c lq_cX12_greedy q2_cX12_greedy 10 (o := 6) rfl)
theorem dX12_greedy_75 : decode cX12_greedy 75 = .ok (.invokevirtual 238, 3) := dc_182 (gB_c lq_cX12_greedy q2_cX12_greedy 11 (o := 182) rfl) (gB_c lq_cX12_greedy q2_cX12_greedy 12 (o := 0) rfl) (gB_c lq_cX12_greedy q2_cX12_greedy 13 (o := 238) rfl) rfl
theorem dX12_greedy_78 : decode cX12_greedy 78 = .ok (.aload_n 0, 1) := dc_42 (gB_c lq_cX12_greedy q2_cX12_greedy 14 (o := 42) rfl)
theorem dX12_greedy_79 : decode cX12_greedy 79 = .ok (.iload_n 1, 1) := dc_27 (gB_c lq_cX12_greedy q2_cX12_greedy 15 (o := 27) rfl)
theorem dX12_greedy_80 : decode cX12_greedy 80 = .ok (.iload_n 2, 1) := dc_28 (gB_c lq_cX12_greedy q2_cX12_greedy 16 (o := 28) rfl)
theorem dX12_greedy_81 : decode cX12_greedy 81 = .ok (.iload_n 3, 1) := dc_29 (gB_c lq_cX12_greedy q2_cX12_greedy 17 (o := 29) rfl)
theorem dX12_greedy_82 : decode cX12_greedy 82 = .ok (.iload 5, 2) := dc_21 (gB_c lq_cX12_greedy q2_cX12_greedy 18 (o := 21) rfl) (gB_c lq_cX12_greedy q2_cX12_greedy 19 (o := 5) rfl)
theorem dX12_greedy_84 : decode cX12_greedy 84 = .ok (.invokevirtual 238, 3) := dc_182 (gB_c lq_cX12_greedy q2_cX12_greedy 20 (o := 182) rfl) (gB_c lq_cX12_greedy q2_cX12_greedy 21 (o := 0) rfl) (gB_c lq_cX12_greedy q2_cX12_greedy 22 (o := 238) rfl) rfl
theorem dX12_greedy_87 : decode cX12_greedy 87 = .ok (.if_icmp .ge 8, 3) := dc_162 (gB_c lq_cX12_greedy q2_cX12_greedy 23 (o := 162) rfl) (gB_c lq_cX12_greedy q2_cX12_greedy 24 (o := 0) rfl) (gB_c lq_cX12_greedy q2_cX12_greedy 25 (o := 8) rfl) rfl
theorem dX12_greedy_90 : decode cX12_greedy 90 = .ok (.iload 6, 2) := dc_21 (gB_c lq_cX12_greedy q2_cX12_greedy 26 (o := 21) rfl) (gB_c lq_cX12_greedy q2_cX12_greedy 27 (o := 6) rfl)
theorem dX12_greedy_92 : decode cX12_greedy 92 = .ok (.goto 5, 3) := dc_167 (gB_c lq_cX12_greedy q2_cX12_greedy 28 (o := 167) rfl) (gB_c lq_cX12_greedy q2_cX12_greedy 29 (o := 0) rfl) (gB_c lq_cX12_greedy q2_cX12_greedy 30 (o := 5) rfl) rfl
theorem dX12_greedy_95 : decode cX12_greedy 95 = .ok (.iload 5, 2) := dc_21 (gB_c lq_cX12_greedy q2_cX12_greedy 31 (o := 21) rfl) (gB_c lq_cX12_greedy q3_cX12_greedy 0 (o := 5) rfl)
theorem dX12_greedy_97 : decode cX12_greedy 97 = .ok (.istore 5, 2) := dc_54 (gB_c lq_cX12_greedy q3_cX12_greedy 1 (o := 54) rfl) (gB_c lq_cX12_greedy q3_cX12_greedy 2 (o := 5) rfl)
theorem dX12_greedy_99 : decode cX12_greedy 99 = .ok (.iinc 6 1, 3) := dc_132 (gB_c lq_cX12_greedy q3_cX12_greedy 3 (o := 132) rfl) (gB_c lq_cX12_greedy q3_cX12_greedy 4 (o := 6) rfl) (gB_c lq_cX12_greedy q3_cX12_greedy 5 (o := 1) rfl) rfl
theorem dX12_greedy_102 : decode cX12_greedy 102 = .ok (.goto (-58), 3) := dc_167 (gB_c lq_cX12_greedy q3_cX12_greedy 6 (o := 167) rfl) (gB_c lq_cX12_greedy q3_cX12_greedy 7 (o := 255) rfl) (gB_c lq_cX12_greedy q3_cX12_greedy 8 (o := 198) rfl) rfl
theorem dX12_greedy_105 : decode cX12_greedy 105 = .ok (.aload_n 0, 1) := dc_42 (gB_c lq_cX12_greedy q3_cX12_greedy 9 (o := 42) rfl)
theorem dX12_greedy_106 : decode cX12_greedy 106 = .ok (.getfield 26, 3) := dc_180 (gB_c lq_cX12_greedy q3_cX12_greedy 10 (o := 180) rfl) (gB_c lq_cX12_greedy q3_cX12_greedy 11 (o := 0) rfl) (gB_c lq_cX12_greedy q3_cX12_greedy 12 (o := 26) rfl) rfl
theorem dX12_greedy_109 : decode cX12_greedy 109 = .ok (.iload 4, 2) := dc_21 (gB_c lq_cX12_greedy q3_cX12_greedy 13 (o := 21) rfl) (gB_c lq_cX12_greedy q3_cX12_greedy 14 (o := 4) rfl)
theorem dX12_greedy_111 : decode cX12_greedy 111 = .ok (.iload 5, 2) := dc_21 (gB_c lq_cX12_greedy q3_cX12_greedy 15 (o := 21) rfl) (gB_c lq_cX12_greedy q3_cX12_greedy 16 (o := 5) rfl)
theorem dX12_greedy_113 : decode cX12_greedy 113 = .ok (.iastore, 1) := dc_79 (gB_c lq_cX12_greedy q3_cX12_greedy 17 (o := 79) rfl)
theorem dX12_greedy_114 : decode cX12_greedy 114 = .ok (.iload_n 3, 1) := dc_29 (gB_c lq_cX12_greedy q3_cX12_greedy 18 (o := 29) rfl)
theorem dX12_greedy_115 : decode cX12_greedy 115 = .ok (.iconst 1, 1) := dc_4 (gB_c lq_cX12_greedy q3_cX12_greedy 19 (o := 4) rfl)
theorem dX12_greedy_116 : decode cX12_greedy 116 = .ok (.iload 5, 2) := dc_21 (gB_c lq_cX12_greedy q3_cX12_greedy 20 (o := 21) rfl) (gB_c lq_cX12_greedy q3_cX12_greedy 21 (o := 5) rfl)
theorem dX12_greedy_118 : decode cX12_greedy 118 = .ok (.ishl, 1) := dc_120 (gB_c lq_cX12_greedy q3_cX12_greedy 22 (o := 120) rfl)
theorem dX12_greedy_119 : decode cX12_greedy 119 = .ok (.ior, 1) := dc_128 (gB_c lq_cX12_greedy q3_cX12_greedy 23 (o := 128) rfl)
theorem dX12_greedy_120 : decode cX12_greedy 120 = .ok (.istore_n 3, 1) := dc_62 (gB_c lq_cX12_greedy q3_cX12_greedy 24 (o := 62) rfl)
theorem dX12_greedy_121 : decode cX12_greedy 121 = .ok (.iinc 4 1, 3) := dc_132 (gB_c lq_cX12_greedy q3_cX12_greedy 25 (o := 132) rfl) (gB_c lq_cX12_greedy q3_cX12_greedy 26 (o := 4) rfl) (gB_c lq_cX12_greedy q3_cX12_greedy 27 (o := 1) rfl) rfl
theorem dX12_greedy_124 : decode cX12_greedy 124 = .ok (.goto (-96), 3) := dc_167 (gB_c lq_cX12_greedy q3_cX12_greedy 28 (o := 167) rfl) (gB_c lq_cX12_greedy q3_cX12_greedy 29 (o := 255) rfl) (gB_c lq_cX12_greedy q3_cX12_greedy 30 (o := 160) rfl) rfl
theorem dX12_greedy_127 : decode cX12_greedy 127 = .ok (.aload_n 0, 1) := dc_42 (gB_c lq_cX12_greedy q3_cX12_greedy 31 (o := 42) rfl)
theorem dX12_greedy_128 : decode cX12_greedy 128 = .ok (.iload_n 1, 1) := dc_27 (gB_c lq_cX12_greedy q4_cX12_greedy 0 (o := 27) rfl)
theorem dX12_greedy_129 : decode cX12_greedy 129 = .ok (.invokevirtual 320, 3) := dc_182 (gB_c lq_cX12_greedy q4_cX12_greedy 1 (o := 182) rfl) (gB_c lq_cX12_greedy q4_cX12_greedy 2 (o := 1) rfl) (gB_c lq_cX12_greedy q4_cX12_greedy 3 (o := 64) rfl) rfl
theorem dX12_greedy_132 : decode cX12_greedy 132 = .ok (.istore 4, 2) := dc_54 (gB_c lq_cX12_greedy q4_cX12_greedy 4 (o := 54) rfl) (gB_c lq_cX12_greedy q4_cX12_greedy 5 (o := 4) rfl)
theorem dX12_greedy_134 : decode cX12_greedy 134 = .ok (.aload_n 0, 1) := dc_42 (gB_c lq_cX12_greedy q4_cX12_greedy 6 (o := 42) rfl)
theorem dX12_greedy_135 : decode cX12_greedy 135 = .ok (.iload_n 1, 1) := dc_27 (gB_c lq_cX12_greedy q4_cX12_greedy 7 (o := 27) rfl)
theorem dX12_greedy_136 : decode cX12_greedy 136 = .ok (.iload_n 2, 1) := dc_28 (gB_c lq_cX12_greedy q4_cX12_greedy 8 (o := 28) rfl)
theorem dX12_greedy_137 : decode cX12_greedy 137 = .ok (.invokevirtual 251, 3) := dc_182 (gB_c lq_cX12_greedy q4_cX12_greedy 9 (o := 182) rfl) (gB_c lq_cX12_greedy q4_cX12_greedy 10 (o := 0) rfl) (gB_c lq_cX12_greedy q4_cX12_greedy 11 (o := 251) rfl) rfl
theorem dX12_greedy_140 : decode cX12_greedy 140 = .ok (.ireturn, 1) := dc_172 (gB_c lq_cX12_greedy q4_cX12_greedy 12 (o := 172) rfl)
abbrev r2_cX12_halve : List Nat := [132, 3, 1, 167, 255, 204, 28, 172]
def a1_cX12_halve : List Nat := [182, 0, 63, 5, 108, 160, 0, 27, 28, 2, 159, 0, 20, 42, 27, 29, 3, 182, 0, 229, 42, 27, 28, 3, 182, 0, 229, 162, 0, 5, 29, 61]
abbrev r1_cX12_halve : List Nat := a1_cX12_halve ++ r2_cX12_halve
def a0_cX12_halve : List Nat := [42, 27, 182, 0, 67, 154, 0, 6, 16, 254, 172, 2, 61, 3, 62, 29, 4, 42, 27, 182, 0, 63, 120, 162, 0, 47, 29, 184, 0, 84, 42, 27]
abbrev r0_cX12_halve : List Nat := a0_cX12_halve ++ r1_cX12_halve
theorem lq_cX12_halve : (cX12_halve).data.toList.map UInt8.toNat = r0_cX12_halve := by decide +kernel
theorem q1_cX12_halve : ∀ i, (r0_cX12_halve)[32 + i]? = (r1_cX12_halve)[i]? := chn (A := a0_cX12_halve) (B := r1_cX12_halve) (n := 0) (k := 32) rfl (ch0 (R := r0_cX12_halve))
theorem q2_cX12_halve : ∀ i, (r0_cX12_halve)[64 + i]? = (r2_cX12_halve)[i]? := chn (A := a1_cX12_halve) (B := r2_cX12_halve) (n := 32) (k := 32) rfl q1_cX12_halve
theorem dX12_halve_0 : decode cX12_halve 0 = .ok (.aload_n 0, 1) := dc_42 (gB_l lq_cX12_halve (p := 0) (o := 42) rfl)
theorem dX12_halve_1 : decode cX12_halve 1 = .ok (.iload_n 1, 1) := dc_27 (gB_l lq_cX12_halve (p := 1) (o := 27) rfl)
theorem dX12_halve_2 : decode cX12_halve 2 = .ok (.invokevirtual 67, 3) := dc_182 (gB_l lq_cX12_halve (p := 2) (o := 182) rfl) (gB_l lq_cX12_halve (p := 3) (o := 0) rfl) (gB_l lq_cX12_halve (p := 4) (o := 67) rfl) rfl
theorem dX12_halve_5 : decode cX12_halve 5 = .ok (.ifCond .ne 6, 3) := dc_154 (gB_l lq_cX12_halve (p := 5) (o := 154) rfl) (gB_l lq_cX12_halve (p := 6) (o := 0) rfl) (gB_l lq_cX12_halve (p := 7) (o := 6) rfl) rfl
theorem dX12_halve_8 : decode cX12_halve 8 = .ok (.bipush (-2), 2) := dc_16 (gB_l lq_cX12_halve (p := 8) (o := 16) rfl) (gB_l lq_cX12_halve (p := 9) (o := 254) rfl) rfl
theorem dX12_halve_10 : decode cX12_halve 10 = .ok (.ireturn, 1) := dc_172 (gB_l lq_cX12_halve (p := 10) (o := 172) rfl)
theorem dX12_halve_11 : decode cX12_halve 11 = .ok (.iconst (-1), 1) := dc_2 (gB_l lq_cX12_halve (p := 11) (o := 2) rfl)
theorem dX12_halve_12 : decode cX12_halve 12 = .ok (.istore_n 2, 1) := dc_61 (gB_l lq_cX12_halve (p := 12) (o := 61) rfl)
theorem dX12_halve_13 : decode cX12_halve 13 = .ok (.iconst 0, 1) := dc_3 (gB_l lq_cX12_halve (p := 13) (o := 3) rfl)
theorem dX12_halve_14 : decode cX12_halve 14 = .ok (.istore_n 3, 1) := dc_62 (gB_l lq_cX12_halve (p := 14) (o := 62) rfl)
theorem dX12_halve_15 : decode cX12_halve 15 = .ok (.iload_n 3, 1) := dc_29 (gB_l lq_cX12_halve (p := 15) (o := 29) rfl)
theorem dX12_halve_16 : decode cX12_halve 16 = .ok (.iconst 1, 1) := dc_4 (gB_l lq_cX12_halve (p := 16) (o := 4) rfl)
theorem dX12_halve_17 : decode cX12_halve 17 = .ok (.aload_n 0, 1) := dc_42 (gB_l lq_cX12_halve (p := 17) (o := 42) rfl)
theorem dX12_halve_18 : decode cX12_halve 18 = .ok (.iload_n 1, 1) := dc_27 (gB_l lq_cX12_halve (p := 18) (o := 27) rfl)
theorem dX12_halve_19 : decode cX12_halve 19 = .ok (.invokevirtual 63, 3) := dc_182 (gB_l lq_cX12_halve (p := 19) (o := 182) rfl) (gB_l lq_cX12_halve (p := 20) (o := 0) rfl) (gB_l lq_cX12_halve (p := 21) (o := 63) rfl) rfl
theorem dX12_halve_22 : decode cX12_halve 22 = .ok (.ishl, 1) := dc_120 (gB_l lq_cX12_halve (p := 22) (o := 120) rfl)
theorem dX12_halve_23 : decode cX12_halve 23 = .ok (.if_icmp .ge 47, 3) := dc_162 (gB_l lq_cX12_halve (p := 23) (o := 162) rfl) (gB_l lq_cX12_halve (p := 24) (o := 0) rfl) (gB_l lq_cX12_halve (p := 25) (o := 47) rfl) rfl
theorem dX12_halve_26 : decode cX12_halve 26 = .ok (.iload_n 3, 1) := dc_29 (gB_l lq_cX12_halve (p := 26) (o := 29) rfl)
theorem dX12_halve_27 : decode cX12_halve 27 = .ok (.invokestatic 84, 3) := dc_184 (gB_l lq_cX12_halve (p := 27) (o := 184) rfl) (gB_l lq_cX12_halve (p := 28) (o := 0) rfl) (gB_l lq_cX12_halve (p := 29) (o := 84) rfl) rfl
theorem dX12_halve_30 : decode cX12_halve 30 = .ok (.aload_n 0, 1) := dc_42 (gB_l lq_cX12_halve (p := 30) (o := 42) rfl)
theorem dX12_halve_31 : decode cX12_halve 31 = .ok (.iload_n 1, 1) := dc_27 (gB_l lq_cX12_halve (p := 31) (o := 27) rfl)
theorem dX12_halve_32 : decode cX12_halve 32 = .ok (.invokevirtual 63, 3) := dc_182 (gB_c lq_cX12_halve q1_cX12_halve 0 (o := 182) rfl) (gB_c lq_cX12_halve q1_cX12_halve 1 (o := 0) rfl) (gB_c lq_cX12_halve q1_cX12_halve 2 (o := 63) rfl) rfl
theorem dX12_halve_35 : decode cX12_halve 35 = .ok (.iconst 2, 1) := dc_5 (gB_c lq_cX12_halve q1_cX12_halve 3 (o := 5) rfl)
theorem dX12_halve_36 : decode cX12_halve 36 = .ok (.idiv, 1) := dc_108 (gB_c lq_cX12_halve q1_cX12_halve 4 (o := 108) rfl)
theorem dX12_halve_37 : decode cX12_halve 37 = .ok (.if_icmp .ne 27, 3) := dc_160 (gB_c lq_cX12_halve q1_cX12_halve 5 (o := 160) rfl) (gB_c lq_cX12_halve q1_cX12_halve 6 (o := 0) rfl) (gB_c lq_cX12_halve q1_cX12_halve 7 (o := 27) rfl) rfl
theorem dX12_halve_40 : decode cX12_halve 40 = .ok (.iload_n 2, 1) := dc_28 (gB_c lq_cX12_halve q1_cX12_halve 8 (o := 28) rfl)
theorem dX12_halve_41 : decode cX12_halve 41 = .ok (.iconst (-1), 1) := dc_2 (gB_c lq_cX12_halve q1_cX12_halve 9 (o := 2) rfl)
theorem dX12_halve_42 : decode cX12_halve 42 = .ok (.if_icmp .eq 20, 3) := dc_159 (gB_c lq_cX12_halve q1_cX12_halve 10 (o := 159) rfl) (gB_c lq_cX12_halve q1_cX12_halve 11 (o := 0) rfl) (gB_c lq_cX12_halve q1_cX12_halve 12 (o := 20) rfl) rfl
theorem dX12_halve_45 : decode cX12_halve 45 = .ok (.aload_n 0, 1) := dc_42 (gB_c lq_cX12_halve q1_cX12_halve 13 (o := 42) rfl)
theorem dX12_halve_46 : decode cX12_halve 46 = .ok (.iload_n 1, 1) := dc_27 (gB_c lq_cX12_halve q1_cX12_halve 14 (o := 27) rfl)
theorem dX12_halve_47 : decode cX12_halve 47 = .ok (.iload_n 3, 1) := dc_29 (gB_c lq_cX12_halve q1_cX12_halve 15 (o := 29) rfl)
theorem dX12_halve_48 : decode cX12_halve 48 = .ok (.iconst 0, 1) := dc_3 (gB_c lq_cX12_halve q1_cX12_halve 16 (o := 3) rfl)
theorem dX12_halve_49 : decode cX12_halve 49 = .ok (.invokevirtual 229, 3) := dc_182 (gB_c lq_cX12_halve q1_cX12_halve 17 (o := 182) rfl) (gB_c lq_cX12_halve q1_cX12_halve 18 (o := 0) rfl) (gB_c lq_cX12_halve q1_cX12_halve 19 (o := 229) rfl) rfl
theorem dX12_halve_52 : decode cX12_halve 52 = .ok (.aload_n 0, 1) := dc_42 (gB_c lq_cX12_halve q1_cX12_halve 20 (o := 42) rfl)
theorem dX12_halve_53 : decode cX12_halve 53 = .ok (.iload_n 1, 1) := dc_27 (gB_c lq_cX12_halve q1_cX12_halve 21 (o := 27) rfl)
theorem dX12_halve_54 : decode cX12_halve 54 = .ok (.iload_n 2, 1) := dc_28 (gB_c lq_cX12_halve q1_cX12_halve 22 (o := 28) rfl)
theorem dX12_halve_55 : decode cX12_halve 55 = .ok (.iconst 0, 1) := dc_3 (gB_c lq_cX12_halve q1_cX12_halve 23 (o := 3) rfl)
theorem dX12_halve_56 : decode cX12_halve 56 = .ok (.invokevirtual 229, 3) := dc_182 (gB_c lq_cX12_halve q1_cX12_halve 24 (o := 182) rfl) (gB_c lq_cX12_halve q1_cX12_halve 25 (o := 0) rfl) (gB_c lq_cX12_halve q1_cX12_halve 26 (o := 229) rfl) rfl
theorem dX12_halve_59 : decode cX12_halve 59 = .ok (.if_icmp .ge 5, 3) := dc_162 (gB_c lq_cX12_halve q1_cX12_halve 27 (o := 162) rfl) (gB_c lq_cX12_halve q1_cX12_halve 28 (o := 0) rfl) (gB_c lq_cX12_halve q1_cX12_halve 29 (o := 5) rfl) rfl
theorem dX12_halve_62 : decode cX12_halve 62 = .ok (.iload_n 3, 1) := dc_29 (gB_c lq_cX12_halve q1_cX12_halve 30 (o := 29) rfl)
theorem dX12_halve_63 : decode cX12_halve 63 = .ok (.istore_n 2, 1) := dc_61 (gB_c lq_cX12_halve q1_cX12_halve 31 (o := 61) rfl)
theorem dX12_halve_64 : decode cX12_halve 64 = .ok (.iinc 3 1, 3) := dc_132 (gB_c lq_cX12_halve q2_cX12_halve 0 (o := 132) rfl) (gB_c lq_cX12_halve q2_cX12_halve 1 (o := 3) rfl) (gB_c lq_cX12_halve q2_cX12_halve 2 (o := 1) rfl) rfl
theorem dX12_halve_67 : decode cX12_halve 67 = .ok (.goto (-52), 3) := dc_167 (gB_c lq_cX12_halve q2_cX12_halve 3 (o := 167) rfl) (gB_c lq_cX12_halve q2_cX12_halve 4 (o := 255) rfl) (gB_c lq_cX12_halve q2_cX12_halve 5 (o := 204) rfl) rfl
theorem dX12_halve_70 : decode cX12_halve 70 = .ok (.iload_n 2, 1) := dc_28 (gB_c lq_cX12_halve q2_cX12_halve 6 (o := 28) rfl)
theorem dX12_halve_71 : decode cX12_halve 71 = .ok (.ireturn, 1) := dc_172 (gB_c lq_cX12_halve q2_cX12_halve 7 (o := 172) rfl)
abbrev r0_cX12_has : List Nat := [26, 27, 122, 4, 126, 4, 160, 0, 7, 4, 167, 0, 4, 3, 172]
theorem lq_cX12_has : (cX12_has).data.toList.map UInt8.toNat = r0_cX12_has := by decide +kernel
theorem dX12_has_0 : decode cX12_has 0 = .ok (.iload_n 0, 1) := dc_26 (gB_l lq_cX12_has (p := 0) (o := 26) rfl)
theorem dX12_has_1 : decode cX12_has 1 = .ok (.iload_n 1, 1) := dc_27 (gB_l lq_cX12_has (p := 1) (o := 27) rfl)
theorem dX12_has_2 : decode cX12_has 2 = .ok (.ishr, 1) := dc_122 (gB_l lq_cX12_has (p := 2) (o := 122) rfl)
theorem dX12_has_3 : decode cX12_has 3 = .ok (.iconst 1, 1) := dc_4 (gB_l lq_cX12_has (p := 3) (o := 4) rfl)
theorem dX12_has_4 : decode cX12_has 4 = .ok (.iand, 1) := dc_126 (gB_l lq_cX12_has (p := 4) (o := 126) rfl)
theorem dX12_has_5 : decode cX12_has 5 = .ok (.iconst 1, 1) := dc_4 (gB_l lq_cX12_has (p := 5) (o := 4) rfl)
theorem dX12_has_6 : decode cX12_has 6 = .ok (.if_icmp .ne 7, 3) := dc_160 (gB_l lq_cX12_has (p := 6) (o := 160) rfl) (gB_l lq_cX12_has (p := 7) (o := 0) rfl) (gB_l lq_cX12_has (p := 8) (o := 7) rfl) rfl
theorem dX12_has_9 : decode cX12_has 9 = .ok (.iconst 1, 1) := dc_4 (gB_l lq_cX12_has (p := 9) (o := 4) rfl)
theorem dX12_has_10 : decode cX12_has 10 = .ok (.goto 4, 3) := dc_167 (gB_l lq_cX12_has (p := 10) (o := 167) rfl) (gB_l lq_cX12_has (p := 11) (o := 0) rfl) (gB_l lq_cX12_has (p := 12) (o := 4) rfl) rfl
theorem dX12_has_13 : decode cX12_has 13 = .ok (.iconst 0, 1) := dc_3 (gB_l lq_cX12_has (p := 13) (o := 3) rfl)
theorem dX12_has_14 : decode cX12_has 14 = .ok (.ireturn, 1) := dc_172 (gB_l lq_cX12_has (p := 14) (o := 172) rfl)
abbrev r1_cX12_here : List Nat := [28, 133, 184, 0, 55, 154, 0, 8, 42, 5, 182, 0, 143, 42, 180, 0, 123, 153, 0, 7, 27, 167, 0, 7, 42, 180, 0, 112, 172]
def a0_cX12_here : List Nat := [42, 180, 0, 123, 153, 0, 5, 27, 172, 42, 180, 0, 115, 5, 159, 0, 11, 42, 4, 182, 0, 143, 167, 0, 23, 42, 180, 0, 112, 133, 27, 133]
abbrev r0_cX12_here : List Nat := a0_cX12_here ++ r1_cX12_here
theorem lq_cX12_here : (cX12_here).data.toList.map UInt8.toNat = r0_cX12_here := by decide +kernel
theorem q1_cX12_here : ∀ i, (r0_cX12_here)[32 + i]? = (r1_cX12_here)[i]? := chn (A := a0_cX12_here) (B := r1_cX12_here) (n := 0) (k := 32) rfl (ch0 (R := r0_cX12_here))
theorem dX12_here_0 : decode cX12_here 0 = .ok (.aload_n 0, 1) := dc_42 (gB_l lq_cX12_here (p := 0) (o := 42) rfl)
theorem dX12_here_1 : decode cX12_here 1 = .ok (.getfield 123, 3) := dc_180 (gB_l lq_cX12_here (p := 1) (o := 180) rfl) (gB_l lq_cX12_here (p := 2) (o := 0) rfl) (gB_l lq_cX12_here (p := 3) (o := 123) rfl) rfl
theorem dX12_here_4 : decode cX12_here 4 = .ok (.ifCond .eq 5, 3) := dc_153 (gB_l lq_cX12_here (p := 4) (o := 153) rfl) (gB_l lq_cX12_here (p := 5) (o := 0) rfl) (gB_l lq_cX12_here (p := 6) (o := 5) rfl) rfl
theorem dX12_here_7 : decode cX12_here 7 = .ok (.iload_n 1, 1) := dc_27 (gB_l lq_cX12_here (p := 7) (o := 27) rfl)
theorem dX12_here_8 : decode cX12_here 8 = .ok (.ireturn, 1) := dc_172 (gB_l lq_cX12_here (p := 8) (o := 172) rfl)
theorem dX12_here_9 : decode cX12_here 9 = .ok (.aload_n 0, 1) := dc_42 (gB_l lq_cX12_here (p := 9) (o := 42) rfl)
theorem dX12_here_10 : decode cX12_here 10 = .ok (.getfield 115, 3) := dc_180 (gB_l lq_cX12_here (p := 10) (o := 180) rfl) (gB_l lq_cX12_here (p := 11) (o := 0) rfl) (gB_l lq_cX12_here (p := 12) (o := 115) rfl) rfl
theorem dX12_here_13 : decode cX12_here 13 = .ok (.iconst 2, 1) := dc_5 (gB_l lq_cX12_here (p := 13) (o := 5) rfl)
theorem dX12_here_14 : decode cX12_here 14 = .ok (.if_icmp .eq 11, 3) := dc_159 (gB_l lq_cX12_here (p := 14) (o := 159) rfl) (gB_l lq_cX12_here (p := 15) (o := 0) rfl) (gB_l lq_cX12_here (p := 16) (o := 11) rfl) rfl
theorem dX12_here_17 : decode cX12_here 17 = .ok (.aload_n 0, 1) := dc_42 (gB_l lq_cX12_here (p := 17) (o := 42) rfl)
theorem dX12_here_18 : decode cX12_here 18 = .ok (.iconst 1, 1) := dc_4 (gB_l lq_cX12_here (p := 18) (o := 4) rfl)
theorem dX12_here_19 : decode cX12_here 19 = .ok (.invokevirtual 143, 3) := dc_182 (gB_l lq_cX12_here (p := 19) (o := 182) rfl) (gB_l lq_cX12_here (p := 20) (o := 0) rfl) (gB_l lq_cX12_here (p := 21) (o := 143) rfl) rfl
theorem dX12_here_22 : decode cX12_here 22 = .ok (.goto 23, 3) := dc_167 (gB_l lq_cX12_here (p := 22) (o := 167) rfl) (gB_l lq_cX12_here (p := 23) (o := 0) rfl) (gB_l lq_cX12_here (p := 24) (o := 23) rfl) rfl
theorem dX12_here_25 : decode cX12_here 25 = .ok (.aload_n 0, 1) := dc_42 (gB_l lq_cX12_here (p := 25) (o := 42) rfl)
theorem dX12_here_26 : decode cX12_here 26 = .ok (.getfield 112, 3) := dc_180 (gB_l lq_cX12_here (p := 26) (o := 180) rfl) (gB_l lq_cX12_here (p := 27) (o := 0) rfl) (gB_l lq_cX12_here (p := 28) (o := 112) rfl) rfl
theorem dX12_here_29 : decode cX12_here 29 = .ok (.i2l, 1) := dc_133 (gB_l lq_cX12_here (p := 29) (o := 133) rfl)
theorem dX12_here_30 : decode cX12_here 30 = .ok (.iload_n 1, 1) := dc_27 (gB_l lq_cX12_here (p := 30) (o := 27) rfl)
theorem dX12_here_31 : decode cX12_here 31 = .ok (.i2l, 1) := dc_133 (gB_l lq_cX12_here (p := 31) (o := 133) rfl)
theorem dX12_here_32 : decode cX12_here 32 = .ok (.iload_n 2, 1) := dc_28 (gB_c lq_cX12_here q1_cX12_here 0 (o := 28) rfl)
theorem dX12_here_33 : decode cX12_here 33 = .ok (.i2l, 1) := dc_133 (gB_c lq_cX12_here q1_cX12_here 1 (o := 133) rfl)
theorem dX12_here_34 : decode cX12_here 34 = .ok (.invokestatic 55, 3) := dc_184 (gB_c lq_cX12_here q1_cX12_here 2 (o := 184) rfl) (gB_c lq_cX12_here q1_cX12_here 3 (o := 0) rfl) (gB_c lq_cX12_here q1_cX12_here 4 (o := 55) rfl) rfl
theorem dX12_here_37 : decode cX12_here 37 = .ok (.ifCond .ne 8, 3) := dc_154 (gB_c lq_cX12_here q1_cX12_here 5 (o := 154) rfl) (gB_c lq_cX12_here q1_cX12_here 6 (o := 0) rfl) (gB_c lq_cX12_here q1_cX12_here 7 (o := 8) rfl) rfl
theorem dX12_here_40 : decode cX12_here 40 = .ok (.aload_n 0, 1) := dc_42 (gB_c lq_cX12_here q1_cX12_here 8 (o := 42) rfl)
theorem dX12_here_41 : decode cX12_here 41 = .ok (.iconst 2, 1) := dc_5 (gB_c lq_cX12_here q1_cX12_here 9 (o := 5) rfl)
theorem dX12_here_42 : decode cX12_here 42 = .ok (.invokevirtual 143, 3) := dc_182 (gB_c lq_cX12_here q1_cX12_here 10 (o := 182) rfl) (gB_c lq_cX12_here q1_cX12_here 11 (o := 0) rfl) (gB_c lq_cX12_here q1_cX12_here 12 (o := 143) rfl) rfl
theorem dX12_here_45 : decode cX12_here 45 = .ok (.aload_n 0, 1) := dc_42 (gB_c lq_cX12_here q1_cX12_here 13 (o := 42) rfl)
theorem dX12_here_46 : decode cX12_here 46 = .ok (.getfield 123, 3) := dc_180 (gB_c lq_cX12_here q1_cX12_here 14 (o := 180) rfl) (gB_c lq_cX12_here q1_cX12_here 15 (o := 0) rfl) (gB_c lq_cX12_here q1_cX12_here 16 (o := 123) rfl) rfl
theorem dX12_here_49 : decode cX12_here 49 = .ok (.ifCond .eq 7, 3) := dc_153 (gB_c lq_cX12_here q1_cX12_here 17 (o := 153) rfl) (gB_c lq_cX12_here q1_cX12_here 18 (o := 0) rfl) (gB_c lq_cX12_here q1_cX12_here 19 (o := 7) rfl) rfl
theorem dX12_here_52 : decode cX12_here 52 = .ok (.iload_n 1, 1) := dc_27 (gB_c lq_cX12_here q1_cX12_here 20 (o := 27) rfl)
theorem dX12_here_53 : decode cX12_here 53 = .ok (.goto 7, 3) := dc_167 (gB_c lq_cX12_here q1_cX12_here 21 (o := 167) rfl) (gB_c lq_cX12_here q1_cX12_here 22 (o := 0) rfl) (gB_c lq_cX12_here q1_cX12_here 23 (o := 7) rfl) rfl
theorem dX12_here_56 : decode cX12_here 56 = .ok (.aload_n 0, 1) := dc_42 (gB_c lq_cX12_here q1_cX12_here 24 (o := 42) rfl)
theorem dX12_here_57 : decode cX12_here 57 = .ok (.getfield 112, 3) := dc_180 (gB_c lq_cX12_here q1_cX12_here 25 (o := 180) rfl) (gB_c lq_cX12_here q1_cX12_here 26 (o := 0) rfl) (gB_c lq_cX12_here q1_cX12_here 27 (o := 112) rfl) rfl
theorem dX12_here_60 : decode cX12_here 60 = .ok (.ireturn, 1) := dc_172 (gB_c lq_cX12_here q1_cX12_here 28 (o := 172) rfl)
abbrev r0_cX12_in : List Nat := [30, 32, 148, 155, 0, 14, 30, 22, 4, 148, 157, 0, 7, 4, 167, 0, 4, 3, 172]
theorem lq_cX12_in : (cX12_in).data.toList.map UInt8.toNat = r0_cX12_in := by decide +kernel
theorem dX12_in_0 : decode cX12_in 0 = .ok (.lload_n 0, 1) := dc_30 (gB_l lq_cX12_in (p := 0) (o := 30) rfl)
theorem dX12_in_1 : decode cX12_in 1 = .ok (.lload_n 2, 1) := dc_32 (gB_l lq_cX12_in (p := 1) (o := 32) rfl)
theorem dX12_in_2 : decode cX12_in 2 = .ok (.lcmp, 1) := dc_148 (gB_l lq_cX12_in (p := 2) (o := 148) rfl)
theorem dX12_in_3 : decode cX12_in 3 = .ok (.ifCond .lt 14, 3) := dc_155 (gB_l lq_cX12_in (p := 3) (o := 155) rfl) (gB_l lq_cX12_in (p := 4) (o := 0) rfl) (gB_l lq_cX12_in (p := 5) (o := 14) rfl) rfl
theorem dX12_in_6 : decode cX12_in 6 = .ok (.lload_n 0, 1) := dc_30 (gB_l lq_cX12_in (p := 6) (o := 30) rfl)
theorem dX12_in_7 : decode cX12_in 7 = .ok (.lload 4, 2) := dc_22 (gB_l lq_cX12_in (p := 7) (o := 22) rfl) (gB_l lq_cX12_in (p := 8) (o := 4) rfl)
theorem dX12_in_9 : decode cX12_in 9 = .ok (.lcmp, 1) := dc_148 (gB_l lq_cX12_in (p := 9) (o := 148) rfl)
theorem dX12_in_10 : decode cX12_in 10 = .ok (.ifCond .gt 7, 3) := dc_157 (gB_l lq_cX12_in (p := 10) (o := 157) rfl) (gB_l lq_cX12_in (p := 11) (o := 0) rfl) (gB_l lq_cX12_in (p := 12) (o := 7) rfl) rfl
theorem dX12_in_13 : decode cX12_in 13 = .ok (.iconst 1, 1) := dc_4 (gB_l lq_cX12_in (p := 13) (o := 4) rfl)
theorem dX12_in_14 : decode cX12_in 14 = .ok (.goto 4, 3) := dc_167 (gB_l lq_cX12_in (p := 14) (o := 167) rfl) (gB_l lq_cX12_in (p := 15) (o := 0) rfl) (gB_l lq_cX12_in (p := 16) (o := 4) rfl) rfl
theorem dX12_in_17 : decode cX12_in 17 = .ok (.iconst 0, 1) := dc_3 (gB_l lq_cX12_in (p := 17) (o := 3) rfl)
theorem dX12_in_18 : decode cX12_in 18 = .ok (.ireturn, 1) := dc_172 (gB_l lq_cX12_in (p := 18) (o := 172) rfl)
abbrev r3_cX12_init : List Nat := [42, 16, 9, 188, 10, 181, 0, 44, 42, 16, 81, 188, 10, 181, 0, 47, 42, 17, 1, 144, 188, 10, 181, 0, 50, 177]
def a2_cX12_init : List Nat := [2, 0, 188, 10, 181, 0, 32, 42, 17, 18, 0, 188, 10, 181, 0, 35, 42, 16, 9, 188, 10, 181, 0, 38, 42, 16, 9, 188, 10, 181, 0, 41]
abbrev r2_cX12_init : List Nat := a2_cX12_init ++ r3_cX12_init
def a1_cX12_init : List Nat := [17, 1, 144, 188, 10, 181, 0, 19, 42, 2, 181, 0, 22, 42, 16, 9, 188, 10, 181, 0, 26, 42, 17, 2, 0, 188, 10, 181, 0, 29, 42, 17]
abbrev r1_cX12_init : List Nat := a1_cX12_init ++ r2_cX12_init
def a0_cX12_init : List Nat := [42, 183, 0, 1, 42, 17, 1, 17, 188, 10, 181, 0, 7, 42, 17, 1, 17, 188, 10, 181, 0, 13, 42, 17, 10, 170, 188, 10, 181, 0, 16, 42]
abbrev r0_cX12_init : List Nat := a0_cX12_init ++ r1_cX12_init
theorem lq_cX12_init : (cX12_init).data.toList.map UInt8.toNat = r0_cX12_init := by decide +kernel
theorem q1_cX12_init : ∀ i, (r0_cX12_init)[32 + i]? = (r1_cX12_init)[i]? := chn (A := a0_cX12_init) (B := r1_cX12_init) (n := 0) (k := 32) rfl (ch0 (R := r0_cX12_init))
theorem q2_cX12_init : ∀ i, (r0_cX12_init)[64 + i]? = (r2_cX12_init)[i]? := chn (A := a1_cX12_init) (B := r2_cX12_init) (n := 32) (k := 32) rfl q1_cX12_init
theorem q3_cX12_init : ∀ i, (r0_cX12_init)[96 + i]? = (r3_cX12_init)[i]? := chn (A := a2_cX12_init) (B := r3_cX12_init) (n := 64) (k := 32) rfl q2_cX12_init
theorem dX12_init_0 : decode cX12_init 0 = .ok (.aload_n 0, 1) := dc_42 (gB_l lq_cX12_init (p := 0) (o := 42) rfl)
theorem dX12_init_1 : decode cX12_init 1 = .ok (.invokespecial 1, 3) := dc_183 (gB_l lq_cX12_init (p := 1) (o := 183) rfl) (gB_l lq_cX12_init (p := 2) (o := 0) rfl) (gB_l lq_cX12_init (p := 3) (o := 1) rfl) rfl
theorem dX12_init_4 : decode cX12_init 4 = .ok (.aload_n 0, 1) := dc_42 (gB_l lq_cX12_init (p := 4) (o := 42) rfl)
theorem dX12_init_5 : decode cX12_init 5 = .ok (.sipush 273, 3) := dc_17 (gB_l lq_cX12_init (p := 5) (o := 17) rfl) (gB_l lq_cX12_init (p := 6) (o := 1) rfl) (gB_l lq_cX12_init (p := 7) (o := 17) rfl) rfl
theorem dX12_init_8 : decode cX12_init 8 = .ok (.newarray .int, 2) := dn_10 (gB_l lq_cX12_init (p := 8) (o := 188) rfl) (gB_l lq_cX12_init (p := 9) (o := 10) rfl)
theorem dX12_init_10 : decode cX12_init 10 = .ok (.putfield 7, 3) := dc_181 (gB_l lq_cX12_init (p := 10) (o := 181) rfl) (gB_l lq_cX12_init (p := 11) (o := 0) rfl) (gB_l lq_cX12_init (p := 12) (o := 7) rfl) rfl
theorem dX12_init_13 : decode cX12_init 13 = .ok (.aload_n 0, 1) := dc_42 (gB_l lq_cX12_init (p := 13) (o := 42) rfl)
theorem dX12_init_14 : decode cX12_init 14 = .ok (.sipush 273, 3) := dc_17 (gB_l lq_cX12_init (p := 14) (o := 17) rfl) (gB_l lq_cX12_init (p := 15) (o := 1) rfl) (gB_l lq_cX12_init (p := 16) (o := 17) rfl) rfl
theorem dX12_init_17 : decode cX12_init 17 = .ok (.newarray .int, 2) := dn_10 (gB_l lq_cX12_init (p := 17) (o := 188) rfl) (gB_l lq_cX12_init (p := 18) (o := 10) rfl)
theorem dX12_init_19 : decode cX12_init 19 = .ok (.putfield 13, 3) := dc_181 (gB_l lq_cX12_init (p := 19) (o := 181) rfl) (gB_l lq_cX12_init (p := 20) (o := 0) rfl) (gB_l lq_cX12_init (p := 21) (o := 13) rfl) rfl
theorem dX12_init_22 : decode cX12_init 22 = .ok (.aload_n 0, 1) := dc_42 (gB_l lq_cX12_init (p := 22) (o := 42) rfl)
theorem dX12_init_23 : decode cX12_init 23 = .ok (.sipush 2730, 3) := dc_17 (gB_l lq_cX12_init (p := 23) (o := 17) rfl) (gB_l lq_cX12_init (p := 24) (o := 10) rfl) (gB_l lq_cX12_init (p := 25) (o := 170) rfl) rfl
theorem dX12_init_26 : decode cX12_init 26 = .ok (.newarray .int, 2) := dn_10 (gB_l lq_cX12_init (p := 26) (o := 188) rfl) (gB_l lq_cX12_init (p := 27) (o := 10) rfl)
theorem dX12_init_28 : decode cX12_init 28 = .ok (.putfield 16, 3) := dc_181 (gB_l lq_cX12_init (p := 28) (o := 181) rfl) (gB_l lq_cX12_init (p := 29) (o := 0) rfl) (gB_l lq_cX12_init (p := 30) (o := 16) rfl) rfl
theorem dX12_init_31 : decode cX12_init 31 = .ok (.aload_n 0, 1) := dc_42 (gB_l lq_cX12_init (p := 31) (o := 42) rfl)
theorem dX12_init_32 : decode cX12_init 32 = .ok (.sipush 400, 3) := dc_17 (gB_c lq_cX12_init q1_cX12_init 0 (o := 17) rfl) (gB_c lq_cX12_init q1_cX12_init 1 (o := 1) rfl) (gB_c lq_cX12_init q1_cX12_init 2 (o := 144) rfl) rfl
theorem dX12_init_35 : decode cX12_init 35 = .ok (.newarray .int, 2) := dn_10 (gB_c lq_cX12_init q1_cX12_init 3 (o := 188) rfl) (gB_c lq_cX12_init q1_cX12_init 4 (o := 10) rfl)
theorem dX12_init_37 : decode cX12_init 37 = .ok (.putfield 19, 3) := dc_181 (gB_c lq_cX12_init q1_cX12_init 5 (o := 181) rfl) (gB_c lq_cX12_init q1_cX12_init 6 (o := 0) rfl) (gB_c lq_cX12_init q1_cX12_init 7 (o := 19) rfl) rfl
theorem dX12_init_40 : decode cX12_init 40 = .ok (.aload_n 0, 1) := dc_42 (gB_c lq_cX12_init q1_cX12_init 8 (o := 42) rfl)
theorem dX12_init_41 : decode cX12_init 41 = .ok (.iconst (-1), 1) := dc_2 (gB_c lq_cX12_init q1_cX12_init 9 (o := 2) rfl)
theorem dX12_init_42 : decode cX12_init 42 = .ok (.putfield 22, 3) := dc_181 (gB_c lq_cX12_init q1_cX12_init 10 (o := 181) rfl) (gB_c lq_cX12_init q1_cX12_init 11 (o := 0) rfl) (gB_c lq_cX12_init q1_cX12_init 12 (o := 22) rfl) rfl
theorem dX12_init_45 : decode cX12_init 45 = .ok (.aload_n 0, 1) := dc_42 (gB_c lq_cX12_init q1_cX12_init 13 (o := 42) rfl)
theorem dX12_init_46 : decode cX12_init 46 = .ok (.bipush 9, 2) := dc_16 (gB_c lq_cX12_init q1_cX12_init 14 (o := 16) rfl) (gB_c lq_cX12_init q1_cX12_init 15 (o := 9) rfl) rfl
theorem dX12_init_48 : decode cX12_init 48 = .ok (.newarray .int, 2) := dn_10 (gB_c lq_cX12_init q1_cX12_init 16 (o := 188) rfl) (gB_c lq_cX12_init q1_cX12_init 17 (o := 10) rfl)
theorem dX12_init_50 : decode cX12_init 50 = .ok (.putfield 26, 3) := dc_181 (gB_c lq_cX12_init q1_cX12_init 18 (o := 181) rfl) (gB_c lq_cX12_init q1_cX12_init 19 (o := 0) rfl) (gB_c lq_cX12_init q1_cX12_init 20 (o := 26) rfl) rfl
theorem dX12_init_53 : decode cX12_init 53 = .ok (.aload_n 0, 1) := dc_42 (gB_c lq_cX12_init q1_cX12_init 21 (o := 42) rfl)
theorem dX12_init_54 : decode cX12_init 54 = .ok (.sipush 512, 3) := dc_17 (gB_c lq_cX12_init q1_cX12_init 22 (o := 17) rfl) (gB_c lq_cX12_init q1_cX12_init 23 (o := 2) rfl) (gB_c lq_cX12_init q1_cX12_init 24 (o := 0) rfl) rfl
theorem dX12_init_57 : decode cX12_init 57 = .ok (.newarray .int, 2) := dn_10 (gB_c lq_cX12_init q1_cX12_init 25 (o := 188) rfl) (gB_c lq_cX12_init q1_cX12_init 26 (o := 10) rfl)
theorem dX12_init_59 : decode cX12_init 59 = .ok (.putfield 29, 3) := dc_181 (gB_c lq_cX12_init q1_cX12_init 27 (o := 181) rfl) (gB_c lq_cX12_init q1_cX12_init 28 (o := 0) rfl) (gB_c lq_cX12_init q1_cX12_init 29 (o := 29) rfl) rfl
theorem dX12_init_62 : decode cX12_init 62 = .ok (.aload_n 0, 1) := dc_42 (gB_c lq_cX12_init q1_cX12_init 30 (o := 42) rfl)
theorem dX12_init_63 : decode cX12_init 63 = .ok (.sipush 512, 3) := dc_17 (gB_c lq_cX12_init q1_cX12_init 31 (o := 17) rfl) (gB_c lq_cX12_init q2_cX12_init 0 (o := 2) rfl) (gB_c lq_cX12_init q2_cX12_init 1 (o := 0) rfl) rfl
theorem dX12_init_66 : decode cX12_init 66 = .ok (.newarray .int, 2) := dn_10 (gB_c lq_cX12_init q2_cX12_init 2 (o := 188) rfl) (gB_c lq_cX12_init q2_cX12_init 3 (o := 10) rfl)
theorem dX12_init_68 : decode cX12_init 68 = .ok (.putfield 32, 3) := dc_181 (gB_c lq_cX12_init q2_cX12_init 4 (o := 181) rfl) (gB_c lq_cX12_init q2_cX12_init 5 (o := 0) rfl) (gB_c lq_cX12_init q2_cX12_init 6 (o := 32) rfl) rfl
theorem dX12_init_71 : decode cX12_init 71 = .ok (.aload_n 0, 1) := dc_42 (gB_c lq_cX12_init q2_cX12_init 7 (o := 42) rfl)
theorem dX12_init_72 : decode cX12_init 72 = .ok (.sipush 4608, 3) := dc_17 (gB_c lq_cX12_init q2_cX12_init 8 (o := 17) rfl) (gB_c lq_cX12_init q2_cX12_init 9 (o := 18) rfl) (gB_c lq_cX12_init q2_cX12_init 10 (o := 0) rfl) rfl
theorem dX12_init_75 : decode cX12_init 75 = .ok (.newarray .int, 2) := dn_10 (gB_c lq_cX12_init q2_cX12_init 11 (o := 188) rfl) (gB_c lq_cX12_init q2_cX12_init 12 (o := 10) rfl)
theorem dX12_init_77 : decode cX12_init 77 = .ok (.putfield 35, 3) := dc_181 (gB_c lq_cX12_init q2_cX12_init 13 (o := 181) rfl) (gB_c lq_cX12_init q2_cX12_init 14 (o := 0) rfl) (gB_c lq_cX12_init q2_cX12_init 15 (o := 35) rfl) rfl
theorem dX12_init_80 : decode cX12_init 80 = .ok (.aload_n 0, 1) := dc_42 (gB_c lq_cX12_init q2_cX12_init 16 (o := 42) rfl)
theorem dX12_init_81 : decode cX12_init 81 = .ok (.bipush 9, 2) := dc_16 (gB_c lq_cX12_init q2_cX12_init 17 (o := 16) rfl) (gB_c lq_cX12_init q2_cX12_init 18 (o := 9) rfl) rfl
theorem dX12_init_83 : decode cX12_init 83 = .ok (.newarray .int, 2) := dn_10 (gB_c lq_cX12_init q2_cX12_init 19 (o := 188) rfl) (gB_c lq_cX12_init q2_cX12_init 20 (o := 10) rfl)
theorem dX12_init_85 : decode cX12_init 85 = .ok (.putfield 38, 3) := dc_181 (gB_c lq_cX12_init q2_cX12_init 21 (o := 181) rfl) (gB_c lq_cX12_init q2_cX12_init 22 (o := 0) rfl) (gB_c lq_cX12_init q2_cX12_init 23 (o := 38) rfl) rfl
theorem dX12_init_88 : decode cX12_init 88 = .ok (.aload_n 0, 1) := dc_42 (gB_c lq_cX12_init q2_cX12_init 24 (o := 42) rfl)
theorem dX12_init_89 : decode cX12_init 89 = .ok (.bipush 9, 2) := dc_16 (gB_c lq_cX12_init q2_cX12_init 25 (o := 16) rfl) (gB_c lq_cX12_init q2_cX12_init 26 (o := 9) rfl) rfl
theorem dX12_init_91 : decode cX12_init 91 = .ok (.newarray .int, 2) := dn_10 (gB_c lq_cX12_init q2_cX12_init 27 (o := 188) rfl) (gB_c lq_cX12_init q2_cX12_init 28 (o := 10) rfl)
theorem dX12_init_93 : decode cX12_init 93 = .ok (.putfield 41, 3) := dc_181 (gB_c lq_cX12_init q2_cX12_init 29 (o := 181) rfl) (gB_c lq_cX12_init q2_cX12_init 30 (o := 0) rfl) (gB_c lq_cX12_init q2_cX12_init 31 (o := 41) rfl) rfl
theorem dX12_init_96 : decode cX12_init 96 = .ok (.aload_n 0, 1) := dc_42 (gB_c lq_cX12_init q3_cX12_init 0 (o := 42) rfl)
theorem dX12_init_97 : decode cX12_init 97 = .ok (.bipush 9, 2) := dc_16 (gB_c lq_cX12_init q3_cX12_init 1 (o := 16) rfl) (gB_c lq_cX12_init q3_cX12_init 2 (o := 9) rfl) rfl
theorem dX12_init_99 : decode cX12_init 99 = .ok (.newarray .int, 2) := dn_10 (gB_c lq_cX12_init q3_cX12_init 3 (o := 188) rfl) (gB_c lq_cX12_init q3_cX12_init 4 (o := 10) rfl)
theorem dX12_init_101 : decode cX12_init 101 = .ok (.putfield 44, 3) := dc_181 (gB_c lq_cX12_init q3_cX12_init 5 (o := 181) rfl) (gB_c lq_cX12_init q3_cX12_init 6 (o := 0) rfl) (gB_c lq_cX12_init q3_cX12_init 7 (o := 44) rfl) rfl
theorem dX12_init_104 : decode cX12_init 104 = .ok (.aload_n 0, 1) := dc_42 (gB_c lq_cX12_init q3_cX12_init 8 (o := 42) rfl)
theorem dX12_init_105 : decode cX12_init 105 = .ok (.bipush 81, 2) := dc_16 (gB_c lq_cX12_init q3_cX12_init 9 (o := 16) rfl) (gB_c lq_cX12_init q3_cX12_init 10 (o := 81) rfl) rfl
theorem dX12_init_107 : decode cX12_init 107 = .ok (.newarray .int, 2) := dn_10 (gB_c lq_cX12_init q3_cX12_init 11 (o := 188) rfl) (gB_c lq_cX12_init q3_cX12_init 12 (o := 10) rfl)
theorem dX12_init_109 : decode cX12_init 109 = .ok (.putfield 47, 3) := dc_181 (gB_c lq_cX12_init q3_cX12_init 13 (o := 181) rfl) (gB_c lq_cX12_init q3_cX12_init 14 (o := 0) rfl) (gB_c lq_cX12_init q3_cX12_init 15 (o := 47) rfl) rfl
theorem dX12_init_112 : decode cX12_init 112 = .ok (.aload_n 0, 1) := dc_42 (gB_c lq_cX12_init q3_cX12_init 16 (o := 42) rfl)
theorem dX12_init_113 : decode cX12_init 113 = .ok (.sipush 400, 3) := dc_17 (gB_c lq_cX12_init q3_cX12_init 17 (o := 17) rfl) (gB_c lq_cX12_init q3_cX12_init 18 (o := 1) rfl) (gB_c lq_cX12_init q3_cX12_init 19 (o := 144) rfl) rfl
theorem dX12_init_116 : decode cX12_init 116 = .ok (.newarray .int, 2) := dn_10 (gB_c lq_cX12_init q3_cX12_init 20 (o := 188) rfl) (gB_c lq_cX12_init q3_cX12_init 21 (o := 10) rfl)
theorem dX12_init_118 : decode cX12_init 118 = .ok (.putfield 50, 3) := dc_181 (gB_c lq_cX12_init q3_cX12_init 22 (o := 181) rfl) (gB_c lq_cX12_init q3_cX12_init 23 (o := 0) rfl) (gB_c lq_cX12_init q3_cX12_init 24 (o := 50) rfl) rfl
theorem dX12_init_121 : decode cX12_init 121 = .ok (.return_, 1) := dc_177 (gB_c lq_cX12_init q3_cX12_init 25 (o := 177) rfl)
abbrev r1_cX12_isAt : List Nat := [167, 0, 4, 3, 172]
def a0_cX12_isAt : List Nat := [42, 180, 0, 103, 42, 180, 0, 100, 162, 0, 27, 42, 180, 0, 19, 42, 180, 0, 103, 46, 133, 27, 133, 28, 133, 184, 0, 55, 153, 0, 7, 4]
abbrev r0_cX12_isAt : List Nat := a0_cX12_isAt ++ r1_cX12_isAt
theorem lq_cX12_isAt : (cX12_isAt).data.toList.map UInt8.toNat = r0_cX12_isAt := by decide +kernel
theorem q1_cX12_isAt : ∀ i, (r0_cX12_isAt)[32 + i]? = (r1_cX12_isAt)[i]? := chn (A := a0_cX12_isAt) (B := r1_cX12_isAt) (n := 0) (k := 32) rfl (ch0 (R := r0_cX12_isAt))
theorem dX12_isAt_0 : decode cX12_isAt 0 = .ok (.aload_n 0, 1) := dc_42 (gB_l lq_cX12_isAt (p := 0) (o := 42) rfl)
theorem dX12_isAt_1 : decode cX12_isAt 1 = .ok (.getfield 103, 3) := dc_180 (gB_l lq_cX12_isAt (p := 1) (o := 180) rfl) (gB_l lq_cX12_isAt (p := 2) (o := 0) rfl) (gB_l lq_cX12_isAt (p := 3) (o := 103) rfl) rfl
theorem dX12_isAt_4 : decode cX12_isAt 4 = .ok (.aload_n 0, 1) := dc_42 (gB_l lq_cX12_isAt (p := 4) (o := 42) rfl)
theorem dX12_isAt_5 : decode cX12_isAt 5 = .ok (.getfield 100, 3) := dc_180 (gB_l lq_cX12_isAt (p := 5) (o := 180) rfl) (gB_l lq_cX12_isAt (p := 6) (o := 0) rfl) (gB_l lq_cX12_isAt (p := 7) (o := 100) rfl) rfl
theorem dX12_isAt_8 : decode cX12_isAt 8 = .ok (.if_icmp .ge 27, 3) := dc_162 (gB_l lq_cX12_isAt (p := 8) (o := 162) rfl) (gB_l lq_cX12_isAt (p := 9) (o := 0) rfl) (gB_l lq_cX12_isAt (p := 10) (o := 27) rfl) rfl
theorem dX12_isAt_11 : decode cX12_isAt 11 = .ok (.aload_n 0, 1) := dc_42 (gB_l lq_cX12_isAt (p := 11) (o := 42) rfl)
theorem dX12_isAt_12 : decode cX12_isAt 12 = .ok (.getfield 19, 3) := dc_180 (gB_l lq_cX12_isAt (p := 12) (o := 180) rfl) (gB_l lq_cX12_isAt (p := 13) (o := 0) rfl) (gB_l lq_cX12_isAt (p := 14) (o := 19) rfl) rfl
theorem dX12_isAt_15 : decode cX12_isAt 15 = .ok (.aload_n 0, 1) := dc_42 (gB_l lq_cX12_isAt (p := 15) (o := 42) rfl)
theorem dX12_isAt_16 : decode cX12_isAt 16 = .ok (.getfield 103, 3) := dc_180 (gB_l lq_cX12_isAt (p := 16) (o := 180) rfl) (gB_l lq_cX12_isAt (p := 17) (o := 0) rfl) (gB_l lq_cX12_isAt (p := 18) (o := 103) rfl) rfl
theorem dX12_isAt_19 : decode cX12_isAt 19 = .ok (.iaload, 1) := dc_46 (gB_l lq_cX12_isAt (p := 19) (o := 46) rfl)
theorem dX12_isAt_20 : decode cX12_isAt 20 = .ok (.i2l, 1) := dc_133 (gB_l lq_cX12_isAt (p := 20) (o := 133) rfl)
theorem dX12_isAt_21 : decode cX12_isAt 21 = .ok (.iload_n 1, 1) := dc_27 (gB_l lq_cX12_isAt (p := 21) (o := 27) rfl)
theorem dX12_isAt_22 : decode cX12_isAt 22 = .ok (.i2l, 1) := dc_133 (gB_l lq_cX12_isAt (p := 22) (o := 133) rfl)
theorem dX12_isAt_23 : decode cX12_isAt 23 = .ok (.iload_n 2, 1) := dc_28 (gB_l lq_cX12_isAt (p := 23) (o := 28) rfl)
theorem dX12_isAt_24 : decode cX12_isAt 24 = .ok (.i2l, 1) := dc_133 (gB_l lq_cX12_isAt (p := 24) (o := 133) rfl)
theorem dX12_isAt_25 : decode cX12_isAt 25 = .ok (.invokestatic 55, 3) := dc_184 (gB_l lq_cX12_isAt (p := 25) (o := 184) rfl) (gB_l lq_cX12_isAt (p := 26) (o := 0) rfl) (gB_l lq_cX12_isAt (p := 27) (o := 55) rfl) rfl
theorem dX12_isAt_28 : decode cX12_isAt 28 = .ok (.ifCond .eq 7, 3) := dc_153 (gB_l lq_cX12_isAt (p := 28) (o := 153) rfl) (gB_l lq_cX12_isAt (p := 29) (o := 0) rfl) (gB_l lq_cX12_isAt (p := 30) (o := 7) rfl) rfl
theorem dX12_isAt_31 : decode cX12_isAt 31 = .ok (.iconst 1, 1) := dc_4 (gB_l lq_cX12_isAt (p := 31) (o := 4) rfl)
theorem dX12_isAt_32 : decode cX12_isAt 32 = .ok (.goto 4, 3) := dc_167 (gB_c lq_cX12_isAt q1_cX12_isAt 0 (o := 167) rfl) (gB_c lq_cX12_isAt q1_cX12_isAt 1 (o := 0) rfl) (gB_c lq_cX12_isAt q1_cX12_isAt 2 (o := 4) rfl) rfl
theorem dX12_isAt_35 : decode cX12_isAt 35 = .ok (.iconst 0, 1) := dc_3 (gB_c lq_cX12_isAt q1_cX12_isAt 3 (o := 3) rfl)
theorem dX12_isAt_36 : decode cX12_isAt 36 = .ok (.ireturn, 1) := dc_172 (gB_c lq_cX12_isAt q1_cX12_isAt 4 (o := 172) rfl)
abbrev r0_cX12_isGreatest : List Nat := [26, 153, 0, 13, 26, 4, 159, 0, 8, 26, 8, 160, 0, 7, 4, 167, 0, 4, 3, 172]
theorem lq_cX12_isGreatest : (cX12_isGreatest).data.toList.map UInt8.toNat = r0_cX12_isGreatest := by decide +kernel
theorem dX12_isGreatest_0 : decode cX12_isGreatest 0 = .ok (.iload_n 0, 1) := dc_26 (gB_l lq_cX12_isGreatest (p := 0) (o := 26) rfl)
theorem dX12_isGreatest_1 : decode cX12_isGreatest 1 = .ok (.ifCond .eq 13, 3) := dc_153 (gB_l lq_cX12_isGreatest (p := 1) (o := 153) rfl) (gB_l lq_cX12_isGreatest (p := 2) (o := 0) rfl) (gB_l lq_cX12_isGreatest (p := 3) (o := 13) rfl) rfl
theorem dX12_isGreatest_4 : decode cX12_isGreatest 4 = .ok (.iload_n 0, 1) := dc_26 (gB_l lq_cX12_isGreatest (p := 4) (o := 26) rfl)
theorem dX12_isGreatest_5 : decode cX12_isGreatest 5 = .ok (.iconst 1, 1) := dc_4 (gB_l lq_cX12_isGreatest (p := 5) (o := 4) rfl)
theorem dX12_isGreatest_6 : decode cX12_isGreatest 6 = .ok (.if_icmp .eq 8, 3) := dc_159 (gB_l lq_cX12_isGreatest (p := 6) (o := 159) rfl) (gB_l lq_cX12_isGreatest (p := 7) (o := 0) rfl) (gB_l lq_cX12_isGreatest (p := 8) (o := 8) rfl) rfl
theorem dX12_isGreatest_9 : decode cX12_isGreatest 9 = .ok (.iload_n 0, 1) := dc_26 (gB_l lq_cX12_isGreatest (p := 9) (o := 26) rfl)
theorem dX12_isGreatest_10 : decode cX12_isGreatest 10 = .ok (.iconst 5, 1) := dc_8 (gB_l lq_cX12_isGreatest (p := 10) (o := 8) rfl)
theorem dX12_isGreatest_11 : decode cX12_isGreatest 11 = .ok (.if_icmp .ne 7, 3) := dc_160 (gB_l lq_cX12_isGreatest (p := 11) (o := 160) rfl) (gB_l lq_cX12_isGreatest (p := 12) (o := 0) rfl) (gB_l lq_cX12_isGreatest (p := 13) (o := 7) rfl) rfl
theorem dX12_isGreatest_14 : decode cX12_isGreatest 14 = .ok (.iconst 1, 1) := dc_4 (gB_l lq_cX12_isGreatest (p := 14) (o := 4) rfl)
theorem dX12_isGreatest_15 : decode cX12_isGreatest 15 = .ok (.goto 4, 3) := dc_167 (gB_l lq_cX12_isGreatest (p := 15) (o := 167) rfl) (gB_l lq_cX12_isGreatest (p := 16) (o := 0) rfl) (gB_l lq_cX12_isGreatest (p := 17) (o := 4) rfl) rfl
theorem dX12_isGreatest_18 : decode cX12_isGreatest 18 = .ok (.iconst 0, 1) := dc_3 (gB_l lq_cX12_isGreatest (p := 18) (o := 3) rfl)
theorem dX12_isGreatest_19 : decode cX12_isGreatest 19 = .ok (.ireturn, 1) := dc_172 (gB_l lq_cX12_isGreatest (p := 19) (o := 172) rfl)
abbrev r0_cX12_isMeasure : List Nat := [26, 133, 9, 20, 0, 74, 184, 0, 55, 172]
theorem lq_cX12_isMeasure : (cX12_isMeasure).data.toList.map UInt8.toNat = r0_cX12_isMeasure := by decide +kernel
theorem dX12_isMeasure_0 : decode cX12_isMeasure 0 = .ok (.iload_n 0, 1) := dc_26 (gB_l lq_cX12_isMeasure (p := 0) (o := 26) rfl)
theorem dX12_isMeasure_1 : decode cX12_isMeasure 1 = .ok (.i2l, 1) := dc_133 (gB_l lq_cX12_isMeasure (p := 1) (o := 133) rfl)
theorem dX12_isMeasure_2 : decode cX12_isMeasure 2 = .ok (.lconst 0, 1) := dc_9 (gB_l lq_cX12_isMeasure (p := 2) (o := 9) rfl)
theorem dX12_isMeasure_3 : decode cX12_isMeasure 3 = .ok (.ldc2_w 74, 3) := dc_20 (gB_l lq_cX12_isMeasure (p := 3) (o := 20) rfl) (gB_l lq_cX12_isMeasure (p := 4) (o := 0) rfl) (gB_l lq_cX12_isMeasure (p := 5) (o := 74) rfl) rfl
theorem dX12_isMeasure_6 : decode cX12_isMeasure 6 = .ok (.invokestatic 55, 3) := dc_184 (gB_l lq_cX12_isMeasure (p := 6) (o := 184) rfl) (gB_l lq_cX12_isMeasure (p := 7) (o := 0) rfl) (gB_l lq_cX12_isMeasure (p := 8) (o := 55) rfl) rfl
theorem dX12_isMeasure_9 : decode cX12_isMeasure 9 = .ok (.ireturn, 1) := dc_172 (gB_l lq_cX12_isMeasure (p := 9) (o := 172) rfl)
abbrev r0_cX12_isNet : List Nat := [27, 184, 0, 59, 153, 0, 15, 42, 27, 182, 0, 63, 158, 0, 7, 4, 167, 0, 4, 3, 172]
theorem lq_cX12_isNet : (cX12_isNet).data.toList.map UInt8.toNat = r0_cX12_isNet := by decide +kernel
theorem dX12_isNet_0 : decode cX12_isNet 0 = .ok (.iload_n 1, 1) := dc_27 (gB_l lq_cX12_isNet (p := 0) (o := 27) rfl)
theorem dX12_isNet_1 : decode cX12_isNet 1 = .ok (.invokestatic 59, 3) := dc_184 (gB_l lq_cX12_isNet (p := 1) (o := 184) rfl) (gB_l lq_cX12_isNet (p := 2) (o := 0) rfl) (gB_l lq_cX12_isNet (p := 3) (o := 59) rfl) rfl
theorem dX12_isNet_4 : decode cX12_isNet 4 = .ok (.ifCond .eq 15, 3) := dc_153 (gB_l lq_cX12_isNet (p := 4) (o := 153) rfl) (gB_l lq_cX12_isNet (p := 5) (o := 0) rfl) (gB_l lq_cX12_isNet (p := 6) (o := 15) rfl) rfl
theorem dX12_isNet_7 : decode cX12_isNet 7 = .ok (.aload_n 0, 1) := dc_42 (gB_l lq_cX12_isNet (p := 7) (o := 42) rfl)
theorem dX12_isNet_8 : decode cX12_isNet 8 = .ok (.iload_n 1, 1) := dc_27 (gB_l lq_cX12_isNet (p := 8) (o := 27) rfl)
theorem dX12_isNet_9 : decode cX12_isNet 9 = .ok (.invokevirtual 63, 3) := dc_182 (gB_l lq_cX12_isNet (p := 9) (o := 182) rfl) (gB_l lq_cX12_isNet (p := 10) (o := 0) rfl) (gB_l lq_cX12_isNet (p := 11) (o := 63) rfl) rfl
theorem dX12_isNet_12 : decode cX12_isNet 12 = .ok (.ifCond .le 7, 3) := dc_158 (gB_l lq_cX12_isNet (p := 12) (o := 158) rfl) (gB_l lq_cX12_isNet (p := 13) (o := 0) rfl) (gB_l lq_cX12_isNet (p := 14) (o := 7) rfl) rfl
theorem dX12_isNet_15 : decode cX12_isNet 15 = .ok (.iconst 1, 1) := dc_4 (gB_l lq_cX12_isNet (p := 15) (o := 4) rfl)
theorem dX12_isNet_16 : decode cX12_isNet 16 = .ok (.goto 4, 3) := dc_167 (gB_l lq_cX12_isNet (p := 16) (o := 167) rfl) (gB_l lq_cX12_isNet (p := 17) (o := 0) rfl) (gB_l lq_cX12_isNet (p := 18) (o := 4) rfl) rfl
theorem dX12_isNet_19 : decode cX12_isNet 19 = .ok (.iconst 0, 1) := dc_3 (gB_l lq_cX12_isNet (p := 19) (o := 3) rfl)
theorem dX12_isNet_20 : decode cX12_isNet 20 = .ok (.ireturn, 1) := dc_172 (gB_l lq_cX12_isNet (p := 20) (o := 172) rfl)
abbrev r0_cX12_isPoint : List Nat := [42, 27, 182, 0, 67, 153, 0, 24, 28, 133, 9, 42, 27, 182, 0, 63, 4, 100, 133, 184, 0, 55, 153, 0, 7, 4, 167, 0, 4, 3, 172]
theorem lq_cX12_isPoint : (cX12_isPoint).data.toList.map UInt8.toNat = r0_cX12_isPoint := by decide +kernel
theorem dX12_isPoint_0 : decode cX12_isPoint 0 = .ok (.aload_n 0, 1) := dc_42 (gB_l lq_cX12_isPoint (p := 0) (o := 42) rfl)
theorem dX12_isPoint_1 : decode cX12_isPoint 1 = .ok (.iload_n 1, 1) := dc_27 (gB_l lq_cX12_isPoint (p := 1) (o := 27) rfl)
theorem dX12_isPoint_2 : decode cX12_isPoint 2 = .ok (.invokevirtual 67, 3) := dc_182 (gB_l lq_cX12_isPoint (p := 2) (o := 182) rfl) (gB_l lq_cX12_isPoint (p := 3) (o := 0) rfl) (gB_l lq_cX12_isPoint (p := 4) (o := 67) rfl) rfl
theorem dX12_isPoint_5 : decode cX12_isPoint 5 = .ok (.ifCond .eq 24, 3) := dc_153 (gB_l lq_cX12_isPoint (p := 5) (o := 153) rfl) (gB_l lq_cX12_isPoint (p := 6) (o := 0) rfl) (gB_l lq_cX12_isPoint (p := 7) (o := 24) rfl) rfl
theorem dX12_isPoint_8 : decode cX12_isPoint 8 = .ok (.iload_n 2, 1) := dc_28 (gB_l lq_cX12_isPoint (p := 8) (o := 28) rfl)
theorem dX12_isPoint_9 : decode cX12_isPoint 9 = .ok (.i2l, 1) := dc_133 (gB_l lq_cX12_isPoint (p := 9) (o := 133) rfl)
theorem dX12_isPoint_10 : decode cX12_isPoint 10 = .ok (.lconst 0, 1) := dc_9 (gB_l lq_cX12_isPoint (p := 10) (o := 9) rfl)
theorem dX12_isPoint_11 : decode cX12_isPoint 11 = .ok (.aload_n 0, 1) := dc_42 (gB_l lq_cX12_isPoint (p := 11) (o := 42) rfl)
theorem dX12_isPoint_12 : decode cX12_isPoint 12 = .ok (.iload_n 1, 1) := dc_27 (gB_l lq_cX12_isPoint (p := 12) (o := 27) rfl)
theorem dX12_isPoint_13 : decode cX12_isPoint 13 = .ok (.invokevirtual 63, 3) := dc_182 (gB_l lq_cX12_isPoint (p := 13) (o := 182) rfl) (gB_l lq_cX12_isPoint (p := 14) (o := 0) rfl) (gB_l lq_cX12_isPoint (p := 15) (o := 63) rfl) rfl
theorem dX12_isPoint_16 : decode cX12_isPoint 16 = .ok (.iconst 1, 1) := dc_4 (gB_l lq_cX12_isPoint (p := 16) (o := 4) rfl)
theorem dX12_isPoint_17 : decode cX12_isPoint 17 = .ok (.isub, 1) := dc_100 (gB_l lq_cX12_isPoint (p := 17) (o := 100) rfl)
theorem dX12_isPoint_18 : decode cX12_isPoint 18 = .ok (.i2l, 1) := dc_133 (gB_l lq_cX12_isPoint (p := 18) (o := 133) rfl)
theorem dX12_isPoint_19 : decode cX12_isPoint 19 = .ok (.invokestatic 55, 3) := dc_184 (gB_l lq_cX12_isPoint (p := 19) (o := 184) rfl) (gB_l lq_cX12_isPoint (p := 20) (o := 0) rfl) (gB_l lq_cX12_isPoint (p := 21) (o := 55) rfl) rfl
theorem dX12_isPoint_22 : decode cX12_isPoint 22 = .ok (.ifCond .eq 7, 3) := dc_153 (gB_l lq_cX12_isPoint (p := 22) (o := 153) rfl) (gB_l lq_cX12_isPoint (p := 23) (o := 0) rfl) (gB_l lq_cX12_isPoint (p := 24) (o := 7) rfl) rfl
theorem dX12_isPoint_25 : decode cX12_isPoint 25 = .ok (.iconst 1, 1) := dc_4 (gB_l lq_cX12_isPoint (p := 25) (o := 4) rfl)
theorem dX12_isPoint_26 : decode cX12_isPoint 26 = .ok (.goto 4, 3) := dc_167 (gB_l lq_cX12_isPoint (p := 26) (o := 167) rfl) (gB_l lq_cX12_isPoint (p := 27) (o := 0) rfl) (gB_l lq_cX12_isPoint (p := 28) (o := 4) rfl) rfl
theorem dX12_isPoint_29 : decode cX12_isPoint 29 = .ok (.iconst 0, 1) := dc_3 (gB_l lq_cX12_isPoint (p := 29) (o := 3) rfl)
theorem dX12_isPoint_30 : decode cX12_isPoint 30 = .ok (.ireturn, 1) := dc_172 (gB_l lq_cX12_isPoint (p := 30) (o := 172) rfl)
abbrev r1_cX12_isSign : List Nat := [3, 172]
def a0_cX12_isSign : List Nat := [42, 180, 0, 123, 154, 0, 28, 42, 180, 0, 115, 6, 160, 0, 20, 42, 180, 0, 19, 42, 180, 0, 109, 46, 27, 160, 0, 7, 4, 167, 0, 4]
abbrev r0_cX12_isSign : List Nat := a0_cX12_isSign ++ r1_cX12_isSign
theorem lq_cX12_isSign : (cX12_isSign).data.toList.map UInt8.toNat = r0_cX12_isSign := by decide +kernel
theorem q1_cX12_isSign : ∀ i, (r0_cX12_isSign)[32 + i]? = (r1_cX12_isSign)[i]? := chn (A := a0_cX12_isSign) (B := r1_cX12_isSign) (n := 0) (k := 32) rfl (ch0 (R := r0_cX12_isSign))
theorem dX12_isSign_0 : decode cX12_isSign 0 = .ok (.aload_n 0, 1) := dc_42 (gB_l lq_cX12_isSign (p := 0) (o := 42) rfl)
theorem dX12_isSign_1 : decode cX12_isSign 1 = .ok (.getfield 123, 3) := dc_180 (gB_l lq_cX12_isSign (p := 1) (o := 180) rfl) (gB_l lq_cX12_isSign (p := 2) (o := 0) rfl) (gB_l lq_cX12_isSign (p := 3) (o := 123) rfl) rfl
theorem dX12_isSign_4 : decode cX12_isSign 4 = .ok (.ifCond .ne 28, 3) := dc_154 (gB_l lq_cX12_isSign (p := 4) (o := 154) rfl) (gB_l lq_cX12_isSign (p := 5) (o := 0) rfl) (gB_l lq_cX12_isSign (p := 6) (o := 28) rfl) rfl
theorem dX12_isSign_7 : decode cX12_isSign 7 = .ok (.aload_n 0, 1) := dc_42 (gB_l lq_cX12_isSign (p := 7) (o := 42) rfl)
theorem dX12_isSign_8 : decode cX12_isSign 8 = .ok (.getfield 115, 3) := dc_180 (gB_l lq_cX12_isSign (p := 8) (o := 180) rfl) (gB_l lq_cX12_isSign (p := 9) (o := 0) rfl) (gB_l lq_cX12_isSign (p := 10) (o := 115) rfl) rfl
theorem dX12_isSign_11 : decode cX12_isSign 11 = .ok (.iconst 3, 1) := dc_6 (gB_l lq_cX12_isSign (p := 11) (o := 6) rfl)
theorem dX12_isSign_12 : decode cX12_isSign 12 = .ok (.if_icmp .ne 20, 3) := dc_160 (gB_l lq_cX12_isSign (p := 12) (o := 160) rfl) (gB_l lq_cX12_isSign (p := 13) (o := 0) rfl) (gB_l lq_cX12_isSign (p := 14) (o := 20) rfl) rfl
theorem dX12_isSign_15 : decode cX12_isSign 15 = .ok (.aload_n 0, 1) := dc_42 (gB_l lq_cX12_isSign (p := 15) (o := 42) rfl)
theorem dX12_isSign_16 : decode cX12_isSign 16 = .ok (.getfield 19, 3) := dc_180 (gB_l lq_cX12_isSign (p := 16) (o := 180) rfl) (gB_l lq_cX12_isSign (p := 17) (o := 0) rfl) (gB_l lq_cX12_isSign (p := 18) (o := 19) rfl) rfl
theorem dX12_isSign_19 : decode cX12_isSign 19 = .ok (.aload_n 0, 1) := dc_42 (gB_l lq_cX12_isSign (p := 19) (o := 42) rfl)
theorem dX12_isSign_20 : decode cX12_isSign 20 = .ok (.getfield 109, 3) := dc_180 (gB_l lq_cX12_isSign (p := 20) (o := 180) rfl) (gB_l lq_cX12_isSign (p := 21) (o := 0) rfl) (gB_l lq_cX12_isSign (p := 22) (o := 109) rfl) rfl
theorem dX12_isSign_23 : decode cX12_isSign 23 = .ok (.iaload, 1) := dc_46 (gB_l lq_cX12_isSign (p := 23) (o := 46) rfl)
theorem dX12_isSign_24 : decode cX12_isSign 24 = .ok (.iload_n 1, 1) := dc_27 (gB_l lq_cX12_isSign (p := 24) (o := 27) rfl)
theorem dX12_isSign_25 : decode cX12_isSign 25 = .ok (.if_icmp .ne 7, 3) := dc_160 (gB_l lq_cX12_isSign (p := 25) (o := 160) rfl) (gB_l lq_cX12_isSign (p := 26) (o := 0) rfl) (gB_l lq_cX12_isSign (p := 27) (o := 7) rfl) rfl
theorem dX12_isSign_28 : decode cX12_isSign 28 = .ok (.iconst 1, 1) := dc_4 (gB_l lq_cX12_isSign (p := 28) (o := 4) rfl)
theorem dX12_isSign_29 : decode cX12_isSign 29 = .ok (.goto 4, 3) := dc_167 (gB_l lq_cX12_isSign (p := 29) (o := 167) rfl) (gB_l lq_cX12_isSign (p := 30) (o := 0) rfl) (gB_l lq_cX12_isSign (p := 31) (o := 4) rfl) rfl
theorem dX12_isSign_32 : decode cX12_isSign 32 = .ok (.iconst 0, 1) := dc_3 (gB_c lq_cX12_isSign q1_cX12_isSign 0 (o := 3) rfl)
theorem dX12_isSign_33 : decode cX12_isSign 33 = .ok (.ireturn, 1) := dc_172 (gB_c lq_cX12_isSign q1_cX12_isSign 1 (o := 172) rfl)
abbrev r0_cX12_isSlot : List Nat := [26, 133, 9, 20, 0, 53, 184, 0, 55, 172]
theorem lq_cX12_isSlot : (cX12_isSlot).data.toList.map UInt8.toNat = r0_cX12_isSlot := by decide +kernel
theorem dX12_isSlot_0 : decode cX12_isSlot 0 = .ok (.iload_n 0, 1) := dc_26 (gB_l lq_cX12_isSlot (p := 0) (o := 26) rfl)
theorem dX12_isSlot_1 : decode cX12_isSlot 1 = .ok (.i2l, 1) := dc_133 (gB_l lq_cX12_isSlot (p := 1) (o := 133) rfl)
theorem dX12_isSlot_2 : decode cX12_isSlot 2 = .ok (.lconst 0, 1) := dc_9 (gB_l lq_cX12_isSlot (p := 2) (o := 9) rfl)
theorem dX12_isSlot_3 : decode cX12_isSlot 3 = .ok (.ldc2_w 53, 3) := dc_20 (gB_l lq_cX12_isSlot (p := 3) (o := 20) rfl) (gB_l lq_cX12_isSlot (p := 4) (o := 0) rfl) (gB_l lq_cX12_isSlot (p := 5) (o := 53) rfl) rfl
theorem dX12_isSlot_6 : decode cX12_isSlot 6 = .ok (.invokestatic 55, 3) := dc_184 (gB_l lq_cX12_isSlot (p := 6) (o := 184) rfl) (gB_l lq_cX12_isSlot (p := 7) (o := 0) rfl) (gB_l lq_cX12_isSlot (p := 8) (o := 55) rfl) rfl
theorem dX12_isSlot_9 : decode cX12_isSlot 9 = .ok (.ireturn, 1) := dc_172 (gB_l lq_cX12_isSlot (p := 9) (o := 172) rfl)
abbrev r0_cX12_isTakenOut : List Nat := [26, 8, 159, 0, 9, 26, 16, 6, 160, 0, 7, 4, 167, 0, 4, 3, 172]
theorem lq_cX12_isTakenOut : (cX12_isTakenOut).data.toList.map UInt8.toNat = r0_cX12_isTakenOut := by decide +kernel
theorem dX12_isTakenOut_0 : decode cX12_isTakenOut 0 = .ok (.iload_n 0, 1) := dc_26 (gB_l lq_cX12_isTakenOut (p := 0) (o := 26) rfl)
theorem dX12_isTakenOut_1 : decode cX12_isTakenOut 1 = .ok (.iconst 5, 1) := dc_8 (gB_l lq_cX12_isTakenOut (p := 1) (o := 8) rfl)
theorem dX12_isTakenOut_2 : decode cX12_isTakenOut 2 = .ok (.if_icmp .eq 9, 3) := dc_159 (gB_l lq_cX12_isTakenOut (p := 2) (o := 159) rfl) (gB_l lq_cX12_isTakenOut (p := 3) (o := 0) rfl) (gB_l lq_cX12_isTakenOut (p := 4) (o := 9) rfl) rfl
theorem dX12_isTakenOut_5 : decode cX12_isTakenOut 5 = .ok (.iload_n 0, 1) := dc_26 (gB_l lq_cX12_isTakenOut (p := 5) (o := 26) rfl)
theorem dX12_isTakenOut_6 : decode cX12_isTakenOut 6 = .ok (.bipush 6, 2) := dc_16 (gB_l lq_cX12_isTakenOut (p := 6) (o := 16) rfl) (gB_l lq_cX12_isTakenOut (p := 7) (o := 6) rfl) rfl
theorem dX12_isTakenOut_8 : decode cX12_isTakenOut 8 = .ok (.if_icmp .ne 7, 3) := dc_160 (gB_l lq_cX12_isTakenOut (p := 8) (o := 160) rfl) (gB_l lq_cX12_isTakenOut (p := 9) (o := 0) rfl) (gB_l lq_cX12_isTakenOut (p := 10) (o := 7) rfl) rfl
theorem dX12_isTakenOut_11 : decode cX12_isTakenOut 11 = .ok (.iconst 1, 1) := dc_4 (gB_l lq_cX12_isTakenOut (p := 11) (o := 4) rfl)
theorem dX12_isTakenOut_12 : decode cX12_isTakenOut 12 = .ok (.goto 4, 3) := dc_167 (gB_l lq_cX12_isTakenOut (p := 12) (o := 167) rfl) (gB_l lq_cX12_isTakenOut (p := 13) (o := 0) rfl) (gB_l lq_cX12_isTakenOut (p := 14) (o := 4) rfl) rfl
theorem dX12_isTakenOut_15 : decode cX12_isTakenOut 15 = .ok (.iconst 0, 1) := dc_3 (gB_l lq_cX12_isTakenOut (p := 15) (o := 3) rfl)
theorem dX12_isTakenOut_16 : decode cX12_isTakenOut 16 = .ok (.ireturn, 1) := dc_172 (gB_l lq_cX12_isTakenOut (p := 16) (o := 172) rfl)
abbrev r2_cX12_isWord : List Nat := [182, 0, 139, 160, 0, 7, 4, 167, 0, 4, 3, 61, 132, 3, 1, 167, 255, 216, 28, 172]
def a1_cX12_isWord : List Nat := [167, 0, 4, 3, 61, 3, 62, 29, 43, 182, 0, 133, 162, 0, 38, 28, 153, 0, 34, 42, 180, 0, 19, 42, 180, 0, 109, 29, 96, 46, 43, 29]
abbrev r1_cX12_isWord : List Nat := a1_cX12_isWord ++ r2_cX12_isWord
def a0_cX12_isWord : List Nat := [42, 180, 0, 123, 154, 0, 31, 42, 180, 0, 115, 4, 160, 0, 23, 42, 180, 0, 103, 42, 180, 0, 109, 100, 43, 182, 0, 133, 160, 0, 7, 4]
abbrev r0_cX12_isWord : List Nat := a0_cX12_isWord ++ r1_cX12_isWord
theorem lq_cX12_isWord : (cX12_isWord).data.toList.map UInt8.toNat = r0_cX12_isWord := by decide +kernel
theorem q1_cX12_isWord : ∀ i, (r0_cX12_isWord)[32 + i]? = (r1_cX12_isWord)[i]? := chn (A := a0_cX12_isWord) (B := r1_cX12_isWord) (n := 0) (k := 32) rfl (ch0 (R := r0_cX12_isWord))
theorem q2_cX12_isWord : ∀ i, (r0_cX12_isWord)[64 + i]? = (r2_cX12_isWord)[i]? := chn (A := a1_cX12_isWord) (B := r2_cX12_isWord) (n := 32) (k := 32) rfl q1_cX12_isWord
theorem dX12_isWord_0 : decode cX12_isWord 0 = .ok (.aload_n 0, 1) := dc_42 (gB_l lq_cX12_isWord (p := 0) (o := 42) rfl)
theorem dX12_isWord_1 : decode cX12_isWord 1 = .ok (.getfield 123, 3) := dc_180 (gB_l lq_cX12_isWord (p := 1) (o := 180) rfl) (gB_l lq_cX12_isWord (p := 2) (o := 0) rfl) (gB_l lq_cX12_isWord (p := 3) (o := 123) rfl) rfl
theorem dX12_isWord_4 : decode cX12_isWord 4 = .ok (.ifCond .ne 31, 3) := dc_154 (gB_l lq_cX12_isWord (p := 4) (o := 154) rfl) (gB_l lq_cX12_isWord (p := 5) (o := 0) rfl) (gB_l lq_cX12_isWord (p := 6) (o := 31) rfl) rfl
theorem dX12_isWord_7 : decode cX12_isWord 7 = .ok (.aload_n 0, 1) := dc_42 (gB_l lq_cX12_isWord (p := 7) (o := 42) rfl)
theorem dX12_isWord_8 : decode cX12_isWord 8 = .ok (.getfield 115, 3) := dc_180 (gB_l lq_cX12_isWord (p := 8) (o := 180) rfl) (gB_l lq_cX12_isWord (p := 9) (o := 0) rfl) (gB_l lq_cX12_isWord (p := 10) (o := 115) rfl) rfl
theorem dX12_isWord_11 : decode cX12_isWord 11 = .ok (.iconst 1, 1) := dc_4 (gB_l lq_cX12_isWord (p := 11) (o := 4) rfl)
theorem dX12_isWord_12 : decode cX12_isWord 12 = .ok (.if_icmp .ne 23, 3) := dc_160 (gB_l lq_cX12_isWord (p := 12) (o := 160) rfl) (gB_l lq_cX12_isWord (p := 13) (o := 0) rfl) (gB_l lq_cX12_isWord (p := 14) (o := 23) rfl) rfl
theorem dX12_isWord_15 : decode cX12_isWord 15 = .ok (.aload_n 0, 1) := dc_42 (gB_l lq_cX12_isWord (p := 15) (o := 42) rfl)
theorem dX12_isWord_16 : decode cX12_isWord 16 = .ok (.getfield 103, 3) := dc_180 (gB_l lq_cX12_isWord (p := 16) (o := 180) rfl) (gB_l lq_cX12_isWord (p := 17) (o := 0) rfl) (gB_l lq_cX12_isWord (p := 18) (o := 103) rfl) rfl
theorem dX12_isWord_19 : decode cX12_isWord 19 = .ok (.aload_n 0, 1) := dc_42 (gB_l lq_cX12_isWord (p := 19) (o := 42) rfl)
theorem dX12_isWord_20 : decode cX12_isWord 20 = .ok (.getfield 109, 3) := dc_180 (gB_l lq_cX12_isWord (p := 20) (o := 180) rfl) (gB_l lq_cX12_isWord (p := 21) (o := 0) rfl) (gB_l lq_cX12_isWord (p := 22) (o := 109) rfl) rfl
theorem dX12_isWord_23 : decode cX12_isWord 23 = .ok (.isub, 1) := dc_100 (gB_l lq_cX12_isWord (p := 23) (o := 100) rfl)
theorem dX12_isWord_24 : decode cX12_isWord 24 = .ok (.aload_n 1, 1) := dc_43 (gB_l lq_cX12_isWord (p := 24) (o := 43) rfl)
theorem dX12_isWord_25 : decode cX12_isWord 25 = .ok (.invokevirtual 133, 3) := dc_182 (gB_l lq_cX12_isWord (p := 25) (o := 182) rfl) (gB_l lq_cX12_isWord (p := 26) (o := 0) rfl) (gB_l lq_cX12_isWord (p := 27) (o := 133) rfl) rfl
theorem dX12_isWord_28 : decode cX12_isWord 28 = .ok (.if_icmp .ne 7, 3) := dc_160 (gB_l lq_cX12_isWord (p := 28) (o := 160) rfl) (gB_l lq_cX12_isWord (p := 29) (o := 0) rfl) (gB_l lq_cX12_isWord (p := 30) (o := 7) rfl) rfl
theorem dX12_isWord_31 : decode cX12_isWord 31 = .ok (.iconst 1, 1) := dc_4 (gB_l lq_cX12_isWord (p := 31) (o := 4) rfl)
theorem dX12_isWord_32 : decode cX12_isWord 32 = .ok (.goto 4, 3) := dc_167 (gB_c lq_cX12_isWord q1_cX12_isWord 0 (o := 167) rfl) (gB_c lq_cX12_isWord q1_cX12_isWord 1 (o := 0) rfl) (gB_c lq_cX12_isWord q1_cX12_isWord 2 (o := 4) rfl) rfl
theorem dX12_isWord_35 : decode cX12_isWord 35 = .ok (.iconst 0, 1) := dc_3 (gB_c lq_cX12_isWord q1_cX12_isWord 3 (o := 3) rfl)
theorem dX12_isWord_36 : decode cX12_isWord 36 = .ok (.istore_n 2, 1) := dc_61 (gB_c lq_cX12_isWord q1_cX12_isWord 4 (o := 61) rfl)
theorem dX12_isWord_37 : decode cX12_isWord 37 = .ok (.iconst 0, 1) := dc_3 (gB_c lq_cX12_isWord q1_cX12_isWord 5 (o := 3) rfl)
theorem dX12_isWord_38 : decode cX12_isWord 38 = .ok (.istore_n 3, 1) := dc_62 (gB_c lq_cX12_isWord q1_cX12_isWord 6 (o := 62) rfl)
theorem dX12_isWord_39 : decode cX12_isWord 39 = .ok (.iload_n 3, 1) := dc_29 (gB_c lq_cX12_isWord q1_cX12_isWord 7 (o := 29) rfl)
theorem dX12_isWord_40 : decode cX12_isWord 40 = .ok (.aload_n 1, 1) := dc_43 (gB_c lq_cX12_isWord q1_cX12_isWord 8 (o := 43) rfl)
theorem dX12_isWord_41 : decode cX12_isWord 41 = .ok (.invokevirtual 133, 3) := dc_182 (gB_c lq_cX12_isWord q1_cX12_isWord 9 (o := 182) rfl) (gB_c lq_cX12_isWord q1_cX12_isWord 10 (o := 0) rfl) (gB_c lq_cX12_isWord q1_cX12_isWord 11 (o := 133) rfl) rfl
theorem dX12_isWord_44 : decode cX12_isWord 44 = .ok (.if_icmp .ge 38, 3) := dc_162 (gB_c lq_cX12_isWord q1_cX12_isWord 12 (o := 162) rfl) (gB_c lq_cX12_isWord q1_cX12_isWord 13 (o := 0) rfl) (gB_c lq_cX12_isWord q1_cX12_isWord 14 (o := 38) rfl) rfl
theorem dX12_isWord_47 : decode cX12_isWord 47 = .ok (.iload_n 2, 1) := dc_28 (gB_c lq_cX12_isWord q1_cX12_isWord 15 (o := 28) rfl)
theorem dX12_isWord_48 : decode cX12_isWord 48 = .ok (.ifCond .eq 34, 3) := dc_153 (gB_c lq_cX12_isWord q1_cX12_isWord 16 (o := 153) rfl) (gB_c lq_cX12_isWord q1_cX12_isWord 17 (o := 0) rfl) (gB_c lq_cX12_isWord q1_cX12_isWord 18 (o := 34) rfl) rfl
theorem dX12_isWord_51 : decode cX12_isWord 51 = .ok (.aload_n 0, 1) := dc_42 (gB_c lq_cX12_isWord q1_cX12_isWord 19 (o := 42) rfl)
theorem dX12_isWord_52 : decode cX12_isWord 52 = .ok (.getfield 19, 3) := dc_180 (gB_c lq_cX12_isWord q1_cX12_isWord 20 (o := 180) rfl) (gB_c lq_cX12_isWord q1_cX12_isWord 21 (o := 0) rfl) (gB_c lq_cX12_isWord q1_cX12_isWord 22 (o := 19) rfl) rfl
theorem dX12_isWord_55 : decode cX12_isWord 55 = .ok (.aload_n 0, 1) := dc_42 (gB_c lq_cX12_isWord q1_cX12_isWord 23 (o := 42) rfl)
theorem dX12_isWord_56 : decode cX12_isWord 56 = .ok (.getfield 109, 3) := dc_180 (gB_c lq_cX12_isWord q1_cX12_isWord 24 (o := 180) rfl) (gB_c lq_cX12_isWord q1_cX12_isWord 25 (o := 0) rfl) (gB_c lq_cX12_isWord q1_cX12_isWord 26 (o := 109) rfl) rfl
theorem dX12_isWord_59 : decode cX12_isWord 59 = .ok (.iload_n 3, 1) := dc_29 (gB_c lq_cX12_isWord q1_cX12_isWord 27 (o := 29) rfl)
theorem dX12_isWord_60 : decode cX12_isWord 60 = .ok (.iadd, 1) := dc_96 (gB_c lq_cX12_isWord q1_cX12_isWord 28 (o := 96) rfl)
theorem dX12_isWord_61 : decode cX12_isWord 61 = .ok (.iaload, 1) := dc_46 (gB_c lq_cX12_isWord q1_cX12_isWord 29 (o := 46) rfl)
theorem dX12_isWord_62 : decode cX12_isWord 62 = .ok (.aload_n 1, 1) := dc_43 (gB_c lq_cX12_isWord q1_cX12_isWord 30 (o := 43) rfl)
theorem dX12_isWord_63 : decode cX12_isWord 63 = .ok (.iload_n 3, 1) := dc_29 (gB_c lq_cX12_isWord q1_cX12_isWord 31 (o := 29) rfl)
theorem dX12_isWord_64 : decode cX12_isWord 64 = .ok (.invokevirtual 139, 3) := dc_182 (gB_c lq_cX12_isWord q2_cX12_isWord 0 (o := 182) rfl) (gB_c lq_cX12_isWord q2_cX12_isWord 1 (o := 0) rfl) (gB_c lq_cX12_isWord q2_cX12_isWord 2 (o := 139) rfl) rfl
theorem dX12_isWord_67 : decode cX12_isWord 67 = .ok (.if_icmp .ne 7, 3) := dc_160 (gB_c lq_cX12_isWord q2_cX12_isWord 3 (o := 160) rfl) (gB_c lq_cX12_isWord q2_cX12_isWord 4 (o := 0) rfl) (gB_c lq_cX12_isWord q2_cX12_isWord 5 (o := 7) rfl) rfl
theorem dX12_isWord_70 : decode cX12_isWord 70 = .ok (.iconst 1, 1) := dc_4 (gB_c lq_cX12_isWord q2_cX12_isWord 6 (o := 4) rfl)
theorem dX12_isWord_71 : decode cX12_isWord 71 = .ok (.goto 4, 3) := dc_167 (gB_c lq_cX12_isWord q2_cX12_isWord 7 (o := 167) rfl) (gB_c lq_cX12_isWord q2_cX12_isWord 8 (o := 0) rfl) (gB_c lq_cX12_isWord q2_cX12_isWord 9 (o := 4) rfl) rfl
theorem dX12_isWord_74 : decode cX12_isWord 74 = .ok (.iconst 0, 1) := dc_3 (gB_c lq_cX12_isWord q2_cX12_isWord 10 (o := 3) rfl)
theorem dX12_isWord_75 : decode cX12_isWord 75 = .ok (.istore_n 2, 1) := dc_61 (gB_c lq_cX12_isWord q2_cX12_isWord 11 (o := 61) rfl)
theorem dX12_isWord_76 : decode cX12_isWord 76 = .ok (.iinc 3 1, 3) := dc_132 (gB_c lq_cX12_isWord q2_cX12_isWord 12 (o := 132) rfl) (gB_c lq_cX12_isWord q2_cX12_isWord 13 (o := 3) rfl) (gB_c lq_cX12_isWord q2_cX12_isWord 14 (o := 1) rfl) rfl
theorem dX12_isWord_79 : decode cX12_isWord 79 = .ok (.goto (-40), 3) := dc_167 (gB_c lq_cX12_isWord q2_cX12_isWord 15 (o := 167) rfl) (gB_c lq_cX12_isWord q2_cX12_isWord 16 (o := 255) rfl) (gB_c lq_cX12_isWord q2_cX12_isWord 17 (o := 216) rfl) rfl
theorem dX12_isWord_82 : decode cX12_isWord 82 = .ok (.iload_n 2, 1) := dc_28 (gB_c lq_cX12_isWord q2_cX12_isWord 18 (o := 28) rfl)
theorem dX12_isWord_83 : decode cX12_isWord 83 = .ok (.ireturn, 1) := dc_172 (gB_c lq_cX12_isWord q2_cX12_isWord 19 (o := 172) rfl)
abbrev r3_cX12_keeps : List Nat := [27, 172]
def a2_cX12_keeps : List Nat := [1, 17, 42, 180, 0, 87, 104, 28, 96, 42, 180, 0, 13, 28, 46, 79, 132, 2, 1, 167, 255, 225, 42, 89, 180, 0, 87, 4, 96, 181, 0, 87]
abbrev r2_cX12_keeps : List Nat := a2_cX12_keeps ++ r3_cX12_keeps
def a1_cX12_keeps : List Nat := [46, 79, 132, 2, 1, 167, 255, 230, 42, 89, 180, 0, 87, 4, 100, 181, 0, 87, 3, 61, 28, 17, 1, 17, 162, 0, 30, 42, 180, 0, 16, 17]
abbrev r1_cX12_keeps : List Nat := a1_cX12_keeps ++ r2_cX12_keeps
def a0_cX12_keeps : List Nat := [42, 180, 0, 87, 16, 10, 160, 0, 44, 3, 61, 28, 17, 9, 153, 162, 0, 25, 42, 180, 0, 16, 28, 42, 180, 0, 16, 28, 17, 1, 17, 96]
abbrev r0_cX12_keeps : List Nat := a0_cX12_keeps ++ r1_cX12_keeps
theorem lq_cX12_keeps : (cX12_keeps).data.toList.map UInt8.toNat = r0_cX12_keeps := by decide +kernel
theorem q1_cX12_keeps : ∀ i, (r0_cX12_keeps)[32 + i]? = (r1_cX12_keeps)[i]? := chn (A := a0_cX12_keeps) (B := r1_cX12_keeps) (n := 0) (k := 32) rfl (ch0 (R := r0_cX12_keeps))
theorem q2_cX12_keeps : ∀ i, (r0_cX12_keeps)[64 + i]? = (r2_cX12_keeps)[i]? := chn (A := a1_cX12_keeps) (B := r2_cX12_keeps) (n := 32) (k := 32) rfl q1_cX12_keeps
theorem q3_cX12_keeps : ∀ i, (r0_cX12_keeps)[96 + i]? = (r3_cX12_keeps)[i]? := chn (A := a2_cX12_keeps) (B := r3_cX12_keeps) (n := 64) (k := 32) rfl q2_cX12_keeps
theorem dX12_keeps_0 : decode cX12_keeps 0 = .ok (.aload_n 0, 1) := dc_42 (gB_l lq_cX12_keeps (p := 0) (o := 42) rfl)
theorem dX12_keeps_1 : decode cX12_keeps 1 = .ok (.getfield 87, 3) := dc_180 (gB_l lq_cX12_keeps (p := 1) (o := 180) rfl) (gB_l lq_cX12_keeps (p := 2) (o := 0) rfl) (gB_l lq_cX12_keeps (p := 3) (o := 87) rfl) rfl
theorem dX12_keeps_4 : decode cX12_keeps 4 = .ok (.bipush 10, 2) := dc_16 (gB_l lq_cX12_keeps (p := 4) (o := 16) rfl) (gB_l lq_cX12_keeps (p := 5) (o := 10) rfl) rfl
theorem dX12_keeps_6 : decode cX12_keeps 6 = .ok (.if_icmp .ne 44, 3) := dc_160 (gB_l lq_cX12_keeps (p := 6) (o := 160) rfl) (gB_l lq_cX12_keeps (p := 7) (o := 0) rfl) (gB_l lq_cX12_keeps (p := 8) (o := 44) rfl) rfl
theorem dX12_keeps_9 : decode cX12_keeps 9 = .ok (.iconst 0, 1) := dc_3 (gB_l lq_cX12_keeps (p := 9) (o := 3) rfl)
theorem dX12_keeps_10 : decode cX12_keeps 10 = .ok (.istore_n 2, 1) := dc_61 (gB_l lq_cX12_keeps (p := 10) (o := 61) rfl)
theorem dX12_keeps_11 : decode cX12_keeps 11 = .ok (.iload_n 2, 1) := dc_28 (gB_l lq_cX12_keeps (p := 11) (o := 28) rfl)
theorem dX12_keeps_12 : decode cX12_keeps 12 = .ok (.sipush 2457, 3) := dc_17 (gB_l lq_cX12_keeps (p := 12) (o := 17) rfl) (gB_l lq_cX12_keeps (p := 13) (o := 9) rfl) (gB_l lq_cX12_keeps (p := 14) (o := 153) rfl) rfl
theorem dX12_keeps_15 : decode cX12_keeps 15 = .ok (.if_icmp .ge 25, 3) := dc_162 (gB_l lq_cX12_keeps (p := 15) (o := 162) rfl) (gB_l lq_cX12_keeps (p := 16) (o := 0) rfl) (gB_l lq_cX12_keeps (p := 17) (o := 25) rfl) rfl
theorem dX12_keeps_18 : decode cX12_keeps 18 = .ok (.aload_n 0, 1) := dc_42 (gB_l lq_cX12_keeps (p := 18) (o := 42) rfl)
theorem dX12_keeps_19 : decode cX12_keeps 19 = .ok (.getfield 16, 3) := dc_180 (gB_l lq_cX12_keeps (p := 19) (o := 180) rfl) (gB_l lq_cX12_keeps (p := 20) (o := 0) rfl) (gB_l lq_cX12_keeps (p := 21) (o := 16) rfl) rfl
theorem dX12_keeps_22 : decode cX12_keeps 22 = .ok (.iload_n 2, 1) := dc_28 (gB_l lq_cX12_keeps (p := 22) (o := 28) rfl)
theorem dX12_keeps_23 : decode cX12_keeps 23 = .ok (.aload_n 0, 1) := dc_42 (gB_l lq_cX12_keeps (p := 23) (o := 42) rfl)
theorem dX12_keeps_24 : decode cX12_keeps 24 = .ok (.getfield 16, 3) := dc_180 (gB_l lq_cX12_keeps (p := 24) (o := 180) rfl) (gB_l lq_cX12_keeps (p := 25) (o := 0) rfl) (gB_l lq_cX12_keeps (p := 26) (o := 16) rfl) rfl
theorem dX12_keeps_27 : decode cX12_keeps 27 = .ok (.iload_n 2, 1) := dc_28 (gB_l lq_cX12_keeps (p := 27) (o := 28) rfl)
theorem dX12_keeps_28 : decode cX12_keeps 28 = .ok (.sipush 273, 3) := dc_17 (gB_l lq_cX12_keeps (p := 28) (o := 17) rfl) (gB_l lq_cX12_keeps (p := 29) (o := 1) rfl) (gB_l lq_cX12_keeps (p := 30) (o := 17) rfl) rfl
theorem dX12_keeps_31 : decode cX12_keeps 31 = .ok (.iadd, 1) := dc_96 (gB_l lq_cX12_keeps (p := 31) (o := 96) rfl)
theorem dX12_keeps_32 : decode cX12_keeps 32 = .ok (.iaload, 1) := dc_46 (gB_c lq_cX12_keeps q1_cX12_keeps 0 (o := 46) rfl)
theorem dX12_keeps_33 : decode cX12_keeps 33 = .ok (.iastore, 1) := dc_79 (gB_c lq_cX12_keeps q1_cX12_keeps 1 (o := 79) rfl)
theorem dX12_keeps_34 : decode cX12_keeps 34 = .ok (.iinc 2 1, 3) := dc_132 (gB_c lq_cX12_keeps q1_cX12_keeps 2 (o := 132) rfl) (gB_c lq_cX12_keeps q1_cX12_keeps 3 (o := 2) rfl) (gB_c lq_cX12_keeps q1_cX12_keeps 4 (o := 1) rfl) rfl
theorem dX12_keeps_37 : decode cX12_keeps 37 = .ok (.goto (-26), 3) := dc_167 (gB_c lq_cX12_keeps q1_cX12_keeps 5 (o := 167) rfl) (gB_c lq_cX12_keeps q1_cX12_keeps 6 (o := 255) rfl) (gB_c lq_cX12_keeps q1_cX12_keeps 7 (o := 230) rfl) rfl
theorem dX12_keeps_40 : decode cX12_keeps 40 = .ok (.aload_n 0, 1) := dc_42 (gB_c lq_cX12_keeps q1_cX12_keeps 8 (o := 42) rfl)
theorem dX12_keeps_41 : decode cX12_keeps 41 = .ok (.dup, 1) := dc_89 (gB_c lq_cX12_keeps q1_cX12_keeps 9 (o := 89) rfl)
theorem dX12_keeps_42 : decode cX12_keeps 42 = .ok (.getfield 87, 3) := dc_180 (gB_c lq_cX12_keeps q1_cX12_keeps 10 (o := 180) rfl) (gB_c lq_cX12_keeps q1_cX12_keeps 11 (o := 0) rfl) (gB_c lq_cX12_keeps q1_cX12_keeps 12 (o := 87) rfl) rfl
theorem dX12_keeps_45 : decode cX12_keeps 45 = .ok (.iconst 1, 1) := dc_4 (gB_c lq_cX12_keeps q1_cX12_keeps 13 (o := 4) rfl)
theorem dX12_keeps_46 : decode cX12_keeps 46 = .ok (.isub, 1) := dc_100 (gB_c lq_cX12_keeps q1_cX12_keeps 14 (o := 100) rfl)
theorem dX12_keeps_47 : decode cX12_keeps 47 = .ok (.putfield 87, 3) := dc_181 (gB_c lq_cX12_keeps q1_cX12_keeps 15 (o := 181) rfl) (gB_c lq_cX12_keeps q1_cX12_keeps 16 (o := 0) rfl) (gB_c lq_cX12_keeps q1_cX12_keeps 17 (o := 87) rfl) rfl
theorem dX12_keeps_50 : decode cX12_keeps 50 = .ok (.iconst 0, 1) := dc_3 (gB_c lq_cX12_keeps q1_cX12_keeps 18 (o := 3) rfl)
theorem dX12_keeps_51 : decode cX12_keeps 51 = .ok (.istore_n 2, 1) := dc_61 (gB_c lq_cX12_keeps q1_cX12_keeps 19 (o := 61) rfl)
theorem dX12_keeps_52 : decode cX12_keeps 52 = .ok (.iload_n 2, 1) := dc_28 (gB_c lq_cX12_keeps q1_cX12_keeps 20 (o := 28) rfl)
theorem dX12_keeps_53 : decode cX12_keeps 53 = .ok (.sipush 273, 3) := dc_17 (gB_c lq_cX12_keeps q1_cX12_keeps 21 (o := 17) rfl) (gB_c lq_cX12_keeps q1_cX12_keeps 22 (o := 1) rfl) (gB_c lq_cX12_keeps q1_cX12_keeps 23 (o := 17) rfl) rfl
theorem dX12_keeps_56 : decode cX12_keeps 56 = .ok (.if_icmp .ge 30, 3) := dc_162 (gB_c lq_cX12_keeps q1_cX12_keeps 24 (o := 162) rfl) (gB_c lq_cX12_keeps q1_cX12_keeps 25 (o := 0) rfl) (gB_c lq_cX12_keeps q1_cX12_keeps 26 (o := 30) rfl) rfl
theorem dX12_keeps_59 : decode cX12_keeps 59 = .ok (.aload_n 0, 1) := dc_42 (gB_c lq_cX12_keeps q1_cX12_keeps 27 (o := 42) rfl)
theorem dX12_keeps_60 : decode cX12_keeps 60 = .ok (.getfield 16, 3) := dc_180 (gB_c lq_cX12_keeps q1_cX12_keeps 28 (o := 180) rfl) (gB_c lq_cX12_keeps q1_cX12_keeps 29 (o := 0) rfl) (gB_c lq_cX12_keeps q1_cX12_keeps 30 (o := 16) rfl) rfl
theorem dX12_keeps_63 : decode cX12_keeps 63 = .ok (.sipush 273, 3) := dc_17 (gB_c lq_cX12_keeps q1_cX12_keeps 31 (o := 17) rfl) (gB_c lq_cX12_keeps q2_cX12_keeps 0 (o := 1) rfl) (gB_c lq_cX12_keeps q2_cX12_keeps 1 (o := 17) rfl) rfl
theorem dX12_keeps_66 : decode cX12_keeps 66 = .ok (.aload_n 0, 1) := dc_42 (gB_c lq_cX12_keeps q2_cX12_keeps 2 (o := 42) rfl)
theorem dX12_keeps_67 : decode cX12_keeps 67 = .ok (.getfield 87, 3) := dc_180 (gB_c lq_cX12_keeps q2_cX12_keeps 3 (o := 180) rfl) (gB_c lq_cX12_keeps q2_cX12_keeps 4 (o := 0) rfl) (gB_c lq_cX12_keeps q2_cX12_keeps 5 (o := 87) rfl) rfl
theorem dX12_keeps_70 : decode cX12_keeps 70 = .ok (.imul, 1) := dc_104 (gB_c lq_cX12_keeps q2_cX12_keeps 6 (o := 104) rfl)
theorem dX12_keeps_71 : decode cX12_keeps 71 = .ok (.iload_n 2, 1) := dc_28 (gB_c lq_cX12_keeps q2_cX12_keeps 7 (o := 28) rfl)
theorem dX12_keeps_72 : decode cX12_keeps 72 = .ok (.iadd, 1) := dc_96 (gB_c lq_cX12_keeps q2_cX12_keeps 8 (o := 96) rfl)
theorem dX12_keeps_73 : decode cX12_keeps 73 = .ok (.aload_n 0, 1) := dc_42 (gB_c lq_cX12_keeps q2_cX12_keeps 9 (o := 42) rfl)
theorem dX12_keeps_74 : decode cX12_keeps 74 = .ok (.getfield 13, 3) := dc_180 (gB_c lq_cX12_keeps q2_cX12_keeps 10 (o := 180) rfl) (gB_c lq_cX12_keeps q2_cX12_keeps 11 (o := 0) rfl) (gB_c lq_cX12_keeps q2_cX12_keeps 12 (o := 13) rfl) rfl
theorem dX12_keeps_77 : decode cX12_keeps 77 = .ok (.iload_n 2, 1) := dc_28 (gB_c lq_cX12_keeps q2_cX12_keeps 13 (o := 28) rfl)
theorem dX12_keeps_78 : decode cX12_keeps 78 = .ok (.iaload, 1) := dc_46 (gB_c lq_cX12_keeps q2_cX12_keeps 14 (o := 46) rfl)
theorem dX12_keeps_79 : decode cX12_keeps 79 = .ok (.iastore, 1) := dc_79 (gB_c lq_cX12_keeps q2_cX12_keeps 15 (o := 79) rfl)
theorem dX12_keeps_80 : decode cX12_keeps 80 = .ok (.iinc 2 1, 3) := dc_132 (gB_c lq_cX12_keeps q2_cX12_keeps 16 (o := 132) rfl) (gB_c lq_cX12_keeps q2_cX12_keeps 17 (o := 2) rfl) (gB_c lq_cX12_keeps q2_cX12_keeps 18 (o := 1) rfl) rfl
theorem dX12_keeps_83 : decode cX12_keeps 83 = .ok (.goto (-31), 3) := dc_167 (gB_c lq_cX12_keeps q2_cX12_keeps 19 (o := 167) rfl) (gB_c lq_cX12_keeps q2_cX12_keeps 20 (o := 255) rfl) (gB_c lq_cX12_keeps q2_cX12_keeps 21 (o := 225) rfl) rfl
theorem dX12_keeps_86 : decode cX12_keeps 86 = .ok (.aload_n 0, 1) := dc_42 (gB_c lq_cX12_keeps q2_cX12_keeps 22 (o := 42) rfl)
theorem dX12_keeps_87 : decode cX12_keeps 87 = .ok (.dup, 1) := dc_89 (gB_c lq_cX12_keeps q2_cX12_keeps 23 (o := 89) rfl)
theorem dX12_keeps_88 : decode cX12_keeps 88 = .ok (.getfield 87, 3) := dc_180 (gB_c lq_cX12_keeps q2_cX12_keeps 24 (o := 180) rfl) (gB_c lq_cX12_keeps q2_cX12_keeps 25 (o := 0) rfl) (gB_c lq_cX12_keeps q2_cX12_keeps 26 (o := 87) rfl) rfl
theorem dX12_keeps_91 : decode cX12_keeps 91 = .ok (.iconst 1, 1) := dc_4 (gB_c lq_cX12_keeps q2_cX12_keeps 27 (o := 4) rfl)
theorem dX12_keeps_92 : decode cX12_keeps 92 = .ok (.iadd, 1) := dc_96 (gB_c lq_cX12_keeps q2_cX12_keeps 28 (o := 96) rfl)
theorem dX12_keeps_93 : decode cX12_keeps 93 = .ok (.putfield 87, 3) := dc_181 (gB_c lq_cX12_keeps q2_cX12_keeps 29 (o := 181) rfl) (gB_c lq_cX12_keeps q2_cX12_keeps 30 (o := 0) rfl) (gB_c lq_cX12_keeps q2_cX12_keeps 31 (o := 87) rfl) rfl
theorem dX12_keeps_96 : decode cX12_keeps 96 = .ok (.iload_n 1, 1) := dc_27 (gB_c lq_cX12_keeps q3_cX12_keeps 0 (o := 27) rfl)
theorem dX12_keeps_97 : decode cX12_keeps 97 = .ok (.ireturn, 1) := dc_172 (gB_c lq_cX12_keeps q3_cX12_keeps 1 (o := 172) rfl)
abbrev r1_cX12_keepsLeast : List Nat := [46, 184, 0, 242, 184, 0, 242, 42, 180, 0, 29, 3, 46, 160, 0, 7, 4, 167, 0, 4, 3, 172]
def a0_cX12_keepsLeast : List Nat := [28, 29, 184, 0, 166, 154, 0, 47, 27, 21, 4, 27, 42, 180, 0, 35, 16, 9, 28, 104, 29, 96, 46, 42, 180, 0, 29, 28, 4, 29, 120, 128]
abbrev r0_cX12_keepsLeast : List Nat := a0_cX12_keepsLeast ++ r1_cX12_keepsLeast
theorem lq_cX12_keepsLeast : (cX12_keepsLeast).data.toList.map UInt8.toNat = r0_cX12_keepsLeast := by decide +kernel
theorem q1_cX12_keepsLeast : ∀ i, (r0_cX12_keepsLeast)[32 + i]? = (r1_cX12_keepsLeast)[i]? := chn (A := a0_cX12_keepsLeast) (B := r1_cX12_keepsLeast) (n := 0) (k := 32) rfl (ch0 (R := r0_cX12_keepsLeast))
theorem dX12_keepsLeast_0 : decode cX12_keepsLeast 0 = .ok (.iload_n 2, 1) := dc_28 (gB_l lq_cX12_keepsLeast (p := 0) (o := 28) rfl)
theorem dX12_keepsLeast_1 : decode cX12_keepsLeast 1 = .ok (.iload_n 3, 1) := dc_29 (gB_l lq_cX12_keepsLeast (p := 1) (o := 29) rfl)
theorem dX12_keepsLeast_2 : decode cX12_keepsLeast 2 = .ok (.invokestatic 166, 3) := dc_184 (gB_l lq_cX12_keepsLeast (p := 2) (o := 184) rfl) (gB_l lq_cX12_keepsLeast (p := 3) (o := 0) rfl) (gB_l lq_cX12_keepsLeast (p := 4) (o := 166) rfl) rfl
theorem dX12_keepsLeast_5 : decode cX12_keepsLeast 5 = .ok (.ifCond .ne 47, 3) := dc_154 (gB_l lq_cX12_keepsLeast (p := 5) (o := 154) rfl) (gB_l lq_cX12_keepsLeast (p := 6) (o := 0) rfl) (gB_l lq_cX12_keepsLeast (p := 7) (o := 47) rfl) rfl
theorem dX12_keepsLeast_8 : decode cX12_keepsLeast 8 = .ok (.iload_n 1, 1) := dc_27 (gB_l lq_cX12_keepsLeast (p := 8) (o := 27) rfl)
theorem dX12_keepsLeast_9 : decode cX12_keepsLeast 9 = .ok (.iload 4, 2) := dc_21 (gB_l lq_cX12_keepsLeast (p := 9) (o := 21) rfl) (gB_l lq_cX12_keepsLeast (p := 10) (o := 4) rfl)
theorem dX12_keepsLeast_11 : decode cX12_keepsLeast 11 = .ok (.iload_n 1, 1) := dc_27 (gB_l lq_cX12_keepsLeast (p := 11) (o := 27) rfl)
theorem dX12_keepsLeast_12 : decode cX12_keepsLeast 12 = .ok (.aload_n 0, 1) := dc_42 (gB_l lq_cX12_keepsLeast (p := 12) (o := 42) rfl)
theorem dX12_keepsLeast_13 : decode cX12_keepsLeast 13 = .ok (.getfield 35, 3) := dc_180 (gB_l lq_cX12_keepsLeast (p := 13) (o := 180) rfl) (gB_l lq_cX12_keepsLeast (p := 14) (o := 0) rfl) (gB_l lq_cX12_keepsLeast (p := 15) (o := 35) rfl) rfl
theorem dX12_keepsLeast_16 : decode cX12_keepsLeast 16 = .ok (.bipush 9, 2) := dc_16 (gB_l lq_cX12_keepsLeast (p := 16) (o := 16) rfl) (gB_l lq_cX12_keepsLeast (p := 17) (o := 9) rfl) rfl
theorem dX12_keepsLeast_18 : decode cX12_keepsLeast 18 = .ok (.iload_n 2, 1) := dc_28 (gB_l lq_cX12_keepsLeast (p := 18) (o := 28) rfl)
theorem dX12_keepsLeast_19 : decode cX12_keepsLeast 19 = .ok (.imul, 1) := dc_104 (gB_l lq_cX12_keepsLeast (p := 19) (o := 104) rfl)
theorem dX12_keepsLeast_20 : decode cX12_keepsLeast 20 = .ok (.iload_n 3, 1) := dc_29 (gB_l lq_cX12_keepsLeast (p := 20) (o := 29) rfl)
theorem dX12_keepsLeast_21 : decode cX12_keepsLeast 21 = .ok (.iadd, 1) := dc_96 (gB_l lq_cX12_keepsLeast (p := 21) (o := 96) rfl)
theorem dX12_keepsLeast_22 : decode cX12_keepsLeast 22 = .ok (.iaload, 1) := dc_46 (gB_l lq_cX12_keepsLeast (p := 22) (o := 46) rfl)
theorem dX12_keepsLeast_23 : decode cX12_keepsLeast 23 = .ok (.aload_n 0, 1) := dc_42 (gB_l lq_cX12_keepsLeast (p := 23) (o := 42) rfl)
theorem dX12_keepsLeast_24 : decode cX12_keepsLeast 24 = .ok (.getfield 29, 3) := dc_180 (gB_l lq_cX12_keepsLeast (p := 24) (o := 180) rfl) (gB_l lq_cX12_keepsLeast (p := 25) (o := 0) rfl) (gB_l lq_cX12_keepsLeast (p := 26) (o := 29) rfl) rfl
theorem dX12_keepsLeast_27 : decode cX12_keepsLeast 27 = .ok (.iload_n 2, 1) := dc_28 (gB_l lq_cX12_keepsLeast (p := 27) (o := 28) rfl)
theorem dX12_keepsLeast_28 : decode cX12_keepsLeast 28 = .ok (.iconst 1, 1) := dc_4 (gB_l lq_cX12_keepsLeast (p := 28) (o := 4) rfl)
theorem dX12_keepsLeast_29 : decode cX12_keepsLeast 29 = .ok (.iload_n 3, 1) := dc_29 (gB_l lq_cX12_keepsLeast (p := 29) (o := 29) rfl)
theorem dX12_keepsLeast_30 : decode cX12_keepsLeast 30 = .ok (.ishl, 1) := dc_120 (gB_l lq_cX12_keepsLeast (p := 30) (o := 120) rfl)
theorem dX12_keepsLeast_31 : decode cX12_keepsLeast 31 = .ok (.ior, 1) := dc_128 (gB_l lq_cX12_keepsLeast (p := 31) (o := 128) rfl)
theorem dX12_keepsLeast_32 : decode cX12_keepsLeast 32 = .ok (.iaload, 1) := dc_46 (gB_c lq_cX12_keepsLeast q1_cX12_keepsLeast 0 (o := 46) rfl)
theorem dX12_keepsLeast_33 : decode cX12_keepsLeast 33 = .ok (.invokestatic 242, 3) := dc_184 (gB_c lq_cX12_keepsLeast q1_cX12_keepsLeast 1 (o := 184) rfl) (gB_c lq_cX12_keepsLeast q1_cX12_keepsLeast 2 (o := 0) rfl) (gB_c lq_cX12_keepsLeast q1_cX12_keepsLeast 3 (o := 242) rfl) rfl
theorem dX12_keepsLeast_36 : decode cX12_keepsLeast 36 = .ok (.invokestatic 242, 3) := dc_184 (gB_c lq_cX12_keepsLeast q1_cX12_keepsLeast 4 (o := 184) rfl) (gB_c lq_cX12_keepsLeast q1_cX12_keepsLeast 5 (o := 0) rfl) (gB_c lq_cX12_keepsLeast q1_cX12_keepsLeast 6 (o := 242) rfl) rfl
theorem dX12_keepsLeast_39 : decode cX12_keepsLeast 39 = .ok (.aload_n 0, 1) := dc_42 (gB_c lq_cX12_keepsLeast q1_cX12_keepsLeast 7 (o := 42) rfl)
theorem dX12_keepsLeast_40 : decode cX12_keepsLeast 40 = .ok (.getfield 29, 3) := dc_180 (gB_c lq_cX12_keepsLeast q1_cX12_keepsLeast 8 (o := 180) rfl) (gB_c lq_cX12_keepsLeast q1_cX12_keepsLeast 9 (o := 0) rfl) (gB_c lq_cX12_keepsLeast q1_cX12_keepsLeast 10 (o := 29) rfl) rfl
theorem dX12_keepsLeast_43 : decode cX12_keepsLeast 43 = .ok (.iconst 0, 1) := dc_3 (gB_c lq_cX12_keepsLeast q1_cX12_keepsLeast 11 (o := 3) rfl)
theorem dX12_keepsLeast_44 : decode cX12_keepsLeast 44 = .ok (.iaload, 1) := dc_46 (gB_c lq_cX12_keepsLeast q1_cX12_keepsLeast 12 (o := 46) rfl)
theorem dX12_keepsLeast_45 : decode cX12_keepsLeast 45 = .ok (.if_icmp .ne 7, 3) := dc_160 (gB_c lq_cX12_keepsLeast q1_cX12_keepsLeast 13 (o := 160) rfl) (gB_c lq_cX12_keepsLeast q1_cX12_keepsLeast 14 (o := 0) rfl) (gB_c lq_cX12_keepsLeast q1_cX12_keepsLeast 15 (o := 7) rfl) rfl
theorem dX12_keepsLeast_48 : decode cX12_keepsLeast 48 = .ok (.iconst 1, 1) := dc_4 (gB_c lq_cX12_keepsLeast q1_cX12_keepsLeast 16 (o := 4) rfl)
theorem dX12_keepsLeast_49 : decode cX12_keepsLeast 49 = .ok (.goto 4, 3) := dc_167 (gB_c lq_cX12_keepsLeast q1_cX12_keepsLeast 17 (o := 167) rfl) (gB_c lq_cX12_keepsLeast q1_cX12_keepsLeast 18 (o := 0) rfl) (gB_c lq_cX12_keepsLeast q1_cX12_keepsLeast 19 (o := 4) rfl) rfl
theorem dX12_keepsLeast_52 : decode cX12_keepsLeast 52 = .ok (.iconst 0, 1) := dc_3 (gB_c lq_cX12_keepsLeast q1_cX12_keepsLeast 20 (o := 3) rfl)
theorem dX12_keepsLeast_53 : decode cX12_keepsLeast 53 = .ok (.ireturn, 1) := dc_172 (gB_c lq_cX12_keepsLeast q1_cX12_keepsLeast 21 (o := 172) rfl)
abbrev r2_cX12_layers : List Nat := [26, 29, 21, 5, 79, 132, 3, 1, 132, 5, 1, 167, 255, 208, 132, 4, 1, 167, 255, 192, 42, 27, 182, 1, 64, 172]
def a1_cX12_layers : List Nat := [0, 63, 162, 0, 44, 42, 27, 28, 21, 5, 182, 0, 196, 21, 4, 16, 9, 160, 0, 7, 2, 167, 0, 5, 21, 4, 160, 0, 14, 42, 180, 0]
abbrev r1_cX12_layers : List Nat := a1_cX12_layers ++ r2_cX12_layers
def a0_cX12_layers : List Nat := [42, 27, 28, 182, 0, 70, 154, 0, 6, 16, 254, 172, 3, 62, 3, 54, 4, 21, 4, 16, 9, 163, 0, 63, 3, 54, 5, 21, 5, 42, 27, 182]
abbrev r0_cX12_layers : List Nat := a0_cX12_layers ++ r1_cX12_layers
theorem lq_cX12_layers : (cX12_layers).data.toList.map UInt8.toNat = r0_cX12_layers := by decide +kernel
theorem q1_cX12_layers : ∀ i, (r0_cX12_layers)[32 + i]? = (r1_cX12_layers)[i]? := chn (A := a0_cX12_layers) (B := r1_cX12_layers) (n := 0) (k := 32) rfl (ch0 (R := r0_cX12_layers))
theorem q2_cX12_layers : ∀ i, (r0_cX12_layers)[64 + i]? = (r2_cX12_layers)[i]? := chn (A := a1_cX12_layers) (B := r2_cX12_layers) (n := 32) (k := 32) rfl q1_cX12_layers
theorem dX12_layers_0 : decode cX12_layers 0 = .ok (.aload_n 0, 1) := dc_42 (gB_l lq_cX12_layers (p := 0) (o := 42) rfl)
theorem dX12_layers_1 : decode cX12_layers 1 = .ok (.iload_n 1, 1) := dc_27 (gB_l lq_cX12_layers (p := 1) (o := 27) rfl)
theorem dX12_layers_2 : decode cX12_layers 2 = .ok (.iload_n 2, 1) := dc_28 (gB_l lq_cX12_layers (p := 2) (o := 28) rfl)
theorem dX12_layers_3 : decode cX12_layers 3 = .ok (.invokevirtual 70, 3) := dc_182 (gB_l lq_cX12_layers (p := 3) (o := 182) rfl) (gB_l lq_cX12_layers (p := 4) (o := 0) rfl) (gB_l lq_cX12_layers (p := 5) (o := 70) rfl) rfl
theorem dX12_layers_6 : decode cX12_layers 6 = .ok (.ifCond .ne 6, 3) := dc_154 (gB_l lq_cX12_layers (p := 6) (o := 154) rfl) (gB_l lq_cX12_layers (p := 7) (o := 0) rfl) (gB_l lq_cX12_layers (p := 8) (o := 6) rfl) rfl
theorem dX12_layers_9 : decode cX12_layers 9 = .ok (.bipush (-2), 2) := dc_16 (gB_l lq_cX12_layers (p := 9) (o := 16) rfl) (gB_l lq_cX12_layers (p := 10) (o := 254) rfl) rfl
theorem dX12_layers_11 : decode cX12_layers 11 = .ok (.ireturn, 1) := dc_172 (gB_l lq_cX12_layers (p := 11) (o := 172) rfl)
theorem dX12_layers_12 : decode cX12_layers 12 = .ok (.iconst 0, 1) := dc_3 (gB_l lq_cX12_layers (p := 12) (o := 3) rfl)
theorem dX12_layers_13 : decode cX12_layers 13 = .ok (.istore_n 3, 1) := dc_62 (gB_l lq_cX12_layers (p := 13) (o := 62) rfl)
theorem dX12_layers_14 : decode cX12_layers 14 = .ok (.iconst 0, 1) := dc_3 (gB_l lq_cX12_layers (p := 14) (o := 3) rfl)
theorem dX12_layers_15 : decode cX12_layers 15 = .ok (.istore 4, 2) := dc_54 (gB_l lq_cX12_layers (p := 15) (o := 54) rfl) (gB_l lq_cX12_layers (p := 16) (o := 4) rfl)
theorem dX12_layers_17 : decode cX12_layers 17 = .ok (.iload 4, 2) := dc_21 (gB_l lq_cX12_layers (p := 17) (o := 21) rfl) (gB_l lq_cX12_layers (p := 18) (o := 4) rfl)
theorem dX12_layers_19 : decode cX12_layers 19 = .ok (.bipush 9, 2) := dc_16 (gB_l lq_cX12_layers (p := 19) (o := 16) rfl) (gB_l lq_cX12_layers (p := 20) (o := 9) rfl) rfl
theorem dX12_layers_21 : decode cX12_layers 21 = .ok (.if_icmp .gt 63, 3) := dc_163 (gB_l lq_cX12_layers (p := 21) (o := 163) rfl) (gB_l lq_cX12_layers (p := 22) (o := 0) rfl) (gB_l lq_cX12_layers (p := 23) (o := 63) rfl) rfl
theorem dX12_layers_24 : decode cX12_layers 24 = .ok (.iconst 0, 1) := dc_3 (gB_l lq_cX12_layers (p := 24) (o := 3) rfl)
theorem dX12_layers_25 : decode cX12_layers 25 = .ok (.istore 5, 2) := dc_54 (gB_l lq_cX12_layers (p := 25) (o := 54) rfl) (gB_l lq_cX12_layers (p := 26) (o := 5) rfl)
theorem dX12_layers_27 : decode cX12_layers 27 = .ok (.iload 5, 2) := dc_21 (gB_l lq_cX12_layers (p := 27) (o := 21) rfl) (gB_l lq_cX12_layers (p := 28) (o := 5) rfl)
theorem dX12_layers_29 : decode cX12_layers 29 = .ok (.aload_n 0, 1) := dc_42 (gB_l lq_cX12_layers (p := 29) (o := 42) rfl)
theorem dX12_layers_30 : decode cX12_layers 30 = .ok (.iload_n 1, 1) := dc_27 (gB_l lq_cX12_layers (p := 30) (o := 27) rfl)
theorem dX12_layers_31 : decode cX12_layers 31 = .ok (.invokevirtual 63, 3) := dc_182 (gB_l lq_cX12_layers (p := 31) (o := 182) rfl) (gB_c lq_cX12_layers q1_cX12_layers 0 (o := 0) rfl) (gB_c lq_cX12_layers q1_cX12_layers 1 (o := 63) rfl) rfl
theorem dX12_layers_34 : decode cX12_layers 34 = .ok (.if_icmp .ge 44, 3) := dc_162 (gB_c lq_cX12_layers q1_cX12_layers 2 (o := 162) rfl) (gB_c lq_cX12_layers q1_cX12_layers 3 (o := 0) rfl) (gB_c lq_cX12_layers q1_cX12_layers 4 (o := 44) rfl) rfl
theorem dX12_layers_37 : decode cX12_layers 37 = .ok (.aload_n 0, 1) := dc_42 (gB_c lq_cX12_layers q1_cX12_layers 5 (o := 42) rfl)
theorem dX12_layers_38 : decode cX12_layers 38 = .ok (.iload_n 1, 1) := dc_27 (gB_c lq_cX12_layers q1_cX12_layers 6 (o := 27) rfl)
theorem dX12_layers_39 : decode cX12_layers 39 = .ok (.iload_n 2, 1) := dc_28 (gB_c lq_cX12_layers q1_cX12_layers 7 (o := 28) rfl)
theorem dX12_layers_40 : decode cX12_layers 40 = .ok (.iload 5, 2) := dc_21 (gB_c lq_cX12_layers q1_cX12_layers 8 (o := 21) rfl) (gB_c lq_cX12_layers q1_cX12_layers 9 (o := 5) rfl)
theorem dX12_layers_42 : decode cX12_layers 42 = .ok (.invokevirtual 196, 3) := dc_182 (gB_c lq_cX12_layers q1_cX12_layers 10 (o := 182) rfl) (gB_c lq_cX12_layers q1_cX12_layers 11 (o := 0) rfl) (gB_c lq_cX12_layers q1_cX12_layers 12 (o := 196) rfl) rfl
theorem dX12_layers_45 : decode cX12_layers 45 = .ok (.iload 4, 2) := dc_21 (gB_c lq_cX12_layers q1_cX12_layers 13 (o := 21) rfl) (gB_c lq_cX12_layers q1_cX12_layers 14 (o := 4) rfl)
theorem dX12_layers_47 : decode cX12_layers 47 = .ok (.bipush 9, 2) := dc_16 (gB_c lq_cX12_layers q1_cX12_layers 15 (o := 16) rfl) (gB_c lq_cX12_layers q1_cX12_layers 16 (o := 9) rfl) rfl
theorem dX12_layers_49 : decode cX12_layers 49 = .ok (.if_icmp .ne 7, 3) := dc_160 (gB_c lq_cX12_layers q1_cX12_layers 17 (o := 160) rfl) (gB_c lq_cX12_layers q1_cX12_layers 18 (o := 0) rfl) (gB_c lq_cX12_layers q1_cX12_layers 19 (o := 7) rfl) rfl
theorem dX12_layers_52 : decode cX12_layers 52 = .ok (.iconst (-1), 1) := dc_2 (gB_c lq_cX12_layers q1_cX12_layers 20 (o := 2) rfl)
theorem dX12_layers_53 : decode cX12_layers 53 = .ok (.goto 5, 3) := dc_167 (gB_c lq_cX12_layers q1_cX12_layers 21 (o := 167) rfl) (gB_c lq_cX12_layers q1_cX12_layers 22 (o := 0) rfl) (gB_c lq_cX12_layers q1_cX12_layers 23 (o := 5) rfl) rfl
theorem dX12_layers_56 : decode cX12_layers 56 = .ok (.iload 4, 2) := dc_21 (gB_c lq_cX12_layers q1_cX12_layers 24 (o := 21) rfl) (gB_c lq_cX12_layers q1_cX12_layers 25 (o := 4) rfl)
theorem dX12_layers_58 : decode cX12_layers 58 = .ok (.if_icmp .ne 14, 3) := dc_160 (gB_c lq_cX12_layers q1_cX12_layers 26 (o := 160) rfl) (gB_c lq_cX12_layers q1_cX12_layers 27 (o := 0) rfl) (gB_c lq_cX12_layers q1_cX12_layers 28 (o := 14) rfl) rfl
theorem dX12_layers_61 : decode cX12_layers 61 = .ok (.aload_n 0, 1) := dc_42 (gB_c lq_cX12_layers q1_cX12_layers 29 (o := 42) rfl)
theorem dX12_layers_62 : decode cX12_layers 62 = .ok (.getfield 26, 3) := dc_180 (gB_c lq_cX12_layers q1_cX12_layers 30 (o := 180) rfl) (gB_c lq_cX12_layers q1_cX12_layers 31 (o := 0) rfl) (gB_c lq_cX12_layers q2_cX12_layers 0 (o := 26) rfl) rfl
theorem dX12_layers_65 : decode cX12_layers 65 = .ok (.iload_n 3, 1) := dc_29 (gB_c lq_cX12_layers q2_cX12_layers 1 (o := 29) rfl)
theorem dX12_layers_66 : decode cX12_layers 66 = .ok (.iload 5, 2) := dc_21 (gB_c lq_cX12_layers q2_cX12_layers 2 (o := 21) rfl) (gB_c lq_cX12_layers q2_cX12_layers 3 (o := 5) rfl)
theorem dX12_layers_68 : decode cX12_layers 68 = .ok (.iastore, 1) := dc_79 (gB_c lq_cX12_layers q2_cX12_layers 4 (o := 79) rfl)
theorem dX12_layers_69 : decode cX12_layers 69 = .ok (.iinc 3 1, 3) := dc_132 (gB_c lq_cX12_layers q2_cX12_layers 5 (o := 132) rfl) (gB_c lq_cX12_layers q2_cX12_layers 6 (o := 3) rfl) (gB_c lq_cX12_layers q2_cX12_layers 7 (o := 1) rfl) rfl
theorem dX12_layers_72 : decode cX12_layers 72 = .ok (.iinc 5 1, 3) := dc_132 (gB_c lq_cX12_layers q2_cX12_layers 8 (o := 132) rfl) (gB_c lq_cX12_layers q2_cX12_layers 9 (o := 5) rfl) (gB_c lq_cX12_layers q2_cX12_layers 10 (o := 1) rfl) rfl
theorem dX12_layers_75 : decode cX12_layers 75 = .ok (.goto (-48), 3) := dc_167 (gB_c lq_cX12_layers q2_cX12_layers 11 (o := 167) rfl) (gB_c lq_cX12_layers q2_cX12_layers 12 (o := 255) rfl) (gB_c lq_cX12_layers q2_cX12_layers 13 (o := 208) rfl) rfl
theorem dX12_layers_78 : decode cX12_layers 78 = .ok (.iinc 4 1, 3) := dc_132 (gB_c lq_cX12_layers q2_cX12_layers 14 (o := 132) rfl) (gB_c lq_cX12_layers q2_cX12_layers 15 (o := 4) rfl) (gB_c lq_cX12_layers q2_cX12_layers 16 (o := 1) rfl) rfl
theorem dX12_layers_81 : decode cX12_layers 81 = .ok (.goto (-64), 3) := dc_167 (gB_c lq_cX12_layers q2_cX12_layers 17 (o := 167) rfl) (gB_c lq_cX12_layers q2_cX12_layers 18 (o := 255) rfl) (gB_c lq_cX12_layers q2_cX12_layers 19 (o := 192) rfl) rfl
theorem dX12_layers_84 : decode cX12_layers 84 = .ok (.aload_n 0, 1) := dc_42 (gB_c lq_cX12_layers q2_cX12_layers 20 (o := 42) rfl)
theorem dX12_layers_85 : decode cX12_layers 85 = .ok (.iload_n 1, 1) := dc_27 (gB_c lq_cX12_layers q2_cX12_layers 21 (o := 27) rfl)
theorem dX12_layers_86 : decode cX12_layers 86 = .ok (.invokevirtual 320, 3) := dc_182 (gB_c lq_cX12_layers q2_cX12_layers 22 (o := 182) rfl) (gB_c lq_cX12_layers q2_cX12_layers 23 (o := 1) rfl) (gB_c lq_cX12_layers q2_cX12_layers 24 (o := 64) rfl) rfl
theorem dX12_layers_89 : decode cX12_layers 89 = .ok (.ireturn, 1) := dc_172 (gB_c lq_cX12_layers q2_cX12_layers 25 (o := 172) rfl)
abbrev r4_cX12_laysBest : List Nat := [5, 1, 167, 255, 185, 177]
def a3_cX12_laysBest : List Nat := [0, 35, 16, 9, 29, 104, 21, 6, 96, 46, 184, 0, 242, 54, 4, 42, 180, 0, 41, 21, 5, 21, 6, 79, 29, 4, 21, 6, 120, 128, 62, 132]
abbrev r3_cX12_laysBest : List Nat := a3_cX12_laysBest ++ r4_cX12_laysBest
def a2_cX12_laysBest : List Nat := [0, 63, 162, 0, 67, 3, 54, 6, 42, 28, 29, 21, 6, 21, 4, 182, 1, 41, 154, 0, 9, 132, 6, 1, 167, 255, 240, 28, 21, 4, 42, 180]
abbrev r2_cX12_laysBest : List Nat := a2_cX12_laysBest ++ r3_cX12_laysBest
def a1_cX12_laysBest : List Nat := [0, 38, 21, 4, 46, 79, 132, 4, 1, 167, 255, 229, 177, 42, 27, 28, 182, 1, 24, 3, 62, 3, 54, 4, 3, 54, 5, 21, 5, 42, 27, 182]
abbrev r1_cX12_laysBest : List Nat := a1_cX12_laysBest ++ r2_cX12_laysBest
def a0_cX12_laysBest : List Nat := [28, 5, 160, 0, 43, 42, 27, 182, 1, 21, 62, 3, 54, 4, 21, 4, 42, 27, 182, 0, 63, 162, 0, 23, 42, 180, 0, 41, 21, 4, 42, 180]
abbrev r0_cX12_laysBest : List Nat := a0_cX12_laysBest ++ r1_cX12_laysBest
theorem lq_cX12_laysBest : (cX12_laysBest).data.toList.map UInt8.toNat = r0_cX12_laysBest := by decide +kernel
theorem q1_cX12_laysBest : ∀ i, (r0_cX12_laysBest)[32 + i]? = (r1_cX12_laysBest)[i]? := chn (A := a0_cX12_laysBest) (B := r1_cX12_laysBest) (n := 0) (k := 32) rfl (ch0 (R := r0_cX12_laysBest))
theorem q2_cX12_laysBest : ∀ i, (r0_cX12_laysBest)[64 + i]? = (r2_cX12_laysBest)[i]? := chn (A := a1_cX12_laysBest) (B := r2_cX12_laysBest) (n := 32) (k := 32) rfl q1_cX12_laysBest
theorem q3_cX12_laysBest : ∀ i, (r0_cX12_laysBest)[96 + i]? = (r3_cX12_laysBest)[i]? := chn (A := a2_cX12_laysBest) (B := r3_cX12_laysBest) (n := 64) (k := 32) rfl q2_cX12_laysBest
theorem q4_cX12_laysBest : ∀ i, (r0_cX12_laysBest)[128 + i]? = (r4_cX12_laysBest)[i]? := chn (A := a3_cX12_laysBest) (B := r4_cX12_laysBest) (n := 96) (k := 32) rfl q3_cX12_laysBest
theorem dX12_laysBest_0 : decode cX12_laysBest 0 = .ok (.iload_n 2, 1) := dc_28 (gB_l lq_cX12_laysBest (p := 0) (o := 28) rfl)
theorem dX12_laysBest_1 : decode cX12_laysBest 1 = .ok (.iconst 2, 1) := dc_5 (gB_l lq_cX12_laysBest (p := 1) (o := 5) rfl)
theorem dX12_laysBest_2 : decode cX12_laysBest 2 = .ok (.if_icmp .ne 43, 3) := dc_160 (gB_l lq_cX12_laysBest (p := 2) (o := 160) rfl) (gB_l lq_cX12_laysBest (p := 3) (o := 0) rfl) (gB_l lq_cX12_laysBest (p := 4) (o := 43) rfl) rfl
theorem dX12_laysBest_5 : decode cX12_laysBest 5 = .ok (.aload_n 0, 1) := dc_42 (gB_l lq_cX12_laysBest (p := 5) (o := 42) rfl)
theorem dX12_laysBest_6 : decode cX12_laysBest 6 = .ok (.iload_n 1, 1) := dc_27 (gB_l lq_cX12_laysBest (p := 6) (o := 27) rfl)
theorem dX12_laysBest_7 : decode cX12_laysBest 7 = .ok (.invokevirtual 277, 3) := dc_182 (gB_l lq_cX12_laysBest (p := 7) (o := 182) rfl) (gB_l lq_cX12_laysBest (p := 8) (o := 1) rfl) (gB_l lq_cX12_laysBest (p := 9) (o := 21) rfl) rfl
theorem dX12_laysBest_10 : decode cX12_laysBest 10 = .ok (.istore_n 3, 1) := dc_62 (gB_l lq_cX12_laysBest (p := 10) (o := 62) rfl)
theorem dX12_laysBest_11 : decode cX12_laysBest 11 = .ok (.iconst 0, 1) := dc_3 (gB_l lq_cX12_laysBest (p := 11) (o := 3) rfl)
theorem dX12_laysBest_12 : decode cX12_laysBest 12 = .ok (.istore 4, 2) := dc_54 (gB_l lq_cX12_laysBest (p := 12) (o := 54) rfl) (gB_l lq_cX12_laysBest (p := 13) (o := 4) rfl)
theorem dX12_laysBest_14 : decode cX12_laysBest 14 = .ok (.iload 4, 2) := dc_21 (gB_l lq_cX12_laysBest (p := 14) (o := 21) rfl) (gB_l lq_cX12_laysBest (p := 15) (o := 4) rfl)
theorem dX12_laysBest_16 : decode cX12_laysBest 16 = .ok (.aload_n 0, 1) := dc_42 (gB_l lq_cX12_laysBest (p := 16) (o := 42) rfl)
theorem dX12_laysBest_17 : decode cX12_laysBest 17 = .ok (.iload_n 1, 1) := dc_27 (gB_l lq_cX12_laysBest (p := 17) (o := 27) rfl)
theorem dX12_laysBest_18 : decode cX12_laysBest 18 = .ok (.invokevirtual 63, 3) := dc_182 (gB_l lq_cX12_laysBest (p := 18) (o := 182) rfl) (gB_l lq_cX12_laysBest (p := 19) (o := 0) rfl) (gB_l lq_cX12_laysBest (p := 20) (o := 63) rfl) rfl
theorem dX12_laysBest_21 : decode cX12_laysBest 21 = .ok (.if_icmp .ge 23, 3) := dc_162 (gB_l lq_cX12_laysBest (p := 21) (o := 162) rfl) (gB_l lq_cX12_laysBest (p := 22) (o := 0) rfl) (gB_l lq_cX12_laysBest (p := 23) (o := 23) rfl) rfl
theorem dX12_laysBest_24 : decode cX12_laysBest 24 = .ok (.aload_n 0, 1) := dc_42 (gB_l lq_cX12_laysBest (p := 24) (o := 42) rfl)
theorem dX12_laysBest_25 : decode cX12_laysBest 25 = .ok (.getfield 41, 3) := dc_180 (gB_l lq_cX12_laysBest (p := 25) (o := 180) rfl) (gB_l lq_cX12_laysBest (p := 26) (o := 0) rfl) (gB_l lq_cX12_laysBest (p := 27) (o := 41) rfl) rfl
theorem dX12_laysBest_28 : decode cX12_laysBest 28 = .ok (.iload 4, 2) := dc_21 (gB_l lq_cX12_laysBest (p := 28) (o := 21) rfl) (gB_l lq_cX12_laysBest (p := 29) (o := 4) rfl)
theorem dX12_laysBest_30 : decode cX12_laysBest 30 = .ok (.aload_n 0, 1) := dc_42 (gB_l lq_cX12_laysBest (p := 30) (o := 42) rfl)
theorem dX12_laysBest_31 : decode cX12_laysBest 31 = .ok (.getfield 38, 3) := dc_180 (gB_l lq_cX12_laysBest (p := 31) (o := 180) rfl) (gB_c lq_cX12_laysBest q1_cX12_laysBest 0 (o := 0) rfl) (gB_c lq_cX12_laysBest q1_cX12_laysBest 1 (o := 38) rfl) rfl
theorem dX12_laysBest_34 : decode cX12_laysBest 34 = .ok (.iload 4, 2) := dc_21 (gB_c lq_cX12_laysBest q1_cX12_laysBest 2 (o := 21) rfl) (gB_c lq_cX12_laysBest q1_cX12_laysBest 3 (o := 4) rfl)
theorem dX12_laysBest_36 : decode cX12_laysBest 36 = .ok (.iaload, 1) := dc_46 (gB_c lq_cX12_laysBest q1_cX12_laysBest 4 (o := 46) rfl)
theorem dX12_laysBest_37 : decode cX12_laysBest 37 = .ok (.iastore, 1) := dc_79 (gB_c lq_cX12_laysBest q1_cX12_laysBest 5 (o := 79) rfl)
theorem dX12_laysBest_38 : decode cX12_laysBest 38 = .ok (.iinc 4 1, 3) := dc_132 (gB_c lq_cX12_laysBest q1_cX12_laysBest 6 (o := 132) rfl) (gB_c lq_cX12_laysBest q1_cX12_laysBest 7 (o := 4) rfl) (gB_c lq_cX12_laysBest q1_cX12_laysBest 8 (o := 1) rfl) rfl
theorem dX12_laysBest_41 : decode cX12_laysBest 41 = .ok (.goto (-27), 3) := dc_167 (gB_c lq_cX12_laysBest q1_cX12_laysBest 9 (o := 167) rfl) (gB_c lq_cX12_laysBest q1_cX12_laysBest 10 (o := 255) rfl) (gB_c lq_cX12_laysBest q1_cX12_laysBest 11 (o := 229) rfl) rfl
theorem dX12_laysBest_44 : decode cX12_laysBest 44 = .ok (.return_, 1) := dc_177 (gB_c lq_cX12_laysBest q1_cX12_laysBest 12 (o := 177) rfl)
theorem dX12_laysBest_45 : decode cX12_laysBest 45 = .ok (.aload_n 0, 1) := dc_42 (gB_c lq_cX12_laysBest q1_cX12_laysBest 13 (o := 42) rfl)
theorem dX12_laysBest_46 : decode cX12_laysBest 46 = .ok (.iload_n 1, 1) := dc_27 (gB_c lq_cX12_laysBest q1_cX12_laysBest 14 (o := 27) rfl)
theorem dX12_laysBest_47 : decode cX12_laysBest 47 = .ok (.iload_n 2, 1) := dc_28 (gB_c lq_cX12_laysBest q1_cX12_laysBest 15 (o := 28) rfl)
theorem dX12_laysBest_48 : decode cX12_laysBest 48 = .ok (.invokevirtual 280, 3) := dc_182 (gB_c lq_cX12_laysBest q1_cX12_laysBest 16 (o := 182) rfl) (gB_c lq_cX12_laysBest q1_cX12_laysBest 17 (o := 1) rfl) (gB_c lq_cX12_laysBest q1_cX12_laysBest 18 (o := 24) rfl) rfl
theorem dX12_laysBest_51 : decode cX12_laysBest 51 = .ok (.iconst 0, 1) := dc_3 (gB_c lq_cX12_laysBest q1_cX12_laysBest 19 (o := 3) rfl)
theorem dX12_laysBest_52 : decode cX12_laysBest 52 = .ok (.istore_n 3, 1) := dc_62 (gB_c lq_cX12_laysBest q1_cX12_laysBest 20 (o := 62) rfl)
theorem dX12_laysBest_53 : decode cX12_laysBest 53 = .ok (.iconst 0, 1) := dc_3 (gB_c lq_cX12_laysBest q1_cX12_laysBest 21 (o := 3) rfl)
theorem dX12_laysBest_54 : decode cX12_laysBest 54 = .ok (.istore 4, 2) := dc_54 (gB_c lq_cX12_laysBest q1_cX12_laysBest 22 (o := 54) rfl) (gB_c lq_cX12_laysBest q1_cX12_laysBest 23 (o := 4) rfl)
theorem dX12_laysBest_56 : decode cX12_laysBest 56 = .ok (.iconst 0, 1) := dc_3 (gB_c lq_cX12_laysBest q1_cX12_laysBest 24 (o := 3) rfl)
theorem dX12_laysBest_57 : decode cX12_laysBest 57 = .ok (.istore 5, 2) := dc_54 (gB_c lq_cX12_laysBest q1_cX12_laysBest 25 (o := 54) rfl) (gB_c lq_cX12_laysBest q1_cX12_laysBest 26 (o := 5) rfl)
theorem dX12_laysBest_59 : decode cX12_laysBest 59 = .ok (.iload 5, 2) := dc_21 (gB_c lq_cX12_laysBest q1_cX12_laysBest 27 (o := 21) rfl) (gB_c lq_cX12_laysBest q1_cX12_laysBest 28 (o := 5) rfl)
theorem dX12_laysBest_61 : decode cX12_laysBest 61 = .ok (.aload_n 0, 1) := dc_42 (gB_c lq_cX12_laysBest q1_cX12_laysBest 29 (o := 42) rfl)
theorem dX12_laysBest_62 : decode cX12_laysBest 62 = .ok (.iload_n 1, 1) := dc_27 (gB_c lq_cX12_laysBest q1_cX12_laysBest 30 (o := 27) rfl)
theorem dX12_laysBest_63 : decode cX12_laysBest 63 = .ok (.invokevirtual 63, 3) := dc_182 (gB_c lq_cX12_laysBest q1_cX12_laysBest 31 (o := 182) rfl) (gB_c lq_cX12_laysBest q2_cX12_laysBest 0 (o := 0) rfl) (gB_c lq_cX12_laysBest q2_cX12_laysBest 1 (o := 63) rfl) rfl
theorem dX12_laysBest_66 : decode cX12_laysBest 66 = .ok (.if_icmp .ge 67, 3) := dc_162 (gB_c lq_cX12_laysBest q2_cX12_laysBest 2 (o := 162) rfl) (gB_c lq_cX12_laysBest q2_cX12_laysBest 3 (o := 0) rfl) (gB_c lq_cX12_laysBest q2_cX12_laysBest 4 (o := 67) rfl) rfl
theorem dX12_laysBest_69 : decode cX12_laysBest 69 = .ok (.iconst 0, 1) := dc_3 (gB_c lq_cX12_laysBest q2_cX12_laysBest 5 (o := 3) rfl)
theorem dX12_laysBest_70 : decode cX12_laysBest 70 = .ok (.istore 6, 2) := dc_54 (gB_c lq_cX12_laysBest q2_cX12_laysBest 6 (o := 54) rfl) (gB_c lq_cX12_laysBest q2_cX12_laysBest 7 (o := 6) rfl)
theorem dX12_laysBest_72 : decode cX12_laysBest 72 = .ok (.aload_n 0, 1) := dc_42 (gB_c lq_cX12_laysBest q2_cX12_laysBest 8 (o := 42) rfl)
theorem dX12_laysBest_73 : decode cX12_laysBest 73 = .ok (.iload_n 2, 1) := dc_28 (gB_c lq_cX12_laysBest q2_cX12_laysBest 9 (o := 28) rfl)
theorem dX12_laysBest_74 : decode cX12_laysBest 74 = .ok (.iload_n 3, 1) := dc_29 (gB_c lq_cX12_laysBest q2_cX12_laysBest 10 (o := 29) rfl)
theorem dX12_laysBest_75 : decode cX12_laysBest 75 = .ok (.iload 6, 2) := dc_21 (gB_c lq_cX12_laysBest q2_cX12_laysBest 11 (o := 21) rfl) (gB_c lq_cX12_laysBest q2_cX12_laysBest 12 (o := 6) rfl)
theorem dX12_laysBest_77 : decode cX12_laysBest 77 = .ok (.iload 4, 2) := dc_21 (gB_c lq_cX12_laysBest q2_cX12_laysBest 13 (o := 21) rfl) (gB_c lq_cX12_laysBest q2_cX12_laysBest 14 (o := 4) rfl)
theorem dX12_laysBest_79 : decode cX12_laysBest 79 = .ok (.invokevirtual 297, 3) := dc_182 (gB_c lq_cX12_laysBest q2_cX12_laysBest 15 (o := 182) rfl) (gB_c lq_cX12_laysBest q2_cX12_laysBest 16 (o := 1) rfl) (gB_c lq_cX12_laysBest q2_cX12_laysBest 17 (o := 41) rfl) rfl
theorem dX12_laysBest_82 : decode cX12_laysBest 82 = .ok (.ifCond .ne 9, 3) := dc_154 (gB_c lq_cX12_laysBest q2_cX12_laysBest 18 (o := 154) rfl) (gB_c lq_cX12_laysBest q2_cX12_laysBest 19 (o := 0) rfl) (gB_c lq_cX12_laysBest q2_cX12_laysBest 20 (o := 9) rfl) rfl
theorem dX12_laysBest_85 : decode cX12_laysBest 85 = .ok (.iinc 6 1, 3) := dc_132 (gB_c lq_cX12_laysBest q2_cX12_laysBest 21 (o := 132) rfl) (gB_c lq_cX12_laysBest q2_cX12_laysBest 22 (o := 6) rfl) (gB_c lq_cX12_laysBest q2_cX12_laysBest 23 (o := 1) rfl) rfl
theorem dX12_laysBest_88 : decode cX12_laysBest 88 = .ok (.goto (-16), 3) := dc_167 (gB_c lq_cX12_laysBest q2_cX12_laysBest 24 (o := 167) rfl) (gB_c lq_cX12_laysBest q2_cX12_laysBest 25 (o := 255) rfl) (gB_c lq_cX12_laysBest q2_cX12_laysBest 26 (o := 240) rfl) rfl
theorem dX12_laysBest_91 : decode cX12_laysBest 91 = .ok (.iload_n 2, 1) := dc_28 (gB_c lq_cX12_laysBest q2_cX12_laysBest 27 (o := 28) rfl)
theorem dX12_laysBest_92 : decode cX12_laysBest 92 = .ok (.iload 4, 2) := dc_21 (gB_c lq_cX12_laysBest q2_cX12_laysBest 28 (o := 21) rfl) (gB_c lq_cX12_laysBest q2_cX12_laysBest 29 (o := 4) rfl)
theorem dX12_laysBest_94 : decode cX12_laysBest 94 = .ok (.aload_n 0, 1) := dc_42 (gB_c lq_cX12_laysBest q2_cX12_laysBest 30 (o := 42) rfl)
theorem dX12_laysBest_95 : decode cX12_laysBest 95 = .ok (.getfield 35, 3) := dc_180 (gB_c lq_cX12_laysBest q2_cX12_laysBest 31 (o := 180) rfl) (gB_c lq_cX12_laysBest q3_cX12_laysBest 0 (o := 0) rfl) (gB_c lq_cX12_laysBest q3_cX12_laysBest 1 (o := 35) rfl) rfl
theorem dX12_laysBest_98 : decode cX12_laysBest 98 = .ok (.bipush 9, 2) := dc_16 (gB_c lq_cX12_laysBest q3_cX12_laysBest 2 (o := 16) rfl) (gB_c lq_cX12_laysBest q3_cX12_laysBest 3 (o := 9) rfl) rfl
theorem dX12_laysBest_100 : decode cX12_laysBest 100 = .ok (.iload_n 3, 1) := dc_29 (gB_c lq_cX12_laysBest q3_cX12_laysBest 4 (o := 29) rfl)
theorem dX12_laysBest_101 : decode cX12_laysBest 101 = .ok (.imul, 1) := dc_104 (gB_c lq_cX12_laysBest q3_cX12_laysBest 5 (o := 104) rfl)
theorem dX12_laysBest_102 : decode cX12_laysBest 102 = .ok (.iload 6, 2) := dc_21 (gB_c lq_cX12_laysBest q3_cX12_laysBest 6 (o := 21) rfl) (gB_c lq_cX12_laysBest q3_cX12_laysBest 7 (o := 6) rfl)
theorem dX12_laysBest_104 : decode cX12_laysBest 104 = .ok (.iadd, 1) := dc_96 (gB_c lq_cX12_laysBest q3_cX12_laysBest 8 (o := 96) rfl)
theorem dX12_laysBest_105 : decode cX12_laysBest 105 = .ok (.iaload, 1) := dc_46 (gB_c lq_cX12_laysBest q3_cX12_laysBest 9 (o := 46) rfl)
theorem dX12_laysBest_106 : decode cX12_laysBest 106 = .ok (.invokestatic 242, 3) := dc_184 (gB_c lq_cX12_laysBest q3_cX12_laysBest 10 (o := 184) rfl) (gB_c lq_cX12_laysBest q3_cX12_laysBest 11 (o := 0) rfl) (gB_c lq_cX12_laysBest q3_cX12_laysBest 12 (o := 242) rfl) rfl
theorem dX12_laysBest_109 : decode cX12_laysBest 109 = .ok (.istore 4, 2) := dc_54 (gB_c lq_cX12_laysBest q3_cX12_laysBest 13 (o := 54) rfl) (gB_c lq_cX12_laysBest q3_cX12_laysBest 14 (o := 4) rfl)
theorem dX12_laysBest_111 : decode cX12_laysBest 111 = .ok (.aload_n 0, 1) := dc_42 (gB_c lq_cX12_laysBest q3_cX12_laysBest 15 (o := 42) rfl)
theorem dX12_laysBest_112 : decode cX12_laysBest 112 = .ok (.getfield 41, 3) := dc_180 (gB_c lq_cX12_laysBest q3_cX12_laysBest 16 (o := 180) rfl) (gB_c lq_cX12_laysBest q3_cX12_laysBest 17 (o := 0) rfl) (gB_c lq_cX12_laysBest q3_cX12_laysBest 18 (o := 41) rfl) rfl
theorem dX12_laysBest_115 : decode cX12_laysBest 115 = .ok (.iload 5, 2) := dc_21 (gB_c lq_cX12_laysBest q3_cX12_laysBest 19 (o := 21) rfl) (gB_c lq_cX12_laysBest q3_cX12_laysBest 20 (o := 5) rfl)
theorem dX12_laysBest_117 : decode cX12_laysBest 117 = .ok (.iload 6, 2) := dc_21 (gB_c lq_cX12_laysBest q3_cX12_laysBest 21 (o := 21) rfl) (gB_c lq_cX12_laysBest q3_cX12_laysBest 22 (o := 6) rfl)
theorem dX12_laysBest_119 : decode cX12_laysBest 119 = .ok (.iastore, 1) := dc_79 (gB_c lq_cX12_laysBest q3_cX12_laysBest 23 (o := 79) rfl)
theorem dX12_laysBest_120 : decode cX12_laysBest 120 = .ok (.iload_n 3, 1) := dc_29 (gB_c lq_cX12_laysBest q3_cX12_laysBest 24 (o := 29) rfl)
theorem dX12_laysBest_121 : decode cX12_laysBest 121 = .ok (.iconst 1, 1) := dc_4 (gB_c lq_cX12_laysBest q3_cX12_laysBest 25 (o := 4) rfl)
theorem dX12_laysBest_122 : decode cX12_laysBest 122 = .ok (.iload 6, 2) := dc_21 (gB_c lq_cX12_laysBest q3_cX12_laysBest 26 (o := 21) rfl) (gB_c lq_cX12_laysBest q3_cX12_laysBest 27 (o := 6) rfl)
theorem dX12_laysBest_124 : decode cX12_laysBest 124 = .ok (.ishl, 1) := dc_120 (gB_c lq_cX12_laysBest q3_cX12_laysBest 28 (o := 120) rfl)
theorem dX12_laysBest_125 : decode cX12_laysBest 125 = .ok (.ior, 1) := dc_128 (gB_c lq_cX12_laysBest q3_cX12_laysBest 29 (o := 128) rfl)
theorem dX12_laysBest_126 : decode cX12_laysBest 126 = .ok (.istore_n 3, 1) := dc_62 (gB_c lq_cX12_laysBest q3_cX12_laysBest 30 (o := 62) rfl)
theorem dX12_laysBest_127 : decode cX12_laysBest 127 = .ok (.iinc 5 1, 3) := dc_132 (gB_c lq_cX12_laysBest q3_cX12_laysBest 31 (o := 132) rfl) (gB_c lq_cX12_laysBest q4_cX12_laysBest 0 (o := 5) rfl) (gB_c lq_cX12_laysBest q4_cX12_laysBest 1 (o := 1) rfl) rfl
theorem dX12_laysBest_130 : decode cX12_laysBest 130 = .ok (.goto (-71), 3) := dc_167 (gB_c lq_cX12_laysBest q4_cX12_laysBest 2 (o := 167) rfl) (gB_c lq_cX12_laysBest q4_cX12_laysBest 3 (o := 255) rfl) (gB_c lq_cX12_laysBest q4_cX12_laysBest 4 (o := 185) rfl) rfl
theorem dX12_laysBest_133 : decode cX12_laysBest 133 = .ok (.return_, 1) := dc_177 (gB_c lq_cX12_laysBest q4_cX12_laysBest 5 (o := 177) rfl)
abbrev r2_cX12_laysCosts : List Nat := [28, 29, 21, 4, 182, 0, 238, 79, 132, 4, 1, 167, 255, 207, 132, 3, 1, 167, 255, 190, 177]
def a1_cX12_laysCosts : List Nat := [63, 162, 0, 45, 42, 180, 0, 35, 16, 9, 29, 104, 21, 4, 96, 29, 21, 4, 184, 0, 166, 153, 0, 9, 19, 1, 13, 167, 0, 12, 42, 27]
abbrev r1_cX12_laysCosts : List Nat := a1_cX12_laysCosts ++ r2_cX12_laysCosts
def a0_cX12_laysCosts : List Nat := [42, 4, 42, 27, 182, 0, 63, 120, 4, 100, 181, 1, 10, 3, 62, 29, 42, 180, 1, 10, 163, 0, 64, 3, 54, 4, 21, 4, 42, 27, 182, 0]
abbrev r0_cX12_laysCosts : List Nat := a0_cX12_laysCosts ++ r1_cX12_laysCosts
theorem lq_cX12_laysCosts : (cX12_laysCosts).data.toList.map UInt8.toNat = r0_cX12_laysCosts := by decide +kernel
theorem q1_cX12_laysCosts : ∀ i, (r0_cX12_laysCosts)[32 + i]? = (r1_cX12_laysCosts)[i]? := chn (A := a0_cX12_laysCosts) (B := r1_cX12_laysCosts) (n := 0) (k := 32) rfl (ch0 (R := r0_cX12_laysCosts))
theorem q2_cX12_laysCosts : ∀ i, (r0_cX12_laysCosts)[64 + i]? = (r2_cX12_laysCosts)[i]? := chn (A := a1_cX12_laysCosts) (B := r2_cX12_laysCosts) (n := 32) (k := 32) rfl q1_cX12_laysCosts
theorem dX12_laysCosts_0 : decode cX12_laysCosts 0 = .ok (.aload_n 0, 1) := dc_42 (gB_l lq_cX12_laysCosts (p := 0) (o := 42) rfl)
theorem dX12_laysCosts_1 : decode cX12_laysCosts 1 = .ok (.iconst 1, 1) := dc_4 (gB_l lq_cX12_laysCosts (p := 1) (o := 4) rfl)
theorem dX12_laysCosts_2 : decode cX12_laysCosts 2 = .ok (.aload_n 0, 1) := dc_42 (gB_l lq_cX12_laysCosts (p := 2) (o := 42) rfl)
theorem dX12_laysCosts_3 : decode cX12_laysCosts 3 = .ok (.iload_n 1, 1) := dc_27 (gB_l lq_cX12_laysCosts (p := 3) (o := 27) rfl)
theorem dX12_laysCosts_4 : decode cX12_laysCosts 4 = .ok (.invokevirtual 63, 3) := dc_182 (gB_l lq_cX12_laysCosts (p := 4) (o := 182) rfl) (gB_l lq_cX12_laysCosts (p := 5) (o := 0) rfl) (gB_l lq_cX12_laysCosts (p := 6) (o := 63) rfl) rfl
theorem dX12_laysCosts_7 : decode cX12_laysCosts 7 = .ok (.ishl, 1) := dc_120 (gB_l lq_cX12_laysCosts (p := 7) (o := 120) rfl)
theorem dX12_laysCosts_8 : decode cX12_laysCosts 8 = .ok (.iconst 1, 1) := dc_4 (gB_l lq_cX12_laysCosts (p := 8) (o := 4) rfl)
theorem dX12_laysCosts_9 : decode cX12_laysCosts 9 = .ok (.isub, 1) := dc_100 (gB_l lq_cX12_laysCosts (p := 9) (o := 100) rfl)
theorem dX12_laysCosts_10 : decode cX12_laysCosts 10 = .ok (.putfield 266, 3) := dc_181 (gB_l lq_cX12_laysCosts (p := 10) (o := 181) rfl) (gB_l lq_cX12_laysCosts (p := 11) (o := 1) rfl) (gB_l lq_cX12_laysCosts (p := 12) (o := 10) rfl) rfl
theorem dX12_laysCosts_13 : decode cX12_laysCosts 13 = .ok (.iconst 0, 1) := dc_3 (gB_l lq_cX12_laysCosts (p := 13) (o := 3) rfl)
theorem dX12_laysCosts_14 : decode cX12_laysCosts 14 = .ok (.istore_n 3, 1) := dc_62 (gB_l lq_cX12_laysCosts (p := 14) (o := 62) rfl)
theorem dX12_laysCosts_15 : decode cX12_laysCosts 15 = .ok (.iload_n 3, 1) := dc_29 (gB_l lq_cX12_laysCosts (p := 15) (o := 29) rfl)
theorem dX12_laysCosts_16 : decode cX12_laysCosts 16 = .ok (.aload_n 0, 1) := dc_42 (gB_l lq_cX12_laysCosts (p := 16) (o := 42) rfl)
theorem dX12_laysCosts_17 : decode cX12_laysCosts 17 = .ok (.getfield 266, 3) := dc_180 (gB_l lq_cX12_laysCosts (p := 17) (o := 180) rfl) (gB_l lq_cX12_laysCosts (p := 18) (o := 1) rfl) (gB_l lq_cX12_laysCosts (p := 19) (o := 10) rfl) rfl
theorem dX12_laysCosts_20 : decode cX12_laysCosts 20 = .ok (.if_icmp .gt 64, 3) := dc_163 (gB_l lq_cX12_laysCosts (p := 20) (o := 163) rfl) (gB_l lq_cX12_laysCosts (p := 21) (o := 0) rfl) (gB_l lq_cX12_laysCosts (p := 22) (o := 64) rfl) rfl
theorem dX12_laysCosts_23 : decode cX12_laysCosts 23 = .ok (.iconst 0, 1) := dc_3 (gB_l lq_cX12_laysCosts (p := 23) (o := 3) rfl)
theorem dX12_laysCosts_24 : decode cX12_laysCosts 24 = .ok (.istore 4, 2) := dc_54 (gB_l lq_cX12_laysCosts (p := 24) (o := 54) rfl) (gB_l lq_cX12_laysCosts (p := 25) (o := 4) rfl)
theorem dX12_laysCosts_26 : decode cX12_laysCosts 26 = .ok (.iload 4, 2) := dc_21 (gB_l lq_cX12_laysCosts (p := 26) (o := 21) rfl) (gB_l lq_cX12_laysCosts (p := 27) (o := 4) rfl)
theorem dX12_laysCosts_28 : decode cX12_laysCosts 28 = .ok (.aload_n 0, 1) := dc_42 (gB_l lq_cX12_laysCosts (p := 28) (o := 42) rfl)
theorem dX12_laysCosts_29 : decode cX12_laysCosts 29 = .ok (.iload_n 1, 1) := dc_27 (gB_l lq_cX12_laysCosts (p := 29) (o := 27) rfl)
theorem dX12_laysCosts_30 : decode cX12_laysCosts 30 = .ok (.invokevirtual 63, 3) := dc_182 (gB_l lq_cX12_laysCosts (p := 30) (o := 182) rfl) (gB_l lq_cX12_laysCosts (p := 31) (o := 0) rfl) (gB_c lq_cX12_laysCosts q1_cX12_laysCosts 0 (o := 63) rfl) rfl
theorem dX12_laysCosts_33 : decode cX12_laysCosts 33 = .ok (.if_icmp .ge 45, 3) := dc_162 (gB_c lq_cX12_laysCosts q1_cX12_laysCosts 1 (o := 162) rfl) (gB_c lq_cX12_laysCosts q1_cX12_laysCosts 2 (o := 0) rfl) (gB_c lq_cX12_laysCosts q1_cX12_laysCosts 3 (o := 45) rfl) rfl
theorem dX12_laysCosts_36 : decode cX12_laysCosts 36 = .ok (.aload_n 0, 1) := dc_42 (gB_c lq_cX12_laysCosts q1_cX12_laysCosts 4 (o := 42) rfl)
theorem dX12_laysCosts_37 : decode cX12_laysCosts 37 = .ok (.getfield 35, 3) := dc_180 (gB_c lq_cX12_laysCosts q1_cX12_laysCosts 5 (o := 180) rfl) (gB_c lq_cX12_laysCosts q1_cX12_laysCosts 6 (o := 0) rfl) (gB_c lq_cX12_laysCosts q1_cX12_laysCosts 7 (o := 35) rfl) rfl
theorem dX12_laysCosts_40 : decode cX12_laysCosts 40 = .ok (.bipush 9, 2) := dc_16 (gB_c lq_cX12_laysCosts q1_cX12_laysCosts 8 (o := 16) rfl) (gB_c lq_cX12_laysCosts q1_cX12_laysCosts 9 (o := 9) rfl) rfl
theorem dX12_laysCosts_42 : decode cX12_laysCosts 42 = .ok (.iload_n 3, 1) := dc_29 (gB_c lq_cX12_laysCosts q1_cX12_laysCosts 10 (o := 29) rfl)
theorem dX12_laysCosts_43 : decode cX12_laysCosts 43 = .ok (.imul, 1) := dc_104 (gB_c lq_cX12_laysCosts q1_cX12_laysCosts 11 (o := 104) rfl)
theorem dX12_laysCosts_44 : decode cX12_laysCosts 44 = .ok (.iload 4, 2) := dc_21 (gB_c lq_cX12_laysCosts q1_cX12_laysCosts 12 (o := 21) rfl) (gB_c lq_cX12_laysCosts q1_cX12_laysCosts 13 (o := 4) rfl)
theorem dX12_laysCosts_46 : decode cX12_laysCosts 46 = .ok (.iadd, 1) := dc_96 (gB_c lq_cX12_laysCosts q1_cX12_laysCosts 14 (o := 96) rfl)
theorem dX12_laysCosts_47 : decode cX12_laysCosts 47 = .ok (.iload_n 3, 1) := dc_29 (gB_c lq_cX12_laysCosts q1_cX12_laysCosts 15 (o := 29) rfl)
theorem dX12_laysCosts_48 : decode cX12_laysCosts 48 = .ok (.iload 4, 2) := dc_21 (gB_c lq_cX12_laysCosts q1_cX12_laysCosts 16 (o := 21) rfl) (gB_c lq_cX12_laysCosts q1_cX12_laysCosts 17 (o := 4) rfl)
theorem dX12_laysCosts_50 : decode cX12_laysCosts 50 = .ok (.invokestatic 166, 3) := dc_184 (gB_c lq_cX12_laysCosts q1_cX12_laysCosts 18 (o := 184) rfl) (gB_c lq_cX12_laysCosts q1_cX12_laysCosts 19 (o := 0) rfl) (gB_c lq_cX12_laysCosts q1_cX12_laysCosts 20 (o := 166) rfl) rfl
theorem dX12_laysCosts_53 : decode cX12_laysCosts 53 = .ok (.ifCond .eq 9, 3) := dc_153 (gB_c lq_cX12_laysCosts q1_cX12_laysCosts 21 (o := 153) rfl) (gB_c lq_cX12_laysCosts q1_cX12_laysCosts 22 (o := 0) rfl) (gB_c lq_cX12_laysCosts q1_cX12_laysCosts 23 (o := 9) rfl) rfl
theorem dX12_laysCosts_56 : decode cX12_laysCosts 56 = .ok (.ldc_w 269, 3) := dc_19 (gB_c lq_cX12_laysCosts q1_cX12_laysCosts 24 (o := 19) rfl) (gB_c lq_cX12_laysCosts q1_cX12_laysCosts 25 (o := 1) rfl) (gB_c lq_cX12_laysCosts q1_cX12_laysCosts 26 (o := 13) rfl) rfl
theorem dX12_laysCosts_59 : decode cX12_laysCosts 59 = .ok (.goto 12, 3) := dc_167 (gB_c lq_cX12_laysCosts q1_cX12_laysCosts 27 (o := 167) rfl) (gB_c lq_cX12_laysCosts q1_cX12_laysCosts 28 (o := 0) rfl) (gB_c lq_cX12_laysCosts q1_cX12_laysCosts 29 (o := 12) rfl) rfl
theorem dX12_laysCosts_62 : decode cX12_laysCosts 62 = .ok (.aload_n 0, 1) := dc_42 (gB_c lq_cX12_laysCosts q1_cX12_laysCosts 30 (o := 42) rfl)
theorem dX12_laysCosts_63 : decode cX12_laysCosts 63 = .ok (.iload_n 1, 1) := dc_27 (gB_c lq_cX12_laysCosts q1_cX12_laysCosts 31 (o := 27) rfl)
theorem dX12_laysCosts_64 : decode cX12_laysCosts 64 = .ok (.iload_n 2, 1) := dc_28 (gB_c lq_cX12_laysCosts q2_cX12_laysCosts 0 (o := 28) rfl)
theorem dX12_laysCosts_65 : decode cX12_laysCosts 65 = .ok (.iload_n 3, 1) := dc_29 (gB_c lq_cX12_laysCosts q2_cX12_laysCosts 1 (o := 29) rfl)
theorem dX12_laysCosts_66 : decode cX12_laysCosts 66 = .ok (.iload 4, 2) := dc_21 (gB_c lq_cX12_laysCosts q2_cX12_laysCosts 2 (o := 21) rfl) (gB_c lq_cX12_laysCosts q2_cX12_laysCosts 3 (o := 4) rfl)
theorem dX12_laysCosts_68 : decode cX12_laysCosts 68 = .ok (.invokevirtual 238, 3) := dc_182 (gB_c lq_cX12_laysCosts q2_cX12_laysCosts 4 (o := 182) rfl) (gB_c lq_cX12_laysCosts q2_cX12_laysCosts 5 (o := 0) rfl) (gB_c lq_cX12_laysCosts q2_cX12_laysCosts 6 (o := 238) rfl) rfl
theorem dX12_laysCosts_71 : decode cX12_laysCosts 71 = .ok (.iastore, 1) := dc_79 (gB_c lq_cX12_laysCosts q2_cX12_laysCosts 7 (o := 79) rfl)
theorem dX12_laysCosts_72 : decode cX12_laysCosts 72 = .ok (.iinc 4 1, 3) := dc_132 (gB_c lq_cX12_laysCosts q2_cX12_laysCosts 8 (o := 132) rfl) (gB_c lq_cX12_laysCosts q2_cX12_laysCosts 9 (o := 4) rfl) (gB_c lq_cX12_laysCosts q2_cX12_laysCosts 10 (o := 1) rfl) rfl
theorem dX12_laysCosts_75 : decode cX12_laysCosts 75 = .ok (.goto (-49), 3) := dc_167 (gB_c lq_cX12_laysCosts q2_cX12_laysCosts 11 (o := 167) rfl) (gB_c lq_cX12_laysCosts q2_cX12_laysCosts 12 (o := 255) rfl) (gB_c lq_cX12_laysCosts q2_cX12_laysCosts 13 (o := 207) rfl) rfl
theorem dX12_laysCosts_78 : decode cX12_laysCosts 78 = .ok (.iinc 3 1, 3) := dc_132 (gB_c lq_cX12_laysCosts q2_cX12_laysCosts 14 (o := 132) rfl) (gB_c lq_cX12_laysCosts q2_cX12_laysCosts 15 (o := 3) rfl) (gB_c lq_cX12_laysCosts q2_cX12_laysCosts 16 (o := 1) rfl) rfl
theorem dX12_laysCosts_81 : decode cX12_laysCosts 81 = .ok (.goto (-66), 3) := dc_167 (gB_c lq_cX12_laysCosts q2_cX12_laysCosts 17 (o := 167) rfl) (gB_c lq_cX12_laysCosts q2_cX12_laysCosts 18 (o := 255) rfl) (gB_c lq_cX12_laysCosts q2_cX12_laysCosts 19 (o := 190) rfl) rfl
theorem dX12_laysCosts_84 : decode cX12_laysCosts 84 = .ok (.return_, 1) := dc_177 (gB_c lq_cX12_laysCosts q2_cX12_laysCosts 20 (o := 177) rfl)
abbrev r0_cX12_laysLeast : List Nat := [42, 27, 28, 182, 1, 14, 42, 27, 28, 182, 1, 18, 177]
theorem lq_cX12_laysLeast : (cX12_laysLeast).data.toList.map UInt8.toNat = r0_cX12_laysLeast := by decide +kernel
theorem dX12_laysLeast_0 : decode cX12_laysLeast 0 = .ok (.aload_n 0, 1) := dc_42 (gB_l lq_cX12_laysLeast (p := 0) (o := 42) rfl)
theorem dX12_laysLeast_1 : decode cX12_laysLeast 1 = .ok (.iload_n 1, 1) := dc_27 (gB_l lq_cX12_laysLeast (p := 1) (o := 27) rfl)
theorem dX12_laysLeast_2 : decode cX12_laysLeast 2 = .ok (.iload_n 2, 1) := dc_28 (gB_l lq_cX12_laysLeast (p := 2) (o := 28) rfl)
theorem dX12_laysLeast_3 : decode cX12_laysLeast 3 = .ok (.invokevirtual 270, 3) := dc_182 (gB_l lq_cX12_laysLeast (p := 3) (o := 182) rfl) (gB_l lq_cX12_laysLeast (p := 4) (o := 1) rfl) (gB_l lq_cX12_laysLeast (p := 5) (o := 14) rfl) rfl
theorem dX12_laysLeast_6 : decode cX12_laysLeast 6 = .ok (.aload_n 0, 1) := dc_42 (gB_l lq_cX12_laysLeast (p := 6) (o := 42) rfl)
theorem dX12_laysLeast_7 : decode cX12_laysLeast 7 = .ok (.iload_n 1, 1) := dc_27 (gB_l lq_cX12_laysLeast (p := 7) (o := 27) rfl)
theorem dX12_laysLeast_8 : decode cX12_laysLeast 8 = .ok (.iload_n 2, 1) := dc_28 (gB_l lq_cX12_laysLeast (p := 8) (o := 28) rfl)
theorem dX12_laysLeast_9 : decode cX12_laysLeast 9 = .ok (.invokevirtual 274, 3) := dc_182 (gB_l lq_cX12_laysLeast (p := 9) (o := 182) rfl) (gB_l lq_cX12_laysLeast (p := 10) (o := 1) rfl) (gB_l lq_cX12_laysLeast (p := 11) (o := 18) rfl) rfl
theorem dX12_laysLeast_12 : decode cX12_laysLeast 12 = .ok (.return_, 1) := dc_177 (gB_l lq_cX12_laysLeast (p := 12) (o := 177) rfl)
abbrev r3_cX12_laysRest : List Nat := [120, 128, 46, 184, 0, 242, 184, 0, 118, 79, 132, 4, 1, 167, 255, 180, 132, 3, 255, 167, 255, 146, 177]
def a2_cX12_laysRest : List Nat := [0, 43, 21, 5, 19, 1, 13, 162, 0, 35, 42, 180, 0, 29, 29, 42, 180, 0, 29, 29, 46, 28, 21, 5, 42, 180, 0, 29, 29, 4, 21, 4]
abbrev r2_cX12_laysRest : List Nat := a2_cX12_laysRest ++ r3_cX12_laysRest
def a1_cX12_laysRest : List Nat := [4, 21, 4, 42, 27, 182, 0, 63, 162, 0, 72, 42, 180, 0, 35, 16, 9, 29, 104, 21, 4, 96, 46, 54, 5, 29, 21, 4, 184, 0, 166, 154]
abbrev r1_cX12_laysRest : List Nat := a1_cX12_laysRest ++ r2_cX12_laysRest
def a0_cX12_laysRest : List Nat := [42, 180, 1, 10, 62, 29, 155, 0, 112, 42, 180, 0, 29, 29, 29, 42, 180, 1, 10, 160, 0, 7, 3, 167, 0, 6, 19, 1, 13, 79, 3, 54]
abbrev r0_cX12_laysRest : List Nat := a0_cX12_laysRest ++ r1_cX12_laysRest
theorem lq_cX12_laysRest : (cX12_laysRest).data.toList.map UInt8.toNat = r0_cX12_laysRest := by decide +kernel
theorem q1_cX12_laysRest : ∀ i, (r0_cX12_laysRest)[32 + i]? = (r1_cX12_laysRest)[i]? := chn (A := a0_cX12_laysRest) (B := r1_cX12_laysRest) (n := 0) (k := 32) rfl (ch0 (R := r0_cX12_laysRest))
theorem q2_cX12_laysRest : ∀ i, (r0_cX12_laysRest)[64 + i]? = (r2_cX12_laysRest)[i]? := chn (A := a1_cX12_laysRest) (B := r2_cX12_laysRest) (n := 32) (k := 32) rfl q1_cX12_laysRest
theorem q3_cX12_laysRest : ∀ i, (r0_cX12_laysRest)[96 + i]? = (r3_cX12_laysRest)[i]? := chn (A := a2_cX12_laysRest) (B := r3_cX12_laysRest) (n := 64) (k := 32) rfl q2_cX12_laysRest
theorem dX12_laysRest_0 : decode cX12_laysRest 0 = .ok (.aload_n 0, 1) := dc_42 (gB_l lq_cX12_laysRest (p := 0) (o := 42) rfl)
theorem dX12_laysRest_1 : decode cX12_laysRest 1 = .ok (.getfield 266, 3) := dc_180 (gB_l lq_cX12_laysRest (p := 1) (o := 180) rfl) (gB_l lq_cX12_laysRest (p := 2) (o := 1) rfl) (gB_l lq_cX12_laysRest (p := 3) (o := 10) rfl) rfl
theorem dX12_laysRest_4 : decode cX12_laysRest 4 = .ok (.istore_n 3, 1) := dc_62 (gB_l lq_cX12_laysRest (p := 4) (o := 62) rfl)
theorem dX12_laysRest_5 : decode cX12_laysRest 5 = .ok (.iload_n 3, 1) := dc_29 (gB_l lq_cX12_laysRest (p := 5) (o := 29) rfl)
theorem dX12_laysRest_6 : decode cX12_laysRest 6 = .ok (.ifCond .lt 112, 3) := dc_155 (gB_l lq_cX12_laysRest (p := 6) (o := 155) rfl) (gB_l lq_cX12_laysRest (p := 7) (o := 0) rfl) (gB_l lq_cX12_laysRest (p := 8) (o := 112) rfl) rfl
theorem dX12_laysRest_9 : decode cX12_laysRest 9 = .ok (.aload_n 0, 1) := dc_42 (gB_l lq_cX12_laysRest (p := 9) (o := 42) rfl)
theorem dX12_laysRest_10 : decode cX12_laysRest 10 = .ok (.getfield 29, 3) := dc_180 (gB_l lq_cX12_laysRest (p := 10) (o := 180) rfl) (gB_l lq_cX12_laysRest (p := 11) (o := 0) rfl) (gB_l lq_cX12_laysRest (p := 12) (o := 29) rfl) rfl
theorem dX12_laysRest_13 : decode cX12_laysRest 13 = .ok (.iload_n 3, 1) := dc_29 (gB_l lq_cX12_laysRest (p := 13) (o := 29) rfl)
theorem dX12_laysRest_14 : decode cX12_laysRest 14 = .ok (.iload_n 3, 1) := dc_29 (gB_l lq_cX12_laysRest (p := 14) (o := 29) rfl)
theorem dX12_laysRest_15 : decode cX12_laysRest 15 = .ok (.aload_n 0, 1) := dc_42 (gB_l lq_cX12_laysRest (p := 15) (o := 42) rfl)
theorem dX12_laysRest_16 : decode cX12_laysRest 16 = .ok (.getfield 266, 3) := dc_180 (gB_l lq_cX12_laysRest (p := 16) (o := 180) rfl) (gB_l lq_cX12_laysRest (p := 17) (o := 1) rfl) (gB_l lq_cX12_laysRest (p := 18) (o := 10) rfl) rfl
theorem dX12_laysRest_19 : decode cX12_laysRest 19 = .ok (.if_icmp .ne 7, 3) := dc_160 (gB_l lq_cX12_laysRest (p := 19) (o := 160) rfl) (gB_l lq_cX12_laysRest (p := 20) (o := 0) rfl) (gB_l lq_cX12_laysRest (p := 21) (o := 7) rfl) rfl
theorem dX12_laysRest_22 : decode cX12_laysRest 22 = .ok (.iconst 0, 1) := dc_3 (gB_l lq_cX12_laysRest (p := 22) (o := 3) rfl)
theorem dX12_laysRest_23 : decode cX12_laysRest 23 = .ok (.goto 6, 3) := dc_167 (gB_l lq_cX12_laysRest (p := 23) (o := 167) rfl) (gB_l lq_cX12_laysRest (p := 24) (o := 0) rfl) (gB_l lq_cX12_laysRest (p := 25) (o := 6) rfl) rfl
theorem dX12_laysRest_26 : decode cX12_laysRest 26 = .ok (.ldc_w 269, 3) := dc_19 (gB_l lq_cX12_laysRest (p := 26) (o := 19) rfl) (gB_l lq_cX12_laysRest (p := 27) (o := 1) rfl) (gB_l lq_cX12_laysRest (p := 28) (o := 13) rfl) rfl
theorem dX12_laysRest_29 : decode cX12_laysRest 29 = .ok (.iastore, 1) := dc_79 (gB_l lq_cX12_laysRest (p := 29) (o := 79) rfl)
theorem dX12_laysRest_30 : decode cX12_laysRest 30 = .ok (.iconst 0, 1) := dc_3 (gB_l lq_cX12_laysRest (p := 30) (o := 3) rfl)
theorem dX12_laysRest_31 : decode cX12_laysRest 31 = .ok (.istore 4, 2) := dc_54 (gB_l lq_cX12_laysRest (p := 31) (o := 54) rfl) (gB_c lq_cX12_laysRest q1_cX12_laysRest 0 (o := 4) rfl)
theorem dX12_laysRest_33 : decode cX12_laysRest 33 = .ok (.iload 4, 2) := dc_21 (gB_c lq_cX12_laysRest q1_cX12_laysRest 1 (o := 21) rfl) (gB_c lq_cX12_laysRest q1_cX12_laysRest 2 (o := 4) rfl)
theorem dX12_laysRest_35 : decode cX12_laysRest 35 = .ok (.aload_n 0, 1) := dc_42 (gB_c lq_cX12_laysRest q1_cX12_laysRest 3 (o := 42) rfl)
theorem dX12_laysRest_36 : decode cX12_laysRest 36 = .ok (.iload_n 1, 1) := dc_27 (gB_c lq_cX12_laysRest q1_cX12_laysRest 4 (o := 27) rfl)
theorem dX12_laysRest_37 : decode cX12_laysRest 37 = .ok (.invokevirtual 63, 3) := dc_182 (gB_c lq_cX12_laysRest q1_cX12_laysRest 5 (o := 182) rfl) (gB_c lq_cX12_laysRest q1_cX12_laysRest 6 (o := 0) rfl) (gB_c lq_cX12_laysRest q1_cX12_laysRest 7 (o := 63) rfl) rfl
theorem dX12_laysRest_40 : decode cX12_laysRest 40 = .ok (.if_icmp .ge 72, 3) := dc_162 (gB_c lq_cX12_laysRest q1_cX12_laysRest 8 (o := 162) rfl) (gB_c lq_cX12_laysRest q1_cX12_laysRest 9 (o := 0) rfl) (gB_c lq_cX12_laysRest q1_cX12_laysRest 10 (o := 72) rfl) rfl
theorem dX12_laysRest_43 : decode cX12_laysRest 43 = .ok (.aload_n 0, 1) := dc_42 (gB_c lq_cX12_laysRest q1_cX12_laysRest 11 (o := 42) rfl)
theorem dX12_laysRest_44 : decode cX12_laysRest 44 = .ok (.getfield 35, 3) := dc_180 (gB_c lq_cX12_laysRest q1_cX12_laysRest 12 (o := 180) rfl) (gB_c lq_cX12_laysRest q1_cX12_laysRest 13 (o := 0) rfl) (gB_c lq_cX12_laysRest q1_cX12_laysRest 14 (o := 35) rfl) rfl
theorem dX12_laysRest_47 : decode cX12_laysRest 47 = .ok (.bipush 9, 2) := dc_16 (gB_c lq_cX12_laysRest q1_cX12_laysRest 15 (o := 16) rfl) (gB_c lq_cX12_laysRest q1_cX12_laysRest 16 (o := 9) rfl) rfl
theorem dX12_laysRest_49 : decode cX12_laysRest 49 = .ok (.iload_n 3, 1) := dc_29 (gB_c lq_cX12_laysRest q1_cX12_laysRest 17 (o := 29) rfl)
theorem dX12_laysRest_50 : decode cX12_laysRest 50 = .ok (.imul, 1) := dc_104 (gB_c lq_cX12_laysRest q1_cX12_laysRest 18 (o := 104) rfl)
theorem dX12_laysRest_51 : decode cX12_laysRest 51 = .ok (.iload 4, 2) := dc_21 (gB_c lq_cX12_laysRest q1_cX12_laysRest 19 (o := 21) rfl) (gB_c lq_cX12_laysRest q1_cX12_laysRest 20 (o := 4) rfl)
theorem dX12_laysRest_53 : decode cX12_laysRest 53 = .ok (.iadd, 1) := dc_96 (gB_c lq_cX12_laysRest q1_cX12_laysRest 21 (o := 96) rfl)
theorem dX12_laysRest_54 : decode cX12_laysRest 54 = .ok (.iaload, 1) := dc_46 (gB_c lq_cX12_laysRest q1_cX12_laysRest 22 (o := 46) rfl)
theorem dX12_laysRest_55 : decode cX12_laysRest 55 = .ok (.istore 5, 2) := dc_54 (gB_c lq_cX12_laysRest q1_cX12_laysRest 23 (o := 54) rfl) (gB_c lq_cX12_laysRest q1_cX12_laysRest 24 (o := 5) rfl)
theorem dX12_laysRest_57 : decode cX12_laysRest 57 = .ok (.iload_n 3, 1) := dc_29 (gB_c lq_cX12_laysRest q1_cX12_laysRest 25 (o := 29) rfl)
theorem dX12_laysRest_58 : decode cX12_laysRest 58 = .ok (.iload 4, 2) := dc_21 (gB_c lq_cX12_laysRest q1_cX12_laysRest 26 (o := 21) rfl) (gB_c lq_cX12_laysRest q1_cX12_laysRest 27 (o := 4) rfl)
theorem dX12_laysRest_60 : decode cX12_laysRest 60 = .ok (.invokestatic 166, 3) := dc_184 (gB_c lq_cX12_laysRest q1_cX12_laysRest 28 (o := 184) rfl) (gB_c lq_cX12_laysRest q1_cX12_laysRest 29 (o := 0) rfl) (gB_c lq_cX12_laysRest q1_cX12_laysRest 30 (o := 166) rfl) rfl
theorem dX12_laysRest_63 : decode cX12_laysRest 63 = .ok (.ifCond .ne 43, 3) := dc_154 (gB_c lq_cX12_laysRest q1_cX12_laysRest 31 (o := 154) rfl) (gB_c lq_cX12_laysRest q2_cX12_laysRest 0 (o := 0) rfl) (gB_c lq_cX12_laysRest q2_cX12_laysRest 1 (o := 43) rfl) rfl
theorem dX12_laysRest_66 : decode cX12_laysRest 66 = .ok (.iload 5, 2) := dc_21 (gB_c lq_cX12_laysRest q2_cX12_laysRest 2 (o := 21) rfl) (gB_c lq_cX12_laysRest q2_cX12_laysRest 3 (o := 5) rfl)
theorem dX12_laysRest_68 : decode cX12_laysRest 68 = .ok (.ldc_w 269, 3) := dc_19 (gB_c lq_cX12_laysRest q2_cX12_laysRest 4 (o := 19) rfl) (gB_c lq_cX12_laysRest q2_cX12_laysRest 5 (o := 1) rfl) (gB_c lq_cX12_laysRest q2_cX12_laysRest 6 (o := 13) rfl) rfl
theorem dX12_laysRest_71 : decode cX12_laysRest 71 = .ok (.if_icmp .ge 35, 3) := dc_162 (gB_c lq_cX12_laysRest q2_cX12_laysRest 7 (o := 162) rfl) (gB_c lq_cX12_laysRest q2_cX12_laysRest 8 (o := 0) rfl) (gB_c lq_cX12_laysRest q2_cX12_laysRest 9 (o := 35) rfl) rfl
theorem dX12_laysRest_74 : decode cX12_laysRest 74 = .ok (.aload_n 0, 1) := dc_42 (gB_c lq_cX12_laysRest q2_cX12_laysRest 10 (o := 42) rfl)
theorem dX12_laysRest_75 : decode cX12_laysRest 75 = .ok (.getfield 29, 3) := dc_180 (gB_c lq_cX12_laysRest q2_cX12_laysRest 11 (o := 180) rfl) (gB_c lq_cX12_laysRest q2_cX12_laysRest 12 (o := 0) rfl) (gB_c lq_cX12_laysRest q2_cX12_laysRest 13 (o := 29) rfl) rfl
theorem dX12_laysRest_78 : decode cX12_laysRest 78 = .ok (.iload_n 3, 1) := dc_29 (gB_c lq_cX12_laysRest q2_cX12_laysRest 14 (o := 29) rfl)
theorem dX12_laysRest_79 : decode cX12_laysRest 79 = .ok (.aload_n 0, 1) := dc_42 (gB_c lq_cX12_laysRest q2_cX12_laysRest 15 (o := 42) rfl)
theorem dX12_laysRest_80 : decode cX12_laysRest 80 = .ok (.getfield 29, 3) := dc_180 (gB_c lq_cX12_laysRest q2_cX12_laysRest 16 (o := 180) rfl) (gB_c lq_cX12_laysRest q2_cX12_laysRest 17 (o := 0) rfl) (gB_c lq_cX12_laysRest q2_cX12_laysRest 18 (o := 29) rfl) rfl
theorem dX12_laysRest_83 : decode cX12_laysRest 83 = .ok (.iload_n 3, 1) := dc_29 (gB_c lq_cX12_laysRest q2_cX12_laysRest 19 (o := 29) rfl)
theorem dX12_laysRest_84 : decode cX12_laysRest 84 = .ok (.iaload, 1) := dc_46 (gB_c lq_cX12_laysRest q2_cX12_laysRest 20 (o := 46) rfl)
theorem dX12_laysRest_85 : decode cX12_laysRest 85 = .ok (.iload_n 2, 1) := dc_28 (gB_c lq_cX12_laysRest q2_cX12_laysRest 21 (o := 28) rfl)
theorem dX12_laysRest_86 : decode cX12_laysRest 86 = .ok (.iload 5, 2) := dc_21 (gB_c lq_cX12_laysRest q2_cX12_laysRest 22 (o := 21) rfl) (gB_c lq_cX12_laysRest q2_cX12_laysRest 23 (o := 5) rfl)
theorem dX12_laysRest_88 : decode cX12_laysRest 88 = .ok (.aload_n 0, 1) := dc_42 (gB_c lq_cX12_laysRest q2_cX12_laysRest 24 (o := 42) rfl)
theorem dX12_laysRest_89 : decode cX12_laysRest 89 = .ok (.getfield 29, 3) := dc_180 (gB_c lq_cX12_laysRest q2_cX12_laysRest 25 (o := 180) rfl) (gB_c lq_cX12_laysRest q2_cX12_laysRest 26 (o := 0) rfl) (gB_c lq_cX12_laysRest q2_cX12_laysRest 27 (o := 29) rfl) rfl
theorem dX12_laysRest_92 : decode cX12_laysRest 92 = .ok (.iload_n 3, 1) := dc_29 (gB_c lq_cX12_laysRest q2_cX12_laysRest 28 (o := 29) rfl)
theorem dX12_laysRest_93 : decode cX12_laysRest 93 = .ok (.iconst 1, 1) := dc_4 (gB_c lq_cX12_laysRest q2_cX12_laysRest 29 (o := 4) rfl)
theorem dX12_laysRest_94 : decode cX12_laysRest 94 = .ok (.iload 4, 2) := dc_21 (gB_c lq_cX12_laysRest q2_cX12_laysRest 30 (o := 21) rfl) (gB_c lq_cX12_laysRest q2_cX12_laysRest 31 (o := 4) rfl)
theorem dX12_laysRest_96 : decode cX12_laysRest 96 = .ok (.ishl, 1) := dc_120 (gB_c lq_cX12_laysRest q3_cX12_laysRest 0 (o := 120) rfl)
theorem dX12_laysRest_97 : decode cX12_laysRest 97 = .ok (.ior, 1) := dc_128 (gB_c lq_cX12_laysRest q3_cX12_laysRest 1 (o := 128) rfl)
theorem dX12_laysRest_98 : decode cX12_laysRest 98 = .ok (.iaload, 1) := dc_46 (gB_c lq_cX12_laysRest q3_cX12_laysRest 2 (o := 46) rfl)
theorem dX12_laysRest_99 : decode cX12_laysRest 99 = .ok (.invokestatic 242, 3) := dc_184 (gB_c lq_cX12_laysRest q3_cX12_laysRest 3 (o := 184) rfl) (gB_c lq_cX12_laysRest q3_cX12_laysRest 4 (o := 0) rfl) (gB_c lq_cX12_laysRest q3_cX12_laysRest 5 (o := 242) rfl) rfl
theorem dX12_laysRest_102 : decode cX12_laysRest 102 = .ok (.invokestatic 118, 3) := dc_184 (gB_c lq_cX12_laysRest q3_cX12_laysRest 6 (o := 184) rfl) (gB_c lq_cX12_laysRest q3_cX12_laysRest 7 (o := 0) rfl) (gB_c lq_cX12_laysRest q3_cX12_laysRest 8 (o := 118) rfl) rfl
theorem dX12_laysRest_105 : decode cX12_laysRest 105 = .ok (.iastore, 1) := dc_79 (gB_c lq_cX12_laysRest q3_cX12_laysRest 9 (o := 79) rfl)
theorem dX12_laysRest_106 : decode cX12_laysRest 106 = .ok (.iinc 4 1, 3) := dc_132 (gB_c lq_cX12_laysRest q3_cX12_laysRest 10 (o := 132) rfl) (gB_c lq_cX12_laysRest q3_cX12_laysRest 11 (o := 4) rfl) (gB_c lq_cX12_laysRest q3_cX12_laysRest 12 (o := 1) rfl) rfl
theorem dX12_laysRest_109 : decode cX12_laysRest 109 = .ok (.goto (-76), 3) := dc_167 (gB_c lq_cX12_laysRest q3_cX12_laysRest 13 (o := 167) rfl) (gB_c lq_cX12_laysRest q3_cX12_laysRest 14 (o := 255) rfl) (gB_c lq_cX12_laysRest q3_cX12_laysRest 15 (o := 180) rfl) rfl
theorem dX12_laysRest_112 : decode cX12_laysRest 112 = .ok (.iinc 3 (-1), 3) := dc_132 (gB_c lq_cX12_laysRest q3_cX12_laysRest 16 (o := 132) rfl) (gB_c lq_cX12_laysRest q3_cX12_laysRest 17 (o := 3) rfl) (gB_c lq_cX12_laysRest q3_cX12_laysRest 18 (o := 255) rfl) rfl
theorem dX12_laysRest_115 : decode cX12_laysRest 115 = .ok (.goto (-110), 3) := dc_167 (gB_c lq_cX12_laysRest q3_cX12_laysRest 19 (o := 167) rfl) (gB_c lq_cX12_laysRest q3_cX12_laysRest 20 (o := 255) rfl) (gB_c lq_cX12_laysRest q3_cX12_laysRest 21 (o := 146) rfl) rfl
theorem dX12_laysRest_118 : decode cX12_laysRest 118 = .ok (.return_, 1) := dc_177 (gB_c lq_cX12_laysRest q3_cX12_laysRest 22 (o := 177) rfl)
abbrev r0_cX12_laysRow : List Nat := [3, 61, 28, 42, 27, 182, 0, 63, 162, 0, 21, 42, 180, 0, 26, 28, 42, 27, 28, 182, 0, 217, 79, 132, 2, 1, 167, 255, 232, 177]
theorem lq_cX12_laysRow : (cX12_laysRow).data.toList.map UInt8.toNat = r0_cX12_laysRow := by decide +kernel
theorem dX12_laysRow_0 : decode cX12_laysRow 0 = .ok (.iconst 0, 1) := dc_3 (gB_l lq_cX12_laysRow (p := 0) (o := 3) rfl)
theorem dX12_laysRow_1 : decode cX12_laysRow 1 = .ok (.istore_n 2, 1) := dc_61 (gB_l lq_cX12_laysRow (p := 1) (o := 61) rfl)
theorem dX12_laysRow_2 : decode cX12_laysRow 2 = .ok (.iload_n 2, 1) := dc_28 (gB_l lq_cX12_laysRow (p := 2) (o := 28) rfl)
theorem dX12_laysRow_3 : decode cX12_laysRow 3 = .ok (.aload_n 0, 1) := dc_42 (gB_l lq_cX12_laysRow (p := 3) (o := 42) rfl)
theorem dX12_laysRow_4 : decode cX12_laysRow 4 = .ok (.iload_n 1, 1) := dc_27 (gB_l lq_cX12_laysRow (p := 4) (o := 27) rfl)
theorem dX12_laysRow_5 : decode cX12_laysRow 5 = .ok (.invokevirtual 63, 3) := dc_182 (gB_l lq_cX12_laysRow (p := 5) (o := 182) rfl) (gB_l lq_cX12_laysRow (p := 6) (o := 0) rfl) (gB_l lq_cX12_laysRow (p := 7) (o := 63) rfl) rfl
theorem dX12_laysRow_8 : decode cX12_laysRow 8 = .ok (.if_icmp .ge 21, 3) := dc_162 (gB_l lq_cX12_laysRow (p := 8) (o := 162) rfl) (gB_l lq_cX12_laysRow (p := 9) (o := 0) rfl) (gB_l lq_cX12_laysRow (p := 10) (o := 21) rfl) rfl
theorem dX12_laysRow_11 : decode cX12_laysRow 11 = .ok (.aload_n 0, 1) := dc_42 (gB_l lq_cX12_laysRow (p := 11) (o := 42) rfl)
theorem dX12_laysRow_12 : decode cX12_laysRow 12 = .ok (.getfield 26, 3) := dc_180 (gB_l lq_cX12_laysRow (p := 12) (o := 180) rfl) (gB_l lq_cX12_laysRow (p := 13) (o := 0) rfl) (gB_l lq_cX12_laysRow (p := 14) (o := 26) rfl) rfl
theorem dX12_laysRow_15 : decode cX12_laysRow 15 = .ok (.iload_n 2, 1) := dc_28 (gB_l lq_cX12_laysRow (p := 15) (o := 28) rfl)
theorem dX12_laysRow_16 : decode cX12_laysRow 16 = .ok (.aload_n 0, 1) := dc_42 (gB_l lq_cX12_laysRow (p := 16) (o := 42) rfl)
theorem dX12_laysRow_17 : decode cX12_laysRow 17 = .ok (.iload_n 1, 1) := dc_27 (gB_l lq_cX12_laysRow (p := 17) (o := 27) rfl)
theorem dX12_laysRow_18 : decode cX12_laysRow 18 = .ok (.iload_n 2, 1) := dc_28 (gB_l lq_cX12_laysRow (p := 18) (o := 28) rfl)
theorem dX12_laysRow_19 : decode cX12_laysRow 19 = .ok (.invokevirtual 217, 3) := dc_182 (gB_l lq_cX12_laysRow (p := 19) (o := 182) rfl) (gB_l lq_cX12_laysRow (p := 20) (o := 0) rfl) (gB_l lq_cX12_laysRow (p := 21) (o := 217) rfl) rfl
theorem dX12_laysRow_22 : decode cX12_laysRow 22 = .ok (.iastore, 1) := dc_79 (gB_l lq_cX12_laysRow (p := 22) (o := 79) rfl)
theorem dX12_laysRow_23 : decode cX12_laysRow 23 = .ok (.iinc 2 1, 3) := dc_132 (gB_l lq_cX12_laysRow (p := 23) (o := 132) rfl) (gB_l lq_cX12_laysRow (p := 24) (o := 2) rfl) (gB_l lq_cX12_laysRow (p := 25) (o := 1) rfl) rfl
theorem dX12_laysRow_26 : decode cX12_laysRow 26 = .ok (.goto (-24), 3) := dc_167 (gB_l lq_cX12_laysRow (p := 26) (o := 167) rfl) (gB_l lq_cX12_laysRow (p := 27) (o := 255) rfl) (gB_l lq_cX12_laysRow (p := 28) (o := 232) rfl) rfl
theorem dX12_laysRow_29 : decode cX12_laysRow 29 = .ok (.return_, 1) := dc_177 (gB_l lq_cX12_laysRow (p := 29) (o := 177) rfl)
abbrev r1_cX12_least : List Nat := [182, 1, 24, 42, 180, 0, 29, 3, 46, 172]
def a0_cX12_least : List Nat := [42, 27, 182, 0, 67, 153, 0, 10, 28, 184, 0, 245, 154, 0, 6, 16, 254, 172, 28, 5, 160, 0, 9, 42, 27, 182, 1, 21, 172, 42, 27, 28]
abbrev r0_cX12_least : List Nat := a0_cX12_least ++ r1_cX12_least
theorem lq_cX12_least : (cX12_least).data.toList.map UInt8.toNat = r0_cX12_least := by decide +kernel
theorem q1_cX12_least : ∀ i, (r0_cX12_least)[32 + i]? = (r1_cX12_least)[i]? := chn (A := a0_cX12_least) (B := r1_cX12_least) (n := 0) (k := 32) rfl (ch0 (R := r0_cX12_least))
theorem dX12_least_0 : decode cX12_least 0 = .ok (.aload_n 0, 1) := dc_42 (gB_l lq_cX12_least (p := 0) (o := 42) rfl)
theorem dX12_least_1 : decode cX12_least 1 = .ok (.iload_n 1, 1) := dc_27 (gB_l lq_cX12_least (p := 1) (o := 27) rfl)
theorem dX12_least_2 : decode cX12_least 2 = .ok (.invokevirtual 67, 3) := dc_182 (gB_l lq_cX12_least (p := 2) (o := 182) rfl) (gB_l lq_cX12_least (p := 3) (o := 0) rfl) (gB_l lq_cX12_least (p := 4) (o := 67) rfl) rfl
theorem dX12_least_5 : decode cX12_least 5 = .ok (.ifCond .eq 10, 3) := dc_153 (gB_l lq_cX12_least (p := 5) (o := 153) rfl) (gB_l lq_cX12_least (p := 6) (o := 0) rfl) (gB_l lq_cX12_least (p := 7) (o := 10) rfl) rfl
theorem dX12_least_8 : decode cX12_least 8 = .ok (.iload_n 2, 1) := dc_28 (gB_l lq_cX12_least (p := 8) (o := 28) rfl)
theorem dX12_least_9 : decode cX12_least 9 = .ok (.invokestatic 245, 3) := dc_184 (gB_l lq_cX12_least (p := 9) (o := 184) rfl) (gB_l lq_cX12_least (p := 10) (o := 0) rfl) (gB_l lq_cX12_least (p := 11) (o := 245) rfl) rfl
theorem dX12_least_12 : decode cX12_least 12 = .ok (.ifCond .ne 6, 3) := dc_154 (gB_l lq_cX12_least (p := 12) (o := 154) rfl) (gB_l lq_cX12_least (p := 13) (o := 0) rfl) (gB_l lq_cX12_least (p := 14) (o := 6) rfl) rfl
theorem dX12_least_15 : decode cX12_least 15 = .ok (.bipush (-2), 2) := dc_16 (gB_l lq_cX12_least (p := 15) (o := 16) rfl) (gB_l lq_cX12_least (p := 16) (o := 254) rfl) rfl
theorem dX12_least_17 : decode cX12_least 17 = .ok (.ireturn, 1) := dc_172 (gB_l lq_cX12_least (p := 17) (o := 172) rfl)
theorem dX12_least_18 : decode cX12_least 18 = .ok (.iload_n 2, 1) := dc_28 (gB_l lq_cX12_least (p := 18) (o := 28) rfl)
theorem dX12_least_19 : decode cX12_least 19 = .ok (.iconst 2, 1) := dc_5 (gB_l lq_cX12_least (p := 19) (o := 5) rfl)
theorem dX12_least_20 : decode cX12_least 20 = .ok (.if_icmp .ne 9, 3) := dc_160 (gB_l lq_cX12_least (p := 20) (o := 160) rfl) (gB_l lq_cX12_least (p := 21) (o := 0) rfl) (gB_l lq_cX12_least (p := 22) (o := 9) rfl) rfl
theorem dX12_least_23 : decode cX12_least 23 = .ok (.aload_n 0, 1) := dc_42 (gB_l lq_cX12_least (p := 23) (o := 42) rfl)
theorem dX12_least_24 : decode cX12_least 24 = .ok (.iload_n 1, 1) := dc_27 (gB_l lq_cX12_least (p := 24) (o := 27) rfl)
theorem dX12_least_25 : decode cX12_least 25 = .ok (.invokevirtual 277, 3) := dc_182 (gB_l lq_cX12_least (p := 25) (o := 182) rfl) (gB_l lq_cX12_least (p := 26) (o := 1) rfl) (gB_l lq_cX12_least (p := 27) (o := 21) rfl) rfl
theorem dX12_least_28 : decode cX12_least 28 = .ok (.ireturn, 1) := dc_172 (gB_l lq_cX12_least (p := 28) (o := 172) rfl)
theorem dX12_least_29 : decode cX12_least 29 = .ok (.aload_n 0, 1) := dc_42 (gB_l lq_cX12_least (p := 29) (o := 42) rfl)
theorem dX12_least_30 : decode cX12_least 30 = .ok (.iload_n 1, 1) := dc_27 (gB_l lq_cX12_least (p := 30) (o := 27) rfl)
theorem dX12_least_31 : decode cX12_least 31 = .ok (.iload_n 2, 1) := dc_28 (gB_l lq_cX12_least (p := 31) (o := 28) rfl)
theorem dX12_least_32 : decode cX12_least 32 = .ok (.invokevirtual 280, 3) := dc_182 (gB_c lq_cX12_least q1_cX12_least 0 (o := 182) rfl) (gB_c lq_cX12_least q1_cX12_least 1 (o := 1) rfl) (gB_c lq_cX12_least q1_cX12_least 2 (o := 24) rfl) rfl
theorem dX12_least_35 : decode cX12_least 35 = .ok (.aload_n 0, 1) := dc_42 (gB_c lq_cX12_least q1_cX12_least 3 (o := 42) rfl)
theorem dX12_least_36 : decode cX12_least 36 = .ok (.getfield 29, 3) := dc_180 (gB_c lq_cX12_least q1_cX12_least 4 (o := 180) rfl) (gB_c lq_cX12_least q1_cX12_least 5 (o := 0) rfl) (gB_c lq_cX12_least q1_cX12_least 6 (o := 29) rfl) rfl
theorem dX12_least_39 : decode cX12_least 39 = .ok (.iconst 0, 1) := dc_3 (gB_c lq_cX12_least q1_cX12_least 7 (o := 3) rfl)
theorem dX12_least_40 : decode cX12_least 40 = .ok (.iaload, 1) := dc_46 (gB_c lq_cX12_least q1_cX12_least 8 (o := 46) rfl)
theorem dX12_least_41 : decode cX12_least 41 = .ok (.ireturn, 1) := dc_172 (gB_c lq_cX12_least q1_cX12_least 9 (o := 172) rfl)
abbrev r0_cX12_leastBand : List Nat := [3, 61, 42, 27, 28, 4, 182, 1, 37, 154, 0, 9, 132, 2, 1, 167, 255, 243, 28, 172]
theorem lq_cX12_leastBand : (cX12_leastBand).data.toList.map UInt8.toNat = r0_cX12_leastBand := by decide +kernel
theorem dX12_leastBand_0 : decode cX12_leastBand 0 = .ok (.iconst 0, 1) := dc_3 (gB_l lq_cX12_leastBand (p := 0) (o := 3) rfl)
theorem dX12_leastBand_1 : decode cX12_leastBand 1 = .ok (.istore_n 2, 1) := dc_61 (gB_l lq_cX12_leastBand (p := 1) (o := 61) rfl)
theorem dX12_leastBand_2 : decode cX12_leastBand 2 = .ok (.aload_n 0, 1) := dc_42 (gB_l lq_cX12_leastBand (p := 2) (o := 42) rfl)
theorem dX12_leastBand_3 : decode cX12_leastBand 3 = .ok (.iload_n 1, 1) := dc_27 (gB_l lq_cX12_leastBand (p := 3) (o := 27) rfl)
theorem dX12_leastBand_4 : decode cX12_leastBand 4 = .ok (.iload_n 2, 1) := dc_28 (gB_l lq_cX12_leastBand (p := 4) (o := 28) rfl)
theorem dX12_leastBand_5 : decode cX12_leastBand 5 = .ok (.iconst 1, 1) := dc_4 (gB_l lq_cX12_leastBand (p := 5) (o := 4) rfl)
theorem dX12_leastBand_6 : decode cX12_leastBand 6 = .ok (.invokevirtual 293, 3) := dc_182 (gB_l lq_cX12_leastBand (p := 6) (o := 182) rfl) (gB_l lq_cX12_leastBand (p := 7) (o := 1) rfl) (gB_l lq_cX12_leastBand (p := 8) (o := 37) rfl) rfl
theorem dX12_leastBand_9 : decode cX12_leastBand 9 = .ok (.ifCond .ne 9, 3) := dc_154 (gB_l lq_cX12_leastBand (p := 9) (o := 154) rfl) (gB_l lq_cX12_leastBand (p := 10) (o := 0) rfl) (gB_l lq_cX12_leastBand (p := 11) (o := 9) rfl) rfl
theorem dX12_leastBand_12 : decode cX12_leastBand 12 = .ok (.iinc 2 1, 3) := dc_132 (gB_l lq_cX12_leastBand (p := 12) (o := 132) rfl) (gB_l lq_cX12_leastBand (p := 13) (o := 2) rfl) (gB_l lq_cX12_leastBand (p := 14) (o := 1) rfl) rfl
theorem dX12_leastBand_15 : decode cX12_leastBand 15 = .ok (.goto (-13), 3) := dc_167 (gB_l lq_cX12_leastBand (p := 15) (o := 167) rfl) (gB_l lq_cX12_leastBand (p := 16) (o := 255) rfl) (gB_l lq_cX12_leastBand (p := 17) (o := 243) rfl) rfl
theorem dX12_leastBand_18 : decode cX12_leastBand 18 = .ok (.iload_n 2, 1) := dc_28 (gB_l lq_cX12_leastBand (p := 18) (o := 28) rfl)
theorem dX12_leastBand_19 : decode cX12_leastBand 19 = .ok (.ireturn, 1) := dc_172 (gB_l lq_cX12_leastBand (p := 19) (o := 172) rfl)
abbrev r0_cX12_line : List Nat := [42, 27, 28, 182, 0, 70, 153, 0, 22, 42, 27, 29, 182, 0, 70, 153, 0, 13, 42, 27, 28, 29, 182, 0, 76, 167, 0, 5, 16, 254, 172]
theorem lq_cX12_line : (cX12_line).data.toList.map UInt8.toNat = r0_cX12_line := by decide +kernel
theorem dX12_line_0 : decode cX12_line 0 = .ok (.aload_n 0, 1) := dc_42 (gB_l lq_cX12_line (p := 0) (o := 42) rfl)
theorem dX12_line_1 : decode cX12_line 1 = .ok (.iload_n 1, 1) := dc_27 (gB_l lq_cX12_line (p := 1) (o := 27) rfl)
theorem dX12_line_2 : decode cX12_line 2 = .ok (.iload_n 2, 1) := dc_28 (gB_l lq_cX12_line (p := 2) (o := 28) rfl)
theorem dX12_line_3 : decode cX12_line 3 = .ok (.invokevirtual 70, 3) := dc_182 (gB_l lq_cX12_line (p := 3) (o := 182) rfl) (gB_l lq_cX12_line (p := 4) (o := 0) rfl) (gB_l lq_cX12_line (p := 5) (o := 70) rfl) rfl
theorem dX12_line_6 : decode cX12_line 6 = .ok (.ifCond .eq 22, 3) := dc_153 (gB_l lq_cX12_line (p := 6) (o := 153) rfl) (gB_l lq_cX12_line (p := 7) (o := 0) rfl) (gB_l lq_cX12_line (p := 8) (o := 22) rfl) rfl
theorem dX12_line_9 : decode cX12_line 9 = .ok (.aload_n 0, 1) := dc_42 (gB_l lq_cX12_line (p := 9) (o := 42) rfl)
theorem dX12_line_10 : decode cX12_line 10 = .ok (.iload_n 1, 1) := dc_27 (gB_l lq_cX12_line (p := 10) (o := 27) rfl)
theorem dX12_line_11 : decode cX12_line 11 = .ok (.iload_n 3, 1) := dc_29 (gB_l lq_cX12_line (p := 11) (o := 29) rfl)
theorem dX12_line_12 : decode cX12_line 12 = .ok (.invokevirtual 70, 3) := dc_182 (gB_l lq_cX12_line (p := 12) (o := 182) rfl) (gB_l lq_cX12_line (p := 13) (o := 0) rfl) (gB_l lq_cX12_line (p := 14) (o := 70) rfl) rfl
theorem dX12_line_15 : decode cX12_line 15 = .ok (.ifCond .eq 13, 3) := dc_153 (gB_l lq_cX12_line (p := 15) (o := 153) rfl) (gB_l lq_cX12_line (p := 16) (o := 0) rfl) (gB_l lq_cX12_line (p := 17) (o := 13) rfl) rfl
theorem dX12_line_18 : decode cX12_line 18 = .ok (.aload_n 0, 1) := dc_42 (gB_l lq_cX12_line (p := 18) (o := 42) rfl)
theorem dX12_line_19 : decode cX12_line 19 = .ok (.iload_n 1, 1) := dc_27 (gB_l lq_cX12_line (p := 19) (o := 27) rfl)
theorem dX12_line_20 : decode cX12_line 20 = .ok (.iload_n 2, 1) := dc_28 (gB_l lq_cX12_line (p := 20) (o := 28) rfl)
theorem dX12_line_21 : decode cX12_line 21 = .ok (.iload_n 3, 1) := dc_29 (gB_l lq_cX12_line (p := 21) (o := 29) rfl)
theorem dX12_line_22 : decode cX12_line 22 = .ok (.invokevirtual 76, 3) := dc_182 (gB_l lq_cX12_line (p := 22) (o := 182) rfl) (gB_l lq_cX12_line (p := 23) (o := 0) rfl) (gB_l lq_cX12_line (p := 24) (o := 76) rfl) rfl
theorem dX12_line_25 : decode cX12_line 25 = .ok (.goto 5, 3) := dc_167 (gB_l lq_cX12_line (p := 25) (o := 167) rfl) (gB_l lq_cX12_line (p := 26) (o := 0) rfl) (gB_l lq_cX12_line (p := 27) (o := 5) rfl) rfl
theorem dX12_line_28 : decode cX12_line 28 = .ok (.bipush (-2), 2) := dc_16 (gB_l lq_cX12_line (p := 28) (o := 16) rfl) (gB_l lq_cX12_line (p := 29) (o := 254) rfl) rfl
theorem dX12_line_30 : decode cX12_line 30 = .ok (.ireturn, 1) := dc_172 (gB_l lq_cX12_line (p := 30) (o := 172) rfl)
abbrev r1_cX12_lines : List Nat := [5, 108, 172]
def a0_cX12_lines : List Nat := [3, 61, 3, 62, 29, 42, 27, 182, 0, 63, 162, 0, 21, 28, 42, 27, 29, 182, 0, 80, 184, 0, 84, 96, 61, 132, 3, 1, 167, 255, 232, 28]
abbrev r0_cX12_lines : List Nat := a0_cX12_lines ++ r1_cX12_lines
theorem lq_cX12_lines : (cX12_lines).data.toList.map UInt8.toNat = r0_cX12_lines := by decide +kernel
theorem q1_cX12_lines : ∀ i, (r0_cX12_lines)[32 + i]? = (r1_cX12_lines)[i]? := chn (A := a0_cX12_lines) (B := r1_cX12_lines) (n := 0) (k := 32) rfl (ch0 (R := r0_cX12_lines))
theorem dX12_lines_0 : decode cX12_lines 0 = .ok (.iconst 0, 1) := dc_3 (gB_l lq_cX12_lines (p := 0) (o := 3) rfl)
theorem dX12_lines_1 : decode cX12_lines 1 = .ok (.istore_n 2, 1) := dc_61 (gB_l lq_cX12_lines (p := 1) (o := 61) rfl)
theorem dX12_lines_2 : decode cX12_lines 2 = .ok (.iconst 0, 1) := dc_3 (gB_l lq_cX12_lines (p := 2) (o := 3) rfl)
theorem dX12_lines_3 : decode cX12_lines 3 = .ok (.istore_n 3, 1) := dc_62 (gB_l lq_cX12_lines (p := 3) (o := 62) rfl)
theorem dX12_lines_4 : decode cX12_lines 4 = .ok (.iload_n 3, 1) := dc_29 (gB_l lq_cX12_lines (p := 4) (o := 29) rfl)
theorem dX12_lines_5 : decode cX12_lines 5 = .ok (.aload_n 0, 1) := dc_42 (gB_l lq_cX12_lines (p := 5) (o := 42) rfl)
theorem dX12_lines_6 : decode cX12_lines 6 = .ok (.iload_n 1, 1) := dc_27 (gB_l lq_cX12_lines (p := 6) (o := 27) rfl)
theorem dX12_lines_7 : decode cX12_lines 7 = .ok (.invokevirtual 63, 3) := dc_182 (gB_l lq_cX12_lines (p := 7) (o := 182) rfl) (gB_l lq_cX12_lines (p := 8) (o := 0) rfl) (gB_l lq_cX12_lines (p := 9) (o := 63) rfl) rfl
theorem dX12_lines_10 : decode cX12_lines 10 = .ok (.if_icmp .ge 21, 3) := dc_162 (gB_l lq_cX12_lines (p := 10) (o := 162) rfl) (gB_l lq_cX12_lines (p := 11) (o := 0) rfl) (gB_l lq_cX12_lines (p := 12) (o := 21) rfl) rfl
theorem dX12_lines_13 : decode cX12_lines 13 = .ok (.iload_n 2, 1) := dc_28 (gB_l lq_cX12_lines (p := 13) (o := 28) rfl)
theorem dX12_lines_14 : decode cX12_lines 14 = .ok (.aload_n 0, 1) := dc_42 (gB_l lq_cX12_lines (p := 14) (o := 42) rfl)
theorem dX12_lines_15 : decode cX12_lines 15 = .ok (.iload_n 1, 1) := dc_27 (gB_l lq_cX12_lines (p := 15) (o := 27) rfl)
theorem dX12_lines_16 : decode cX12_lines 16 = .ok (.iload_n 3, 1) := dc_29 (gB_l lq_cX12_lines (p := 16) (o := 29) rfl)
theorem dX12_lines_17 : decode cX12_lines 17 = .ok (.invokevirtual 80, 3) := dc_182 (gB_l lq_cX12_lines (p := 17) (o := 182) rfl) (gB_l lq_cX12_lines (p := 18) (o := 0) rfl) (gB_l lq_cX12_lines (p := 19) (o := 80) rfl) rfl
theorem dX12_lines_20 : decode cX12_lines 20 = .ok (.invokestatic 84, 3) := dc_184 (gB_l lq_cX12_lines (p := 20) (o := 184) rfl) (gB_l lq_cX12_lines (p := 21) (o := 0) rfl) (gB_l lq_cX12_lines (p := 22) (o := 84) rfl) rfl
theorem dX12_lines_23 : decode cX12_lines 23 = .ok (.iadd, 1) := dc_96 (gB_l lq_cX12_lines (p := 23) (o := 96) rfl)
theorem dX12_lines_24 : decode cX12_lines 24 = .ok (.istore_n 2, 1) := dc_61 (gB_l lq_cX12_lines (p := 24) (o := 61) rfl)
theorem dX12_lines_25 : decode cX12_lines 25 = .ok (.iinc 3 1, 3) := dc_132 (gB_l lq_cX12_lines (p := 25) (o := 132) rfl) (gB_l lq_cX12_lines (p := 26) (o := 3) rfl) (gB_l lq_cX12_lines (p := 27) (o := 1) rfl) rfl
theorem dX12_lines_28 : decode cX12_lines 28 = .ok (.goto (-24), 3) := dc_167 (gB_l lq_cX12_lines (p := 28) (o := 167) rfl) (gB_l lq_cX12_lines (p := 29) (o := 255) rfl) (gB_l lq_cX12_lines (p := 30) (o := 232) rfl) rfl
theorem dX12_lines_31 : decode cX12_lines 31 = .ok (.iload_n 2, 1) := dc_28 (gB_l lq_cX12_lines (p := 31) (o := 28) rfl)
theorem dX12_lines_32 : decode cX12_lines 32 = .ok (.iconst 2, 1) := dc_5 (gB_c lq_cX12_lines q1_cX12_lines 0 (o := 5) rfl)
theorem dX12_lines_33 : decode cX12_lines 33 = .ok (.idiv, 1) := dc_108 (gB_c lq_cX12_lines q1_cX12_lines 1 (o := 108) rfl)
theorem dX12_lines_34 : decode cX12_lines 34 = .ok (.ireturn, 1) := dc_172 (gB_c lq_cX12_lines q1_cX12_lines 2 (o := 172) rfl)
abbrev r3_cX12_longest : List Nat := [1, 167, 255, 193, 132, 4, 1, 167, 255, 171, 28, 172]
def a2_cX12_longest : List Nat := [42, 27, 21, 4, 21, 5, 182, 0, 76, 158, 0, 21, 21, 6, 29, 164, 0, 15, 21, 6, 62, 16, 10, 21, 4, 104, 21, 5, 96, 61, 132, 5]
abbrev r2_cX12_longest : List Nat := a2_cX12_longest ++ r3_cX12_longest
def a1_cX12_longest : List Nat := [54, 5, 21, 5, 42, 27, 182, 0, 63, 162, 0, 59, 42, 27, 21, 4, 182, 0, 220, 42, 27, 21, 5, 182, 0, 220, 100, 184, 1, 7, 54, 6]
abbrev r1_cX12_longest : List Nat := a1_cX12_longest ++ r2_cX12_longest
def a0_cX12_longest : List Nat := [42, 27, 182, 0, 67, 154, 0, 6, 16, 254, 172, 2, 61, 3, 62, 3, 54, 4, 21, 4, 42, 27, 182, 0, 63, 162, 0, 81, 21, 4, 4, 96]
abbrev r0_cX12_longest : List Nat := a0_cX12_longest ++ r1_cX12_longest
theorem lq_cX12_longest : (cX12_longest).data.toList.map UInt8.toNat = r0_cX12_longest := by decide +kernel
theorem q1_cX12_longest : ∀ i, (r0_cX12_longest)[32 + i]? = (r1_cX12_longest)[i]? := chn (A := a0_cX12_longest) (B := r1_cX12_longest) (n := 0) (k := 32) rfl (ch0 (R := r0_cX12_longest))
theorem q2_cX12_longest : ∀ i, (r0_cX12_longest)[64 + i]? = (r2_cX12_longest)[i]? := chn (A := a1_cX12_longest) (B := r2_cX12_longest) (n := 32) (k := 32) rfl q1_cX12_longest
theorem q3_cX12_longest : ∀ i, (r0_cX12_longest)[96 + i]? = (r3_cX12_longest)[i]? := chn (A := a2_cX12_longest) (B := r3_cX12_longest) (n := 64) (k := 32) rfl q2_cX12_longest
theorem dX12_longest_0 : decode cX12_longest 0 = .ok (.aload_n 0, 1) := dc_42 (gB_l lq_cX12_longest (p := 0) (o := 42) rfl)
theorem dX12_longest_1 : decode cX12_longest 1 = .ok (.iload_n 1, 1) := dc_27 (gB_l lq_cX12_longest (p := 1) (o := 27) rfl)
theorem dX12_longest_2 : decode cX12_longest 2 = .ok (.invokevirtual 67, 3) := dc_182 (gB_l lq_cX12_longest (p := 2) (o := 182) rfl) (gB_l lq_cX12_longest (p := 3) (o := 0) rfl) (gB_l lq_cX12_longest (p := 4) (o := 67) rfl) rfl
theorem dX12_longest_5 : decode cX12_longest 5 = .ok (.ifCond .ne 6, 3) := dc_154 (gB_l lq_cX12_longest (p := 5) (o := 154) rfl) (gB_l lq_cX12_longest (p := 6) (o := 0) rfl) (gB_l lq_cX12_longest (p := 7) (o := 6) rfl) rfl
theorem dX12_longest_8 : decode cX12_longest 8 = .ok (.bipush (-2), 2) := dc_16 (gB_l lq_cX12_longest (p := 8) (o := 16) rfl) (gB_l lq_cX12_longest (p := 9) (o := 254) rfl) rfl
theorem dX12_longest_10 : decode cX12_longest 10 = .ok (.ireturn, 1) := dc_172 (gB_l lq_cX12_longest (p := 10) (o := 172) rfl)
theorem dX12_longest_11 : decode cX12_longest 11 = .ok (.iconst (-1), 1) := dc_2 (gB_l lq_cX12_longest (p := 11) (o := 2) rfl)
theorem dX12_longest_12 : decode cX12_longest 12 = .ok (.istore_n 2, 1) := dc_61 (gB_l lq_cX12_longest (p := 12) (o := 61) rfl)
theorem dX12_longest_13 : decode cX12_longest 13 = .ok (.iconst 0, 1) := dc_3 (gB_l lq_cX12_longest (p := 13) (o := 3) rfl)
theorem dX12_longest_14 : decode cX12_longest 14 = .ok (.istore_n 3, 1) := dc_62 (gB_l lq_cX12_longest (p := 14) (o := 62) rfl)
theorem dX12_longest_15 : decode cX12_longest 15 = .ok (.iconst 0, 1) := dc_3 (gB_l lq_cX12_longest (p := 15) (o := 3) rfl)
theorem dX12_longest_16 : decode cX12_longest 16 = .ok (.istore 4, 2) := dc_54 (gB_l lq_cX12_longest (p := 16) (o := 54) rfl) (gB_l lq_cX12_longest (p := 17) (o := 4) rfl)
theorem dX12_longest_18 : decode cX12_longest 18 = .ok (.iload 4, 2) := dc_21 (gB_l lq_cX12_longest (p := 18) (o := 21) rfl) (gB_l lq_cX12_longest (p := 19) (o := 4) rfl)
theorem dX12_longest_20 : decode cX12_longest 20 = .ok (.aload_n 0, 1) := dc_42 (gB_l lq_cX12_longest (p := 20) (o := 42) rfl)
theorem dX12_longest_21 : decode cX12_longest 21 = .ok (.iload_n 1, 1) := dc_27 (gB_l lq_cX12_longest (p := 21) (o := 27) rfl)
theorem dX12_longest_22 : decode cX12_longest 22 = .ok (.invokevirtual 63, 3) := dc_182 (gB_l lq_cX12_longest (p := 22) (o := 182) rfl) (gB_l lq_cX12_longest (p := 23) (o := 0) rfl) (gB_l lq_cX12_longest (p := 24) (o := 63) rfl) rfl
theorem dX12_longest_25 : decode cX12_longest 25 = .ok (.if_icmp .ge 81, 3) := dc_162 (gB_l lq_cX12_longest (p := 25) (o := 162) rfl) (gB_l lq_cX12_longest (p := 26) (o := 0) rfl) (gB_l lq_cX12_longest (p := 27) (o := 81) rfl) rfl
theorem dX12_longest_28 : decode cX12_longest 28 = .ok (.iload 4, 2) := dc_21 (gB_l lq_cX12_longest (p := 28) (o := 21) rfl) (gB_l lq_cX12_longest (p := 29) (o := 4) rfl)
theorem dX12_longest_30 : decode cX12_longest 30 = .ok (.iconst 1, 1) := dc_4 (gB_l lq_cX12_longest (p := 30) (o := 4) rfl)
theorem dX12_longest_31 : decode cX12_longest 31 = .ok (.iadd, 1) := dc_96 (gB_l lq_cX12_longest (p := 31) (o := 96) rfl)
theorem dX12_longest_32 : decode cX12_longest 32 = .ok (.istore 5, 2) := dc_54 (gB_c lq_cX12_longest q1_cX12_longest 0 (o := 54) rfl) (gB_c lq_cX12_longest q1_cX12_longest 1 (o := 5) rfl)
theorem dX12_longest_34 : decode cX12_longest 34 = .ok (.iload 5, 2) := dc_21 (gB_c lq_cX12_longest q1_cX12_longest 2 (o := 21) rfl) (gB_c lq_cX12_longest q1_cX12_longest 3 (o := 5) rfl)
theorem dX12_longest_36 : decode cX12_longest 36 = .ok (.aload_n 0, 1) := dc_42 (gB_c lq_cX12_longest q1_cX12_longest 4 (o := 42) rfl)
theorem dX12_longest_37 : decode cX12_longest 37 = .ok (.iload_n 1, 1) := dc_27 (gB_c lq_cX12_longest q1_cX12_longest 5 (o := 27) rfl)
theorem dX12_longest_38 : decode cX12_longest 38 = .ok (.invokevirtual 63, 3) := dc_182 (gB_c lq_cX12_longest q1_cX12_longest 6 (o := 182) rfl) (gB_c lq_cX12_longest q1_cX12_longest 7 (o := 0) rfl) (gB_c lq_cX12_longest q1_cX12_longest 8 (o := 63) rfl) rfl
theorem dX12_longest_41 : decode cX12_longest 41 = .ok (.if_icmp .ge 59, 3) := dc_162 (gB_c lq_cX12_longest q1_cX12_longest 9 (o := 162) rfl) (gB_c lq_cX12_longest q1_cX12_longest 10 (o := 0) rfl) (gB_c lq_cX12_longest q1_cX12_longest 11 (o := 59) rfl) rfl
theorem dX12_longest_44 : decode cX12_longest 44 = .ok (.aload_n 0, 1) := dc_42 (gB_c lq_cX12_longest q1_cX12_longest 12 (o := 42) rfl)
theorem dX12_longest_45 : decode cX12_longest 45 = .ok (.iload_n 1, 1) := dc_27 (gB_c lq_cX12_longest q1_cX12_longest 13 (o := 27) rfl)
theorem dX12_longest_46 : decode cX12_longest 46 = .ok (.iload 4, 2) := dc_21 (gB_c lq_cX12_longest q1_cX12_longest 14 (o := 21) rfl) (gB_c lq_cX12_longest q1_cX12_longest 15 (o := 4) rfl)
theorem dX12_longest_48 : decode cX12_longest 48 = .ok (.invokevirtual 220, 3) := dc_182 (gB_c lq_cX12_longest q1_cX12_longest 16 (o := 182) rfl) (gB_c lq_cX12_longest q1_cX12_longest 17 (o := 0) rfl) (gB_c lq_cX12_longest q1_cX12_longest 18 (o := 220) rfl) rfl
theorem dX12_longest_51 : decode cX12_longest 51 = .ok (.aload_n 0, 1) := dc_42 (gB_c lq_cX12_longest q1_cX12_longest 19 (o := 42) rfl)
theorem dX12_longest_52 : decode cX12_longest 52 = .ok (.iload_n 1, 1) := dc_27 (gB_c lq_cX12_longest q1_cX12_longest 20 (o := 27) rfl)
theorem dX12_longest_53 : decode cX12_longest 53 = .ok (.iload 5, 2) := dc_21 (gB_c lq_cX12_longest q1_cX12_longest 21 (o := 21) rfl) (gB_c lq_cX12_longest q1_cX12_longest 22 (o := 5) rfl)
theorem dX12_longest_55 : decode cX12_longest 55 = .ok (.invokevirtual 220, 3) := dc_182 (gB_c lq_cX12_longest q1_cX12_longest 23 (o := 182) rfl) (gB_c lq_cX12_longest q1_cX12_longest 24 (o := 0) rfl) (gB_c lq_cX12_longest q1_cX12_longest 25 (o := 220) rfl) rfl
theorem dX12_longest_58 : decode cX12_longest 58 = .ok (.isub, 1) := dc_100 (gB_c lq_cX12_longest q1_cX12_longest 26 (o := 100) rfl)
theorem dX12_longest_59 : decode cX12_longest 59 = .ok (.invokestatic 263, 3) := dc_184 (gB_c lq_cX12_longest q1_cX12_longest 27 (o := 184) rfl) (gB_c lq_cX12_longest q1_cX12_longest 28 (o := 1) rfl) (gB_c lq_cX12_longest q1_cX12_longest 29 (o := 7) rfl) rfl
theorem dX12_longest_62 : decode cX12_longest 62 = .ok (.istore 6, 2) := dc_54 (gB_c lq_cX12_longest q1_cX12_longest 30 (o := 54) rfl) (gB_c lq_cX12_longest q1_cX12_longest 31 (o := 6) rfl)
theorem dX12_longest_64 : decode cX12_longest 64 = .ok (.aload_n 0, 1) := dc_42 (gB_c lq_cX12_longest q2_cX12_longest 0 (o := 42) rfl)
theorem dX12_longest_65 : decode cX12_longest 65 = .ok (.iload_n 1, 1) := dc_27 (gB_c lq_cX12_longest q2_cX12_longest 1 (o := 27) rfl)
theorem dX12_longest_66 : decode cX12_longest 66 = .ok (.iload 4, 2) := dc_21 (gB_c lq_cX12_longest q2_cX12_longest 2 (o := 21) rfl) (gB_c lq_cX12_longest q2_cX12_longest 3 (o := 4) rfl)
theorem dX12_longest_68 : decode cX12_longest 68 = .ok (.iload 5, 2) := dc_21 (gB_c lq_cX12_longest q2_cX12_longest 4 (o := 21) rfl) (gB_c lq_cX12_longest q2_cX12_longest 5 (o := 5) rfl)
theorem dX12_longest_70 : decode cX12_longest 70 = .ok (.invokevirtual 76, 3) := dc_182 (gB_c lq_cX12_longest q2_cX12_longest 6 (o := 182) rfl) (gB_c lq_cX12_longest q2_cX12_longest 7 (o := 0) rfl) (gB_c lq_cX12_longest q2_cX12_longest 8 (o := 76) rfl) rfl
theorem dX12_longest_73 : decode cX12_longest 73 = .ok (.ifCond .le 21, 3) := dc_158 (gB_c lq_cX12_longest q2_cX12_longest 9 (o := 158) rfl) (gB_c lq_cX12_longest q2_cX12_longest 10 (o := 0) rfl) (gB_c lq_cX12_longest q2_cX12_longest 11 (o := 21) rfl) rfl
theorem dX12_longest_76 : decode cX12_longest 76 = .ok (.iload 6, 2) := dc_21 (gB_c lq_cX12_longest q2_cX12_longest 12 (o := 21) rfl) (gB_c lq_cX12_longest q2_cX12_longest 13 (o := 6) rfl)
theorem dX12_longest_78 : decode cX12_longest 78 = .ok (.iload_n 3, 1) := dc_29 (gB_c lq_cX12_longest q2_cX12_longest 14 (o := 29) rfl)
theorem dX12_longest_79 : decode cX12_longest 79 = .ok (.if_icmp .le 15, 3) := dc_164 (gB_c lq_cX12_longest q2_cX12_longest 15 (o := 164) rfl) (gB_c lq_cX12_longest q2_cX12_longest 16 (o := 0) rfl) (gB_c lq_cX12_longest q2_cX12_longest 17 (o := 15) rfl) rfl
theorem dX12_longest_82 : decode cX12_longest 82 = .ok (.iload 6, 2) := dc_21 (gB_c lq_cX12_longest q2_cX12_longest 18 (o := 21) rfl) (gB_c lq_cX12_longest q2_cX12_longest 19 (o := 6) rfl)
theorem dX12_longest_84 : decode cX12_longest 84 = .ok (.istore_n 3, 1) := dc_62 (gB_c lq_cX12_longest q2_cX12_longest 20 (o := 62) rfl)
theorem dX12_longest_85 : decode cX12_longest 85 = .ok (.bipush 10, 2) := dc_16 (gB_c lq_cX12_longest q2_cX12_longest 21 (o := 16) rfl) (gB_c lq_cX12_longest q2_cX12_longest 22 (o := 10) rfl) rfl
theorem dX12_longest_87 : decode cX12_longest 87 = .ok (.iload 4, 2) := dc_21 (gB_c lq_cX12_longest q2_cX12_longest 23 (o := 21) rfl) (gB_c lq_cX12_longest q2_cX12_longest 24 (o := 4) rfl)
theorem dX12_longest_89 : decode cX12_longest 89 = .ok (.imul, 1) := dc_104 (gB_c lq_cX12_longest q2_cX12_longest 25 (o := 104) rfl)
theorem dX12_longest_90 : decode cX12_longest 90 = .ok (.iload 5, 2) := dc_21 (gB_c lq_cX12_longest q2_cX12_longest 26 (o := 21) rfl) (gB_c lq_cX12_longest q2_cX12_longest 27 (o := 5) rfl)
theorem dX12_longest_92 : decode cX12_longest 92 = .ok (.iadd, 1) := dc_96 (gB_c lq_cX12_longest q2_cX12_longest 28 (o := 96) rfl)
theorem dX12_longest_93 : decode cX12_longest 93 = .ok (.istore_n 2, 1) := dc_61 (gB_c lq_cX12_longest q2_cX12_longest 29 (o := 61) rfl)
theorem dX12_longest_94 : decode cX12_longest 94 = .ok (.iinc 5 1, 3) := dc_132 (gB_c lq_cX12_longest q2_cX12_longest 30 (o := 132) rfl) (gB_c lq_cX12_longest q2_cX12_longest 31 (o := 5) rfl) (gB_c lq_cX12_longest q3_cX12_longest 0 (o := 1) rfl) rfl
theorem dX12_longest_97 : decode cX12_longest 97 = .ok (.goto (-63), 3) := dc_167 (gB_c lq_cX12_longest q3_cX12_longest 1 (o := 167) rfl) (gB_c lq_cX12_longest q3_cX12_longest 2 (o := 255) rfl) (gB_c lq_cX12_longest q3_cX12_longest 3 (o := 193) rfl) rfl
theorem dX12_longest_100 : decode cX12_longest 100 = .ok (.iinc 4 1, 3) := dc_132 (gB_c lq_cX12_longest q3_cX12_longest 4 (o := 132) rfl) (gB_c lq_cX12_longest q3_cX12_longest 5 (o := 4) rfl) (gB_c lq_cX12_longest q3_cX12_longest 6 (o := 1) rfl) rfl
theorem dX12_longest_103 : decode cX12_longest 103 = .ok (.goto (-85), 3) := dc_167 (gB_c lq_cX12_longest q3_cX12_longest 7 (o := 167) rfl) (gB_c lq_cX12_longest q3_cX12_longest 8 (o := 255) rfl) (gB_c lq_cX12_longest q3_cX12_longest 9 (o := 171) rfl) rfl
theorem dX12_longest_106 : decode cX12_longest 106 = .ok (.iload_n 2, 1) := dc_28 (gB_c lq_cX12_longest q3_cX12_longest 10 (o := 28) rfl)
theorem dX12_longest_107 : decode cX12_longest 107 = .ok (.ireturn, 1) := dc_172 (gB_c lq_cX12_longest q3_cX12_longest 11 (o := 172) rfl)
abbrev r4_cX12_look : List Nat := [182, 0, 214, 172]
def a3_cX12_look : List Nat := [63, 172, 42, 27, 182, 0, 152, 172, 29, 5, 108, 172, 42, 27, 182, 0, 205, 172, 42, 27, 182, 0, 208, 172, 42, 27, 182, 0, 211, 172, 42, 27]
abbrev r3_cX12_look : List Nat := a3_cX12_look ++ r4_cX12_look
def a2_cX12_look : List Nat := [0, 0, 0, 5, 0, 0, 0, 37, 0, 0, 0, 43, 0, 0, 0, 49, 0, 0, 0, 53, 0, 0, 0, 59, 0, 0, 0, 65, 42, 27, 182, 0]
abbrev r2_cX12_look : List Nat := a2_cX12_look ++ r3_cX12_look
def a1_cX12_look : List Nat := [182, 0, 63, 162, 0, 19, 29, 42, 27, 21, 4, 182, 0, 202, 96, 62, 132, 4, 1, 167, 255, 233, 28, 170, 0, 0, 0, 71, 0, 0, 0, 0]
abbrev r1_cX12_look : List Nat := a1_cX12_look ++ r2_cX12_look
def a0_cX12_look : List Nat := [42, 27, 182, 0, 67, 153, 0, 15, 28, 133, 9, 20, 0, 74, 184, 0, 55, 154, 0, 6, 16, 254, 172, 3, 62, 3, 54, 4, 21, 4, 42, 27]
abbrev r0_cX12_look : List Nat := a0_cX12_look ++ r1_cX12_look
theorem lq_cX12_look : (cX12_look).data.toList.map UInt8.toNat = r0_cX12_look := by decide +kernel
theorem q1_cX12_look : ∀ i, (r0_cX12_look)[32 + i]? = (r1_cX12_look)[i]? := chn (A := a0_cX12_look) (B := r1_cX12_look) (n := 0) (k := 32) rfl (ch0 (R := r0_cX12_look))
theorem q2_cX12_look : ∀ i, (r0_cX12_look)[64 + i]? = (r2_cX12_look)[i]? := chn (A := a1_cX12_look) (B := r2_cX12_look) (n := 32) (k := 32) rfl q1_cX12_look
theorem q3_cX12_look : ∀ i, (r0_cX12_look)[96 + i]? = (r3_cX12_look)[i]? := chn (A := a2_cX12_look) (B := r3_cX12_look) (n := 64) (k := 32) rfl q2_cX12_look
theorem q4_cX12_look : ∀ i, (r0_cX12_look)[128 + i]? = (r4_cX12_look)[i]? := chn (A := a3_cX12_look) (B := r4_cX12_look) (n := 96) (k := 32) rfl q3_cX12_look
theorem dX12_look_0 : decode cX12_look 0 = .ok (.aload_n 0, 1) := dc_42 (gB_l lq_cX12_look (p := 0) (o := 42) rfl)
theorem dX12_look_1 : decode cX12_look 1 = .ok (.iload_n 1, 1) := dc_27 (gB_l lq_cX12_look (p := 1) (o := 27) rfl)
theorem dX12_look_2 : decode cX12_look 2 = .ok (.invokevirtual 67, 3) := dc_182 (gB_l lq_cX12_look (p := 2) (o := 182) rfl) (gB_l lq_cX12_look (p := 3) (o := 0) rfl) (gB_l lq_cX12_look (p := 4) (o := 67) rfl) rfl
theorem dX12_look_5 : decode cX12_look 5 = .ok (.ifCond .eq 15, 3) := dc_153 (gB_l lq_cX12_look (p := 5) (o := 153) rfl) (gB_l lq_cX12_look (p := 6) (o := 0) rfl) (gB_l lq_cX12_look (p := 7) (o := 15) rfl) rfl
theorem dX12_look_8 : decode cX12_look 8 = .ok (.iload_n 2, 1) := dc_28 (gB_l lq_cX12_look (p := 8) (o := 28) rfl)
theorem dX12_look_9 : decode cX12_look 9 = .ok (.i2l, 1) := dc_133 (gB_l lq_cX12_look (p := 9) (o := 133) rfl)
theorem dX12_look_10 : decode cX12_look 10 = .ok (.lconst 0, 1) := dc_9 (gB_l lq_cX12_look (p := 10) (o := 9) rfl)
theorem dX12_look_11 : decode cX12_look 11 = .ok (.ldc2_w 74, 3) := dc_20 (gB_l lq_cX12_look (p := 11) (o := 20) rfl) (gB_l lq_cX12_look (p := 12) (o := 0) rfl) (gB_l lq_cX12_look (p := 13) (o := 74) rfl) rfl
theorem dX12_look_14 : decode cX12_look 14 = .ok (.invokestatic 55, 3) := dc_184 (gB_l lq_cX12_look (p := 14) (o := 184) rfl) (gB_l lq_cX12_look (p := 15) (o := 0) rfl) (gB_l lq_cX12_look (p := 16) (o := 55) rfl) rfl
theorem dX12_look_17 : decode cX12_look 17 = .ok (.ifCond .ne 6, 3) := dc_154 (gB_l lq_cX12_look (p := 17) (o := 154) rfl) (gB_l lq_cX12_look (p := 18) (o := 0) rfl) (gB_l lq_cX12_look (p := 19) (o := 6) rfl) rfl
theorem dX12_look_20 : decode cX12_look 20 = .ok (.bipush (-2), 2) := dc_16 (gB_l lq_cX12_look (p := 20) (o := 16) rfl) (gB_l lq_cX12_look (p := 21) (o := 254) rfl) rfl
theorem dX12_look_22 : decode cX12_look 22 = .ok (.ireturn, 1) := dc_172 (gB_l lq_cX12_look (p := 22) (o := 172) rfl)
theorem dX12_look_23 : decode cX12_look 23 = .ok (.iconst 0, 1) := dc_3 (gB_l lq_cX12_look (p := 23) (o := 3) rfl)
theorem dX12_look_24 : decode cX12_look 24 = .ok (.istore_n 3, 1) := dc_62 (gB_l lq_cX12_look (p := 24) (o := 62) rfl)
theorem dX12_look_25 : decode cX12_look 25 = .ok (.iconst 0, 1) := dc_3 (gB_l lq_cX12_look (p := 25) (o := 3) rfl)
theorem dX12_look_26 : decode cX12_look 26 = .ok (.istore 4, 2) := dc_54 (gB_l lq_cX12_look (p := 26) (o := 54) rfl) (gB_l lq_cX12_look (p := 27) (o := 4) rfl)
theorem dX12_look_28 : decode cX12_look 28 = .ok (.iload 4, 2) := dc_21 (gB_l lq_cX12_look (p := 28) (o := 21) rfl) (gB_l lq_cX12_look (p := 29) (o := 4) rfl)
theorem dX12_look_30 : decode cX12_look 30 = .ok (.aload_n 0, 1) := dc_42 (gB_l lq_cX12_look (p := 30) (o := 42) rfl)
theorem dX12_look_31 : decode cX12_look 31 = .ok (.iload_n 1, 1) := dc_27 (gB_l lq_cX12_look (p := 31) (o := 27) rfl)
theorem dX12_look_32 : decode cX12_look 32 = .ok (.invokevirtual 63, 3) := dc_182 (gB_c lq_cX12_look q1_cX12_look 0 (o := 182) rfl) (gB_c lq_cX12_look q1_cX12_look 1 (o := 0) rfl) (gB_c lq_cX12_look q1_cX12_look 2 (o := 63) rfl) rfl
theorem dX12_look_35 : decode cX12_look 35 = .ok (.if_icmp .ge 19, 3) := dc_162 (gB_c lq_cX12_look q1_cX12_look 3 (o := 162) rfl) (gB_c lq_cX12_look q1_cX12_look 4 (o := 0) rfl) (gB_c lq_cX12_look q1_cX12_look 5 (o := 19) rfl) rfl
theorem dX12_look_38 : decode cX12_look 38 = .ok (.iload_n 3, 1) := dc_29 (gB_c lq_cX12_look q1_cX12_look 6 (o := 29) rfl)
theorem dX12_look_39 : decode cX12_look 39 = .ok (.aload_n 0, 1) := dc_42 (gB_c lq_cX12_look q1_cX12_look 7 (o := 42) rfl)
theorem dX12_look_40 : decode cX12_look 40 = .ok (.iload_n 1, 1) := dc_27 (gB_c lq_cX12_look q1_cX12_look 8 (o := 27) rfl)
theorem dX12_look_41 : decode cX12_look 41 = .ok (.iload 4, 2) := dc_21 (gB_c lq_cX12_look q1_cX12_look 9 (o := 21) rfl) (gB_c lq_cX12_look q1_cX12_look 10 (o := 4) rfl)
theorem dX12_look_43 : decode cX12_look 43 = .ok (.invokevirtual 202, 3) := dc_182 (gB_c lq_cX12_look q1_cX12_look 11 (o := 182) rfl) (gB_c lq_cX12_look q1_cX12_look 12 (o := 0) rfl) (gB_c lq_cX12_look q1_cX12_look 13 (o := 202) rfl) rfl
theorem dX12_look_46 : decode cX12_look 46 = .ok (.iadd, 1) := dc_96 (gB_c lq_cX12_look q1_cX12_look 14 (o := 96) rfl)
theorem dX12_look_47 : decode cX12_look 47 = .ok (.istore_n 3, 1) := dc_62 (gB_c lq_cX12_look q1_cX12_look 15 (o := 62) rfl)
theorem dX12_look_48 : decode cX12_look 48 = .ok (.iinc 4 1, 3) := dc_132 (gB_c lq_cX12_look q1_cX12_look 16 (o := 132) rfl) (gB_c lq_cX12_look q1_cX12_look 17 (o := 4) rfl) (gB_c lq_cX12_look q1_cX12_look 18 (o := 1) rfl) rfl
theorem dX12_look_51 : decode cX12_look 51 = .ok (.goto (-23), 3) := dc_167 (gB_c lq_cX12_look q1_cX12_look 19 (o := 167) rfl) (gB_c lq_cX12_look q1_cX12_look 20 (o := 255) rfl) (gB_c lq_cX12_look q1_cX12_look 21 (o := 233) rfl) rfl
theorem dX12_look_54 : decode cX12_look 54 = .ok (.iload_n 2, 1) := dc_28 (gB_c lq_cX12_look q1_cX12_look 22 (o := 28) rfl)
theorem dX12_look_55 : decode cX12_look 55 = .ok (.tableswitch 71 0 5 #[37, 43, 49, 53, 59, 65], 37) := by decide +kernel
theorem dX12_look_92 : decode cX12_look 92 = .ok (.aload_n 0, 1) := dc_42 (gB_c lq_cX12_look q2_cX12_look 28 (o := 42) rfl)
theorem dX12_look_93 : decode cX12_look 93 = .ok (.iload_n 1, 1) := dc_27 (gB_c lq_cX12_look q2_cX12_look 29 (o := 27) rfl)
theorem dX12_look_94 : decode cX12_look 94 = .ok (.invokevirtual 63, 3) := dc_182 (gB_c lq_cX12_look q2_cX12_look 30 (o := 182) rfl) (gB_c lq_cX12_look q2_cX12_look 31 (o := 0) rfl) (gB_c lq_cX12_look q3_cX12_look 0 (o := 63) rfl) rfl
theorem dX12_look_97 : decode cX12_look 97 = .ok (.ireturn, 1) := dc_172 (gB_c lq_cX12_look q3_cX12_look 1 (o := 172) rfl)
theorem dX12_look_98 : decode cX12_look 98 = .ok (.aload_n 0, 1) := dc_42 (gB_c lq_cX12_look q3_cX12_look 2 (o := 42) rfl)
theorem dX12_look_99 : decode cX12_look 99 = .ok (.iload_n 1, 1) := dc_27 (gB_c lq_cX12_look q3_cX12_look 3 (o := 27) rfl)
theorem dX12_look_100 : decode cX12_look 100 = .ok (.invokevirtual 152, 3) := dc_182 (gB_c lq_cX12_look q3_cX12_look 4 (o := 182) rfl) (gB_c lq_cX12_look q3_cX12_look 5 (o := 0) rfl) (gB_c lq_cX12_look q3_cX12_look 6 (o := 152) rfl) rfl
theorem dX12_look_103 : decode cX12_look 103 = .ok (.ireturn, 1) := dc_172 (gB_c lq_cX12_look q3_cX12_look 7 (o := 172) rfl)
theorem dX12_look_104 : decode cX12_look 104 = .ok (.iload_n 3, 1) := dc_29 (gB_c lq_cX12_look q3_cX12_look 8 (o := 29) rfl)
theorem dX12_look_105 : decode cX12_look 105 = .ok (.iconst 2, 1) := dc_5 (gB_c lq_cX12_look q3_cX12_look 9 (o := 5) rfl)
theorem dX12_look_106 : decode cX12_look 106 = .ok (.idiv, 1) := dc_108 (gB_c lq_cX12_look q3_cX12_look 10 (o := 108) rfl)
theorem dX12_look_107 : decode cX12_look 107 = .ok (.ireturn, 1) := dc_172 (gB_c lq_cX12_look q3_cX12_look 11 (o := 172) rfl)
theorem dX12_look_108 : decode cX12_look 108 = .ok (.aload_n 0, 1) := dc_42 (gB_c lq_cX12_look q3_cX12_look 12 (o := 42) rfl)
theorem dX12_look_109 : decode cX12_look 109 = .ok (.iload_n 1, 1) := dc_27 (gB_c lq_cX12_look q3_cX12_look 13 (o := 27) rfl)
theorem dX12_look_110 : decode cX12_look 110 = .ok (.invokevirtual 205, 3) := dc_182 (gB_c lq_cX12_look q3_cX12_look 14 (o := 182) rfl) (gB_c lq_cX12_look q3_cX12_look 15 (o := 0) rfl) (gB_c lq_cX12_look q3_cX12_look 16 (o := 205) rfl) rfl
theorem dX12_look_113 : decode cX12_look 113 = .ok (.ireturn, 1) := dc_172 (gB_c lq_cX12_look q3_cX12_look 17 (o := 172) rfl)
theorem dX12_look_114 : decode cX12_look 114 = .ok (.aload_n 0, 1) := dc_42 (gB_c lq_cX12_look q3_cX12_look 18 (o := 42) rfl)
theorem dX12_look_115 : decode cX12_look 115 = .ok (.iload_n 1, 1) := dc_27 (gB_c lq_cX12_look q3_cX12_look 19 (o := 27) rfl)
theorem dX12_look_116 : decode cX12_look 116 = .ok (.invokevirtual 208, 3) := dc_182 (gB_c lq_cX12_look q3_cX12_look 20 (o := 182) rfl) (gB_c lq_cX12_look q3_cX12_look 21 (o := 0) rfl) (gB_c lq_cX12_look q3_cX12_look 22 (o := 208) rfl) rfl
theorem dX12_look_119 : decode cX12_look 119 = .ok (.ireturn, 1) := dc_172 (gB_c lq_cX12_look q3_cX12_look 23 (o := 172) rfl)
theorem dX12_look_120 : decode cX12_look 120 = .ok (.aload_n 0, 1) := dc_42 (gB_c lq_cX12_look q3_cX12_look 24 (o := 42) rfl)
theorem dX12_look_121 : decode cX12_look 121 = .ok (.iload_n 1, 1) := dc_27 (gB_c lq_cX12_look q3_cX12_look 25 (o := 27) rfl)
theorem dX12_look_122 : decode cX12_look 122 = .ok (.invokevirtual 211, 3) := dc_182 (gB_c lq_cX12_look q3_cX12_look 26 (o := 182) rfl) (gB_c lq_cX12_look q3_cX12_look 27 (o := 0) rfl) (gB_c lq_cX12_look q3_cX12_look 28 (o := 211) rfl) rfl
theorem dX12_look_125 : decode cX12_look 125 = .ok (.ireturn, 1) := dc_172 (gB_c lq_cX12_look q3_cX12_look 29 (o := 172) rfl)
theorem dX12_look_126 : decode cX12_look 126 = .ok (.aload_n 0, 1) := dc_42 (gB_c lq_cX12_look q3_cX12_look 30 (o := 42) rfl)
theorem dX12_look_127 : decode cX12_look 127 = .ok (.iload_n 1, 1) := dc_27 (gB_c lq_cX12_look q3_cX12_look 31 (o := 27) rfl)
theorem dX12_look_128 : decode cX12_look 128 = .ok (.invokevirtual 214, 3) := dc_182 (gB_c lq_cX12_look q4_cX12_look 0 (o := 182) rfl) (gB_c lq_cX12_look q4_cX12_look 1 (o := 0) rfl) (gB_c lq_cX12_look q4_cX12_look 2 (o := 214) rfl) rfl
theorem dX12_look_131 : decode cX12_look 131 = .ok (.ireturn, 1) := dc_172 (gB_c lq_cX12_look q4_cX12_look 3 (o := 172) rfl)
abbrev r11_cX12_merges : List Nat := [26, 21, 8, 46, 182, 0, 169, 132, 8, 1, 167, 255, 230, 42, 21, 6, 4, 100, 182, 0, 90, 172]
def a10_cX12_merges : List Nat := [180, 0, 47, 21, 8, 46, 79, 132, 8, 1, 167, 255, 225, 3, 54, 8, 21, 8, 21, 6, 4, 100, 162, 0, 23, 42, 27, 21, 8, 42, 180, 0]
abbrev r10_cX12_merges : List Nat := a10_cX12_merges ++ r11_cX12_merges
def a9_cX12_merges : List Nat := [91, 27, 104, 21, 6, 4, 100, 79, 3, 54, 8, 21, 8, 16, 81, 162, 0, 30, 42, 180, 0, 7, 16, 91, 27, 104, 4, 96, 21, 8, 96, 42]
abbrev r9_cX12_merges : List Nat := a9_cX12_merges ++ r10_cX12_merges
def a8_cX12_merges : List Nat := [164, 0, 10, 21, 9, 4, 100, 167, 0, 5, 21, 9, 79, 132, 7, 1, 132, 8, 1, 167, 255, 204, 42, 27, 182, 0, 96, 42, 180, 0, 7, 16]
abbrev r8_cX12_merges : List Nat := a8_cX12_merges ++ r9_cX12_merges
def a7_cX12_merges : List Nat := [8, 21, 6, 162, 0, 51, 42, 27, 21, 8, 182, 0, 217, 54, 9, 21, 9, 21, 5, 159, 0, 29, 42, 180, 0, 26, 21, 7, 21, 9, 21, 5]
abbrev r7_cX12_merges : List Nat := a7_cX12_merges ++ r8_cX12_merges
def a6_cX12_merges : List Nat := [27, 21, 7, 21, 8, 182, 0, 76, 96, 184, 0, 118, 79, 132, 8, 1, 167, 255, 136, 132, 7, 1, 167, 255, 120, 3, 54, 7, 3, 54, 8, 21]
abbrev r6_cX12_merges : List Nat := a6_cX12_merges ++ r7_cX12_merges
def a5_cX12_merges : List Nat := [21, 10, 96, 54, 11, 42, 180, 0, 47, 21, 11, 21, 9, 21, 10, 160, 0, 7, 3, 167, 0, 25, 16, 9, 42, 180, 0, 47, 21, 11, 46, 42]
abbrev r5_cX12_merges : List Nat := a5_cX12_merges ++ r6_cX12_merges
def a4_cX12_merges : List Nat := [5, 160, 0, 8, 21, 4, 167, 0, 19, 21, 8, 21, 5, 164, 0, 10, 21, 8, 4, 100, 167, 0, 5, 21, 8, 54, 10, 16, 9, 21, 9, 104]
abbrev r4_cX12_merges : List Nat := a4_cX12_merges ++ r5_cX12_merges
def a3_cX12_merges : List Nat := [7, 21, 5, 160, 0, 8, 21, 4, 167, 0, 19, 21, 7, 21, 5, 164, 0, 10, 21, 7, 4, 100, 167, 0, 5, 21, 7, 54, 9, 21, 8, 21]
abbrev r3_cX12_merges : List Nat := a3_cX12_merges ++ r4_cX12_merges
def a2_cX12_merges : List Nat := [47, 21, 7, 3, 79, 132, 7, 1, 167, 255, 238, 3, 54, 7, 21, 7, 21, 6, 162, 0, 135, 3, 54, 8, 21, 8, 21, 6, 162, 0, 119, 21]
abbrev r2_cX12_merges : List Nat := a2_cX12_merges ++ r3_cX12_merges
def a1_cX12_merges : List Nat := [4, 28, 29, 184, 0, 199, 54, 5, 42, 27, 182, 0, 63, 54, 6, 42, 182, 0, 93, 3, 54, 7, 21, 7, 16, 81, 162, 0, 17, 42, 180, 0]
abbrev r1_cX12_merges : List Nat := a1_cX12_merges ++ r2_cX12_merges
def a0_cX12_merges : List Nat := [42, 27, 28, 29, 182, 1, 70, 154, 0, 6, 16, 254, 172, 42, 27, 28, 29, 182, 0, 76, 154, 0, 6, 16, 250, 172, 28, 29, 184, 0, 118, 54]
abbrev r0_cX12_merges : List Nat := a0_cX12_merges ++ r1_cX12_merges
theorem lq_cX12_merges : (cX12_merges).data.toList.map UInt8.toNat = r0_cX12_merges := by decide +kernel
theorem q1_cX12_merges : ∀ i, (r0_cX12_merges)[32 + i]? = (r1_cX12_merges)[i]? := chn (A := a0_cX12_merges) (B := r1_cX12_merges) (n := 0) (k := 32) rfl (ch0 (R := r0_cX12_merges))
theorem q2_cX12_merges : ∀ i, (r0_cX12_merges)[64 + i]? = (r2_cX12_merges)[i]? := chn (A := a1_cX12_merges) (B := r2_cX12_merges) (n := 32) (k := 32) rfl q1_cX12_merges
theorem q3_cX12_merges : ∀ i, (r0_cX12_merges)[96 + i]? = (r3_cX12_merges)[i]? := chn (A := a2_cX12_merges) (B := r3_cX12_merges) (n := 64) (k := 32) rfl q2_cX12_merges
theorem q4_cX12_merges : ∀ i, (r0_cX12_merges)[128 + i]? = (r4_cX12_merges)[i]? := chn (A := a3_cX12_merges) (B := r4_cX12_merges) (n := 96) (k := 32) rfl q3_cX12_merges
theorem q5_cX12_merges : ∀ i, (r0_cX12_merges)[160 + i]? = (r5_cX12_merges)[i]? := chn (A := a4_cX12_merges) (B := r5_cX12_merges) (n := 128) (k := 32) rfl q4_cX12_merges
theorem q6_cX12_merges : ∀ i, (r0_cX12_merges)[192 + i]? = (r6_cX12_merges)[i]? := chn (A := a5_cX12_merges) (B := r6_cX12_merges) (n := 160) (k := 32) rfl q5_cX12_merges
theorem q7_cX12_merges : ∀ i, (r0_cX12_merges)[224 + i]? = (r7_cX12_merges)[i]? := chn (A := a6_cX12_merges) (B := r7_cX12_merges) (n := 192) (k := 32) rfl q6_cX12_merges
theorem q8_cX12_merges : ∀ i, (r0_cX12_merges)[256 + i]? = (r8_cX12_merges)[i]? := chn (A := a7_cX12_merges) (B := r8_cX12_merges) (n := 224) (k := 32) rfl q7_cX12_merges
theorem q9_cX12_merges : ∀ i, (r0_cX12_merges)[288 + i]? = (r9_cX12_merges)[i]? := chn (A := a8_cX12_merges) (B := r9_cX12_merges) (n := 256) (k := 32) rfl q8_cX12_merges
theorem q10_cX12_merges : ∀ i, (r0_cX12_merges)[320 + i]? = (r10_cX12_merges)[i]? := chn (A := a9_cX12_merges) (B := r10_cX12_merges) (n := 288) (k := 32) rfl q9_cX12_merges
theorem q11_cX12_merges : ∀ i, (r0_cX12_merges)[352 + i]? = (r11_cX12_merges)[i]? := chn (A := a10_cX12_merges) (B := r11_cX12_merges) (n := 320) (k := 32) rfl q10_cX12_merges
theorem dX12_merges_0 : decode cX12_merges 0 = .ok (.aload_n 0, 1) := dc_42 (gB_l lq_cX12_merges (p := 0) (o := 42) rfl)
theorem dX12_merges_1 : decode cX12_merges 1 = .ok (.iload_n 1, 1) := dc_27 (gB_l lq_cX12_merges (p := 1) (o := 27) rfl)
theorem dX12_merges_2 : decode cX12_merges 2 = .ok (.iload_n 2, 1) := dc_28 (gB_l lq_cX12_merges (p := 2) (o := 28) rfl)
theorem dX12_merges_3 : decode cX12_merges 3 = .ok (.iload_n 3, 1) := dc_29 (gB_l lq_cX12_merges (p := 3) (o := 29) rfl)
theorem dX12_merges_4 : decode cX12_merges 4 = .ok (.invokevirtual 326, 3) := dc_182 (gB_l lq_cX12_merges (p := 4) (o := 182) rfl) (gB_l lq_cX12_merges (p := 5) (o := 1) rfl) (gB_l lq_cX12_merges (p := 6) (o := 70) rfl) rfl
theorem dX12_merges_7 : decode cX12_merges 7 = .ok (.ifCond .ne 6, 3) := dc_154 (gB_l lq_cX12_merges (p := 7) (o := 154) rfl) (gB_l lq_cX12_merges (p := 8) (o := 0) rfl) (gB_l lq_cX12_merges (p := 9) (o := 6) rfl) rfl
theorem dX12_merges_10 : decode cX12_merges 10 = .ok (.bipush (-2), 2) := dc_16 (gB_l lq_cX12_merges (p := 10) (o := 16) rfl) (gB_l lq_cX12_merges (p := 11) (o := 254) rfl) rfl
theorem dX12_merges_12 : decode cX12_merges 12 = .ok (.ireturn, 1) := dc_172 (gB_l lq_cX12_merges (p := 12) (o := 172) rfl)
theorem dX12_merges_13 : decode cX12_merges 13 = .ok (.aload_n 0, 1) := dc_42 (gB_l lq_cX12_merges (p := 13) (o := 42) rfl)
theorem dX12_merges_14 : decode cX12_merges 14 = .ok (.iload_n 1, 1) := dc_27 (gB_l lq_cX12_merges (p := 14) (o := 27) rfl)
theorem dX12_merges_15 : decode cX12_merges 15 = .ok (.iload_n 2, 1) := dc_28 (gB_l lq_cX12_merges (p := 15) (o := 28) rfl)
theorem dX12_merges_16 : decode cX12_merges 16 = .ok (.iload_n 3, 1) := dc_29 (gB_l lq_cX12_merges (p := 16) (o := 29) rfl)
theorem dX12_merges_17 : decode cX12_merges 17 = .ok (.invokevirtual 76, 3) := dc_182 (gB_l lq_cX12_merges (p := 17) (o := 182) rfl) (gB_l lq_cX12_merges (p := 18) (o := 0) rfl) (gB_l lq_cX12_merges (p := 19) (o := 76) rfl) rfl
theorem dX12_merges_20 : decode cX12_merges 20 = .ok (.ifCond .ne 6, 3) := dc_154 (gB_l lq_cX12_merges (p := 20) (o := 154) rfl) (gB_l lq_cX12_merges (p := 21) (o := 0) rfl) (gB_l lq_cX12_merges (p := 22) (o := 6) rfl) rfl
theorem dX12_merges_23 : decode cX12_merges 23 = .ok (.bipush (-6), 2) := dc_16 (gB_l lq_cX12_merges (p := 23) (o := 16) rfl) (gB_l lq_cX12_merges (p := 24) (o := 250) rfl) rfl
theorem dX12_merges_25 : decode cX12_merges 25 = .ok (.ireturn, 1) := dc_172 (gB_l lq_cX12_merges (p := 25) (o := 172) rfl)
theorem dX12_merges_26 : decode cX12_merges 26 = .ok (.iload_n 2, 1) := dc_28 (gB_l lq_cX12_merges (p := 26) (o := 28) rfl)
theorem dX12_merges_27 : decode cX12_merges 27 = .ok (.iload_n 3, 1) := dc_29 (gB_l lq_cX12_merges (p := 27) (o := 29) rfl)
theorem dX12_merges_28 : decode cX12_merges 28 = .ok (.invokestatic 118, 3) := dc_184 (gB_l lq_cX12_merges (p := 28) (o := 184) rfl) (gB_l lq_cX12_merges (p := 29) (o := 0) rfl) (gB_l lq_cX12_merges (p := 30) (o := 118) rfl) rfl
theorem dX12_merges_31 : decode cX12_merges 31 = .ok (.istore 4, 2) := dc_54 (gB_l lq_cX12_merges (p := 31) (o := 54) rfl) (gB_c lq_cX12_merges q1_cX12_merges 0 (o := 4) rfl)
theorem dX12_merges_33 : decode cX12_merges 33 = .ok (.iload_n 2, 1) := dc_28 (gB_c lq_cX12_merges q1_cX12_merges 1 (o := 28) rfl)
theorem dX12_merges_34 : decode cX12_merges 34 = .ok (.iload_n 3, 1) := dc_29 (gB_c lq_cX12_merges q1_cX12_merges 2 (o := 29) rfl)
theorem dX12_merges_35 : decode cX12_merges 35 = .ok (.invokestatic 199, 3) := dc_184 (gB_c lq_cX12_merges q1_cX12_merges 3 (o := 184) rfl) (gB_c lq_cX12_merges q1_cX12_merges 4 (o := 0) rfl) (gB_c lq_cX12_merges q1_cX12_merges 5 (o := 199) rfl) rfl
theorem dX12_merges_38 : decode cX12_merges 38 = .ok (.istore 5, 2) := dc_54 (gB_c lq_cX12_merges q1_cX12_merges 6 (o := 54) rfl) (gB_c lq_cX12_merges q1_cX12_merges 7 (o := 5) rfl)
theorem dX12_merges_40 : decode cX12_merges 40 = .ok (.aload_n 0, 1) := dc_42 (gB_c lq_cX12_merges q1_cX12_merges 8 (o := 42) rfl)
theorem dX12_merges_41 : decode cX12_merges 41 = .ok (.iload_n 1, 1) := dc_27 (gB_c lq_cX12_merges q1_cX12_merges 9 (o := 27) rfl)
theorem dX12_merges_42 : decode cX12_merges 42 = .ok (.invokevirtual 63, 3) := dc_182 (gB_c lq_cX12_merges q1_cX12_merges 10 (o := 182) rfl) (gB_c lq_cX12_merges q1_cX12_merges 11 (o := 0) rfl) (gB_c lq_cX12_merges q1_cX12_merges 12 (o := 63) rfl) rfl
theorem dX12_merges_45 : decode cX12_merges 45 = .ok (.istore 6, 2) := dc_54 (gB_c lq_cX12_merges q1_cX12_merges 13 (o := 54) rfl) (gB_c lq_cX12_merges q1_cX12_merges 14 (o := 6) rfl)
theorem dX12_merges_47 : decode cX12_merges 47 = .ok (.aload_n 0, 1) := dc_42 (gB_c lq_cX12_merges q1_cX12_merges 15 (o := 42) rfl)
theorem dX12_merges_48 : decode cX12_merges 48 = .ok (.invokevirtual 93, 3) := dc_182 (gB_c lq_cX12_merges q1_cX12_merges 16 (o := 182) rfl) (gB_c lq_cX12_merges q1_cX12_merges 17 (o := 0) rfl) (gB_c lq_cX12_merges q1_cX12_merges 18 (o := 93) rfl) rfl
theorem dX12_merges_51 : decode cX12_merges 51 = .ok (.iconst 0, 1) := dc_3 (gB_c lq_cX12_merges q1_cX12_merges 19 (o := 3) rfl)
theorem dX12_merges_52 : decode cX12_merges 52 = .ok (.istore 7, 2) := dc_54 (gB_c lq_cX12_merges q1_cX12_merges 20 (o := 54) rfl) (gB_c lq_cX12_merges q1_cX12_merges 21 (o := 7) rfl)
theorem dX12_merges_54 : decode cX12_merges 54 = .ok (.iload 7, 2) := dc_21 (gB_c lq_cX12_merges q1_cX12_merges 22 (o := 21) rfl) (gB_c lq_cX12_merges q1_cX12_merges 23 (o := 7) rfl)
theorem dX12_merges_56 : decode cX12_merges 56 = .ok (.bipush 81, 2) := dc_16 (gB_c lq_cX12_merges q1_cX12_merges 24 (o := 16) rfl) (gB_c lq_cX12_merges q1_cX12_merges 25 (o := 81) rfl) rfl
theorem dX12_merges_58 : decode cX12_merges 58 = .ok (.if_icmp .ge 17, 3) := dc_162 (gB_c lq_cX12_merges q1_cX12_merges 26 (o := 162) rfl) (gB_c lq_cX12_merges q1_cX12_merges 27 (o := 0) rfl) (gB_c lq_cX12_merges q1_cX12_merges 28 (o := 17) rfl) rfl
theorem dX12_merges_61 : decode cX12_merges 61 = .ok (.aload_n 0, 1) := dc_42 (gB_c lq_cX12_merges q1_cX12_merges 29 (o := 42) rfl)
theorem dX12_merges_62 : decode cX12_merges 62 = .ok (.getfield 47, 3) := dc_180 (gB_c lq_cX12_merges q1_cX12_merges 30 (o := 180) rfl) (gB_c lq_cX12_merges q1_cX12_merges 31 (o := 0) rfl) (gB_c lq_cX12_merges q2_cX12_merges 0 (o := 47) rfl) rfl
theorem dX12_merges_65 : decode cX12_merges 65 = .ok (.iload 7, 2) := dc_21 (gB_c lq_cX12_merges q2_cX12_merges 1 (o := 21) rfl) (gB_c lq_cX12_merges q2_cX12_merges 2 (o := 7) rfl)
theorem dX12_merges_67 : decode cX12_merges 67 = .ok (.iconst 0, 1) := dc_3 (gB_c lq_cX12_merges q2_cX12_merges 3 (o := 3) rfl)
theorem dX12_merges_68 : decode cX12_merges 68 = .ok (.iastore, 1) := dc_79 (gB_c lq_cX12_merges q2_cX12_merges 4 (o := 79) rfl)
theorem dX12_merges_69 : decode cX12_merges 69 = .ok (.iinc 7 1, 3) := dc_132 (gB_c lq_cX12_merges q2_cX12_merges 5 (o := 132) rfl) (gB_c lq_cX12_merges q2_cX12_merges 6 (o := 7) rfl) (gB_c lq_cX12_merges q2_cX12_merges 7 (o := 1) rfl) rfl
theorem dX12_merges_72 : decode cX12_merges 72 = .ok (.goto (-18), 3) := dc_167 (gB_c lq_cX12_merges q2_cX12_merges 8 (o := 167) rfl) (gB_c lq_cX12_merges q2_cX12_merges 9 (o := 255) rfl) (gB_c lq_cX12_merges q2_cX12_merges 10 (o := 238) rfl) rfl
theorem dX12_merges_75 : decode cX12_merges 75 = .ok (.iconst 0, 1) := dc_3 (gB_c lq_cX12_merges q2_cX12_merges 11 (o := 3) rfl)
theorem dX12_merges_76 : decode cX12_merges 76 = .ok (.istore 7, 2) := dc_54 (gB_c lq_cX12_merges q2_cX12_merges 12 (o := 54) rfl) (gB_c lq_cX12_merges q2_cX12_merges 13 (o := 7) rfl)
theorem dX12_merges_78 : decode cX12_merges 78 = .ok (.iload 7, 2) := dc_21 (gB_c lq_cX12_merges q2_cX12_merges 14 (o := 21) rfl) (gB_c lq_cX12_merges q2_cX12_merges 15 (o := 7) rfl)
theorem dX12_merges_80 : decode cX12_merges 80 = .ok (.iload 6, 2) := dc_21 (gB_c lq_cX12_merges q2_cX12_merges 16 (o := 21) rfl) (gB_c lq_cX12_merges q2_cX12_merges 17 (o := 6) rfl)
theorem dX12_merges_82 : decode cX12_merges 82 = .ok (.if_icmp .ge 135, 3) := dc_162 (gB_c lq_cX12_merges q2_cX12_merges 18 (o := 162) rfl) (gB_c lq_cX12_merges q2_cX12_merges 19 (o := 0) rfl) (gB_c lq_cX12_merges q2_cX12_merges 20 (o := 135) rfl) rfl
theorem dX12_merges_85 : decode cX12_merges 85 = .ok (.iconst 0, 1) := dc_3 (gB_c lq_cX12_merges q2_cX12_merges 21 (o := 3) rfl)
theorem dX12_merges_86 : decode cX12_merges 86 = .ok (.istore 8, 2) := dc_54 (gB_c lq_cX12_merges q2_cX12_merges 22 (o := 54) rfl) (gB_c lq_cX12_merges q2_cX12_merges 23 (o := 8) rfl)
theorem dX12_merges_88 : decode cX12_merges 88 = .ok (.iload 8, 2) := dc_21 (gB_c lq_cX12_merges q2_cX12_merges 24 (o := 21) rfl) (gB_c lq_cX12_merges q2_cX12_merges 25 (o := 8) rfl)
theorem dX12_merges_90 : decode cX12_merges 90 = .ok (.iload 6, 2) := dc_21 (gB_c lq_cX12_merges q2_cX12_merges 26 (o := 21) rfl) (gB_c lq_cX12_merges q2_cX12_merges 27 (o := 6) rfl)
theorem dX12_merges_92 : decode cX12_merges 92 = .ok (.if_icmp .ge 119, 3) := dc_162 (gB_c lq_cX12_merges q2_cX12_merges 28 (o := 162) rfl) (gB_c lq_cX12_merges q2_cX12_merges 29 (o := 0) rfl) (gB_c lq_cX12_merges q2_cX12_merges 30 (o := 119) rfl) rfl
theorem dX12_merges_95 : decode cX12_merges 95 = .ok (.iload 7, 2) := dc_21 (gB_c lq_cX12_merges q2_cX12_merges 31 (o := 21) rfl) (gB_c lq_cX12_merges q3_cX12_merges 0 (o := 7) rfl)
theorem dX12_merges_97 : decode cX12_merges 97 = .ok (.iload 5, 2) := dc_21 (gB_c lq_cX12_merges q3_cX12_merges 1 (o := 21) rfl) (gB_c lq_cX12_merges q3_cX12_merges 2 (o := 5) rfl)
theorem dX12_merges_99 : decode cX12_merges 99 = .ok (.if_icmp .ne 8, 3) := dc_160 (gB_c lq_cX12_merges q3_cX12_merges 3 (o := 160) rfl) (gB_c lq_cX12_merges q3_cX12_merges 4 (o := 0) rfl) (gB_c lq_cX12_merges q3_cX12_merges 5 (o := 8) rfl) rfl
theorem dX12_merges_102 : decode cX12_merges 102 = .ok (.iload 4, 2) := dc_21 (gB_c lq_cX12_merges q3_cX12_merges 6 (o := 21) rfl) (gB_c lq_cX12_merges q3_cX12_merges 7 (o := 4) rfl)
theorem dX12_merges_104 : decode cX12_merges 104 = .ok (.goto 19, 3) := dc_167 (gB_c lq_cX12_merges q3_cX12_merges 8 (o := 167) rfl) (gB_c lq_cX12_merges q3_cX12_merges 9 (o := 0) rfl) (gB_c lq_cX12_merges q3_cX12_merges 10 (o := 19) rfl) rfl
theorem dX12_merges_107 : decode cX12_merges 107 = .ok (.iload 7, 2) := dc_21 (gB_c lq_cX12_merges q3_cX12_merges 11 (o := 21) rfl) (gB_c lq_cX12_merges q3_cX12_merges 12 (o := 7) rfl)
theorem dX12_merges_109 : decode cX12_merges 109 = .ok (.iload 5, 2) := dc_21 (gB_c lq_cX12_merges q3_cX12_merges 13 (o := 21) rfl) (gB_c lq_cX12_merges q3_cX12_merges 14 (o := 5) rfl)
theorem dX12_merges_111 : decode cX12_merges 111 = .ok (.if_icmp .le 10, 3) := dc_164 (gB_c lq_cX12_merges q3_cX12_merges 15 (o := 164) rfl) (gB_c lq_cX12_merges q3_cX12_merges 16 (o := 0) rfl) (gB_c lq_cX12_merges q3_cX12_merges 17 (o := 10) rfl) rfl
theorem dX12_merges_114 : decode cX12_merges 114 = .ok (.iload 7, 2) := dc_21 (gB_c lq_cX12_merges q3_cX12_merges 18 (o := 21) rfl) (gB_c lq_cX12_merges q3_cX12_merges 19 (o := 7) rfl)
theorem dX12_merges_116 : decode cX12_merges 116 = .ok (.iconst 1, 1) := dc_4 (gB_c lq_cX12_merges q3_cX12_merges 20 (o := 4) rfl)
theorem dX12_merges_117 : decode cX12_merges 117 = .ok (.isub, 1) := dc_100 (gB_c lq_cX12_merges q3_cX12_merges 21 (o := 100) rfl)
theorem dX12_merges_118 : decode cX12_merges 118 = .ok (.goto 5, 3) := dc_167 (gB_c lq_cX12_merges q3_cX12_merges 22 (o := 167) rfl) (gB_c lq_cX12_merges q3_cX12_merges 23 (o := 0) rfl) (gB_c lq_cX12_merges q3_cX12_merges 24 (o := 5) rfl) rfl
theorem dX12_merges_121 : decode cX12_merges 121 = .ok (.iload 7, 2) := dc_21 (gB_c lq_cX12_merges q3_cX12_merges 25 (o := 21) rfl) (gB_c lq_cX12_merges q3_cX12_merges 26 (o := 7) rfl)
theorem dX12_merges_123 : decode cX12_merges 123 = .ok (.istore 9, 2) := dc_54 (gB_c lq_cX12_merges q3_cX12_merges 27 (o := 54) rfl) (gB_c lq_cX12_merges q3_cX12_merges 28 (o := 9) rfl)
theorem dX12_merges_125 : decode cX12_merges 125 = .ok (.iload 8, 2) := dc_21 (gB_c lq_cX12_merges q3_cX12_merges 29 (o := 21) rfl) (gB_c lq_cX12_merges q3_cX12_merges 30 (o := 8) rfl)
theorem dX12_merges_127 : decode cX12_merges 127 = .ok (.iload 5, 2) := dc_21 (gB_c lq_cX12_merges q3_cX12_merges 31 (o := 21) rfl) (gB_c lq_cX12_merges q4_cX12_merges 0 (o := 5) rfl)
theorem dX12_merges_129 : decode cX12_merges 129 = .ok (.if_icmp .ne 8, 3) := dc_160 (gB_c lq_cX12_merges q4_cX12_merges 1 (o := 160) rfl) (gB_c lq_cX12_merges q4_cX12_merges 2 (o := 0) rfl) (gB_c lq_cX12_merges q4_cX12_merges 3 (o := 8) rfl) rfl
theorem dX12_merges_132 : decode cX12_merges 132 = .ok (.iload 4, 2) := dc_21 (gB_c lq_cX12_merges q4_cX12_merges 4 (o := 21) rfl) (gB_c lq_cX12_merges q4_cX12_merges 5 (o := 4) rfl)
theorem dX12_merges_134 : decode cX12_merges 134 = .ok (.goto 19, 3) := dc_167 (gB_c lq_cX12_merges q4_cX12_merges 6 (o := 167) rfl) (gB_c lq_cX12_merges q4_cX12_merges 7 (o := 0) rfl) (gB_c lq_cX12_merges q4_cX12_merges 8 (o := 19) rfl) rfl
theorem dX12_merges_137 : decode cX12_merges 137 = .ok (.iload 8, 2) := dc_21 (gB_c lq_cX12_merges q4_cX12_merges 9 (o := 21) rfl) (gB_c lq_cX12_merges q4_cX12_merges 10 (o := 8) rfl)
theorem dX12_merges_139 : decode cX12_merges 139 = .ok (.iload 5, 2) := dc_21 (gB_c lq_cX12_merges q4_cX12_merges 11 (o := 21) rfl) (gB_c lq_cX12_merges q4_cX12_merges 12 (o := 5) rfl)
theorem dX12_merges_141 : decode cX12_merges 141 = .ok (.if_icmp .le 10, 3) := dc_164 (gB_c lq_cX12_merges q4_cX12_merges 13 (o := 164) rfl) (gB_c lq_cX12_merges q4_cX12_merges 14 (o := 0) rfl) (gB_c lq_cX12_merges q4_cX12_merges 15 (o := 10) rfl) rfl
theorem dX12_merges_144 : decode cX12_merges 144 = .ok (.iload 8, 2) := dc_21 (gB_c lq_cX12_merges q4_cX12_merges 16 (o := 21) rfl) (gB_c lq_cX12_merges q4_cX12_merges 17 (o := 8) rfl)
theorem dX12_merges_146 : decode cX12_merges 146 = .ok (.iconst 1, 1) := dc_4 (gB_c lq_cX12_merges q4_cX12_merges 18 (o := 4) rfl)
theorem dX12_merges_147 : decode cX12_merges 147 = .ok (.isub, 1) := dc_100 (gB_c lq_cX12_merges q4_cX12_merges 19 (o := 100) rfl)
theorem dX12_merges_148 : decode cX12_merges 148 = .ok (.goto 5, 3) := dc_167 (gB_c lq_cX12_merges q4_cX12_merges 20 (o := 167) rfl) (gB_c lq_cX12_merges q4_cX12_merges 21 (o := 0) rfl) (gB_c lq_cX12_merges q4_cX12_merges 22 (o := 5) rfl) rfl
theorem dX12_merges_151 : decode cX12_merges 151 = .ok (.iload 8, 2) := dc_21 (gB_c lq_cX12_merges q4_cX12_merges 23 (o := 21) rfl) (gB_c lq_cX12_merges q4_cX12_merges 24 (o := 8) rfl)
theorem dX12_merges_153 : decode cX12_merges 153 = .ok (.istore 10, 2) := dc_54 (gB_c lq_cX12_merges q4_cX12_merges 25 (o := 54) rfl) (gB_c lq_cX12_merges q4_cX12_merges 26 (o := 10) rfl)
theorem dX12_merges_155 : decode cX12_merges 155 = .ok (.bipush 9, 2) := dc_16 (gB_c lq_cX12_merges q4_cX12_merges 27 (o := 16) rfl) (gB_c lq_cX12_merges q4_cX12_merges 28 (o := 9) rfl) rfl
theorem dX12_merges_157 : decode cX12_merges 157 = .ok (.iload 9, 2) := dc_21 (gB_c lq_cX12_merges q4_cX12_merges 29 (o := 21) rfl) (gB_c lq_cX12_merges q4_cX12_merges 30 (o := 9) rfl)
theorem dX12_merges_159 : decode cX12_merges 159 = .ok (.imul, 1) := dc_104 (gB_c lq_cX12_merges q4_cX12_merges 31 (o := 104) rfl)
theorem dX12_merges_160 : decode cX12_merges 160 = .ok (.iload 10, 2) := dc_21 (gB_c lq_cX12_merges q5_cX12_merges 0 (o := 21) rfl) (gB_c lq_cX12_merges q5_cX12_merges 1 (o := 10) rfl)
theorem dX12_merges_162 : decode cX12_merges 162 = .ok (.iadd, 1) := dc_96 (gB_c lq_cX12_merges q5_cX12_merges 2 (o := 96) rfl)
theorem dX12_merges_163 : decode cX12_merges 163 = .ok (.istore 11, 2) := dc_54 (gB_c lq_cX12_merges q5_cX12_merges 3 (o := 54) rfl) (gB_c lq_cX12_merges q5_cX12_merges 4 (o := 11) rfl)
theorem dX12_merges_165 : decode cX12_merges 165 = .ok (.aload_n 0, 1) := dc_42 (gB_c lq_cX12_merges q5_cX12_merges 5 (o := 42) rfl)
theorem dX12_merges_166 : decode cX12_merges 166 = .ok (.getfield 47, 3) := dc_180 (gB_c lq_cX12_merges q5_cX12_merges 6 (o := 180) rfl) (gB_c lq_cX12_merges q5_cX12_merges 7 (o := 0) rfl) (gB_c lq_cX12_merges q5_cX12_merges 8 (o := 47) rfl) rfl
theorem dX12_merges_169 : decode cX12_merges 169 = .ok (.iload 11, 2) := dc_21 (gB_c lq_cX12_merges q5_cX12_merges 9 (o := 21) rfl) (gB_c lq_cX12_merges q5_cX12_merges 10 (o := 11) rfl)
theorem dX12_merges_171 : decode cX12_merges 171 = .ok (.iload 9, 2) := dc_21 (gB_c lq_cX12_merges q5_cX12_merges 11 (o := 21) rfl) (gB_c lq_cX12_merges q5_cX12_merges 12 (o := 9) rfl)
theorem dX12_merges_173 : decode cX12_merges 173 = .ok (.iload 10, 2) := dc_21 (gB_c lq_cX12_merges q5_cX12_merges 13 (o := 21) rfl) (gB_c lq_cX12_merges q5_cX12_merges 14 (o := 10) rfl)
theorem dX12_merges_175 : decode cX12_merges 175 = .ok (.if_icmp .ne 7, 3) := dc_160 (gB_c lq_cX12_merges q5_cX12_merges 15 (o := 160) rfl) (gB_c lq_cX12_merges q5_cX12_merges 16 (o := 0) rfl) (gB_c lq_cX12_merges q5_cX12_merges 17 (o := 7) rfl) rfl
theorem dX12_merges_178 : decode cX12_merges 178 = .ok (.iconst 0, 1) := dc_3 (gB_c lq_cX12_merges q5_cX12_merges 18 (o := 3) rfl)
theorem dX12_merges_179 : decode cX12_merges 179 = .ok (.goto 25, 3) := dc_167 (gB_c lq_cX12_merges q5_cX12_merges 19 (o := 167) rfl) (gB_c lq_cX12_merges q5_cX12_merges 20 (o := 0) rfl) (gB_c lq_cX12_merges q5_cX12_merges 21 (o := 25) rfl) rfl
theorem dX12_merges_182 : decode cX12_merges 182 = .ok (.bipush 9, 2) := dc_16 (gB_c lq_cX12_merges q5_cX12_merges 22 (o := 16) rfl) (gB_c lq_cX12_merges q5_cX12_merges 23 (o := 9) rfl) rfl
theorem dX12_merges_184 : decode cX12_merges 184 = .ok (.aload_n 0, 1) := dc_42 (gB_c lq_cX12_merges q5_cX12_merges 24 (o := 42) rfl)
theorem dX12_merges_185 : decode cX12_merges 185 = .ok (.getfield 47, 3) := dc_180 (gB_c lq_cX12_merges q5_cX12_merges 25 (o := 180) rfl) (gB_c lq_cX12_merges q5_cX12_merges 26 (o := 0) rfl) (gB_c lq_cX12_merges q5_cX12_merges 27 (o := 47) rfl) rfl
theorem dX12_merges_188 : decode cX12_merges 188 = .ok (.iload 11, 2) := dc_21 (gB_c lq_cX12_merges q5_cX12_merges 28 (o := 21) rfl) (gB_c lq_cX12_merges q5_cX12_merges 29 (o := 11) rfl)
theorem dX12_merges_190 : decode cX12_merges 190 = .ok (.iaload, 1) := dc_46 (gB_c lq_cX12_merges q5_cX12_merges 30 (o := 46) rfl)
theorem dX12_merges_191 : decode cX12_merges 191 = .ok (.aload_n 0, 1) := dc_42 (gB_c lq_cX12_merges q5_cX12_merges 31 (o := 42) rfl)
theorem dX12_merges_192 : decode cX12_merges 192 = .ok (.iload_n 1, 1) := dc_27 (gB_c lq_cX12_merges q6_cX12_merges 0 (o := 27) rfl)
theorem dX12_merges_193 : decode cX12_merges 193 = .ok (.iload 7, 2) := dc_21 (gB_c lq_cX12_merges q6_cX12_merges 1 (o := 21) rfl) (gB_c lq_cX12_merges q6_cX12_merges 2 (o := 7) rfl)
theorem dX12_merges_195 : decode cX12_merges 195 = .ok (.iload 8, 2) := dc_21 (gB_c lq_cX12_merges q6_cX12_merges 3 (o := 21) rfl) (gB_c lq_cX12_merges q6_cX12_merges 4 (o := 8) rfl)
theorem dX12_merges_197 : decode cX12_merges 197 = .ok (.invokevirtual 76, 3) := dc_182 (gB_c lq_cX12_merges q6_cX12_merges 5 (o := 182) rfl) (gB_c lq_cX12_merges q6_cX12_merges 6 (o := 0) rfl) (gB_c lq_cX12_merges q6_cX12_merges 7 (o := 76) rfl) rfl
theorem dX12_merges_200 : decode cX12_merges 200 = .ok (.iadd, 1) := dc_96 (gB_c lq_cX12_merges q6_cX12_merges 8 (o := 96) rfl)
theorem dX12_merges_201 : decode cX12_merges 201 = .ok (.invokestatic 118, 3) := dc_184 (gB_c lq_cX12_merges q6_cX12_merges 9 (o := 184) rfl) (gB_c lq_cX12_merges q6_cX12_merges 10 (o := 0) rfl) (gB_c lq_cX12_merges q6_cX12_merges 11 (o := 118) rfl) rfl
theorem dX12_merges_204 : decode cX12_merges 204 = .ok (.iastore, 1) := dc_79 (gB_c lq_cX12_merges q6_cX12_merges 12 (o := 79) rfl)
theorem dX12_merges_205 : decode cX12_merges 205 = .ok (.iinc 8 1, 3) := dc_132 (gB_c lq_cX12_merges q6_cX12_merges 13 (o := 132) rfl) (gB_c lq_cX12_merges q6_cX12_merges 14 (o := 8) rfl) (gB_c lq_cX12_merges q6_cX12_merges 15 (o := 1) rfl) rfl
theorem dX12_merges_208 : decode cX12_merges 208 = .ok (.goto (-120), 3) := dc_167 (gB_c lq_cX12_merges q6_cX12_merges 16 (o := 167) rfl) (gB_c lq_cX12_merges q6_cX12_merges 17 (o := 255) rfl) (gB_c lq_cX12_merges q6_cX12_merges 18 (o := 136) rfl) rfl
theorem dX12_merges_211 : decode cX12_merges 211 = .ok (.iinc 7 1, 3) := dc_132 (gB_c lq_cX12_merges q6_cX12_merges 19 (o := 132) rfl) (gB_c lq_cX12_merges q6_cX12_merges 20 (o := 7) rfl) (gB_c lq_cX12_merges q6_cX12_merges 21 (o := 1) rfl) rfl
theorem dX12_merges_214 : decode cX12_merges 214 = .ok (.goto (-136), 3) := dc_167 (gB_c lq_cX12_merges q6_cX12_merges 22 (o := 167) rfl) (gB_c lq_cX12_merges q6_cX12_merges 23 (o := 255) rfl) (gB_c lq_cX12_merges q6_cX12_merges 24 (o := 120) rfl) rfl
theorem dX12_merges_217 : decode cX12_merges 217 = .ok (.iconst 0, 1) := dc_3 (gB_c lq_cX12_merges q6_cX12_merges 25 (o := 3) rfl)
theorem dX12_merges_218 : decode cX12_merges 218 = .ok (.istore 7, 2) := dc_54 (gB_c lq_cX12_merges q6_cX12_merges 26 (o := 54) rfl) (gB_c lq_cX12_merges q6_cX12_merges 27 (o := 7) rfl)
theorem dX12_merges_220 : decode cX12_merges 220 = .ok (.iconst 0, 1) := dc_3 (gB_c lq_cX12_merges q6_cX12_merges 28 (o := 3) rfl)
theorem dX12_merges_221 : decode cX12_merges 221 = .ok (.istore 8, 2) := dc_54 (gB_c lq_cX12_merges q6_cX12_merges 29 (o := 54) rfl) (gB_c lq_cX12_merges q6_cX12_merges 30 (o := 8) rfl)
theorem dX12_merges_223 : decode cX12_merges 223 = .ok (.iload 8, 2) := dc_21 (gB_c lq_cX12_merges q6_cX12_merges 31 (o := 21) rfl) (gB_c lq_cX12_merges q7_cX12_merges 0 (o := 8) rfl)
theorem dX12_merges_225 : decode cX12_merges 225 = .ok (.iload 6, 2) := dc_21 (gB_c lq_cX12_merges q7_cX12_merges 1 (o := 21) rfl) (gB_c lq_cX12_merges q7_cX12_merges 2 (o := 6) rfl)
theorem dX12_merges_227 : decode cX12_merges 227 = .ok (.if_icmp .ge 51, 3) := dc_162 (gB_c lq_cX12_merges q7_cX12_merges 3 (o := 162) rfl) (gB_c lq_cX12_merges q7_cX12_merges 4 (o := 0) rfl) (gB_c lq_cX12_merges q7_cX12_merges 5 (o := 51) rfl) rfl
theorem dX12_merges_230 : decode cX12_merges 230 = .ok (.aload_n 0, 1) := dc_42 (gB_c lq_cX12_merges q7_cX12_merges 6 (o := 42) rfl)
theorem dX12_merges_231 : decode cX12_merges 231 = .ok (.iload_n 1, 1) := dc_27 (gB_c lq_cX12_merges q7_cX12_merges 7 (o := 27) rfl)
theorem dX12_merges_232 : decode cX12_merges 232 = .ok (.iload 8, 2) := dc_21 (gB_c lq_cX12_merges q7_cX12_merges 8 (o := 21) rfl) (gB_c lq_cX12_merges q7_cX12_merges 9 (o := 8) rfl)
theorem dX12_merges_234 : decode cX12_merges 234 = .ok (.invokevirtual 217, 3) := dc_182 (gB_c lq_cX12_merges q7_cX12_merges 10 (o := 182) rfl) (gB_c lq_cX12_merges q7_cX12_merges 11 (o := 0) rfl) (gB_c lq_cX12_merges q7_cX12_merges 12 (o := 217) rfl) rfl
theorem dX12_merges_237 : decode cX12_merges 237 = .ok (.istore 9, 2) := dc_54 (gB_c lq_cX12_merges q7_cX12_merges 13 (o := 54) rfl) (gB_c lq_cX12_merges q7_cX12_merges 14 (o := 9) rfl)
theorem dX12_merges_239 : decode cX12_merges 239 = .ok (.iload 9, 2) := dc_21 (gB_c lq_cX12_merges q7_cX12_merges 15 (o := 21) rfl) (gB_c lq_cX12_merges q7_cX12_merges 16 (o := 9) rfl)
theorem dX12_merges_241 : decode cX12_merges 241 = .ok (.iload 5, 2) := dc_21 (gB_c lq_cX12_merges q7_cX12_merges 17 (o := 21) rfl) (gB_c lq_cX12_merges q7_cX12_merges 18 (o := 5) rfl)
theorem dX12_merges_243 : decode cX12_merges 243 = .ok (.if_icmp .eq 29, 3) := dc_159 (gB_c lq_cX12_merges q7_cX12_merges 19 (o := 159) rfl) (gB_c lq_cX12_merges q7_cX12_merges 20 (o := 0) rfl) (gB_c lq_cX12_merges q7_cX12_merges 21 (o := 29) rfl) rfl
theorem dX12_merges_246 : decode cX12_merges 246 = .ok (.aload_n 0, 1) := dc_42 (gB_c lq_cX12_merges q7_cX12_merges 22 (o := 42) rfl)
theorem dX12_merges_247 : decode cX12_merges 247 = .ok (.getfield 26, 3) := dc_180 (gB_c lq_cX12_merges q7_cX12_merges 23 (o := 180) rfl) (gB_c lq_cX12_merges q7_cX12_merges 24 (o := 0) rfl) (gB_c lq_cX12_merges q7_cX12_merges 25 (o := 26) rfl) rfl
theorem dX12_merges_250 : decode cX12_merges 250 = .ok (.iload 7, 2) := dc_21 (gB_c lq_cX12_merges q7_cX12_merges 26 (o := 21) rfl) (gB_c lq_cX12_merges q7_cX12_merges 27 (o := 7) rfl)
theorem dX12_merges_252 : decode cX12_merges 252 = .ok (.iload 9, 2) := dc_21 (gB_c lq_cX12_merges q7_cX12_merges 28 (o := 21) rfl) (gB_c lq_cX12_merges q7_cX12_merges 29 (o := 9) rfl)
theorem dX12_merges_254 : decode cX12_merges 254 = .ok (.iload 5, 2) := dc_21 (gB_c lq_cX12_merges q7_cX12_merges 30 (o := 21) rfl) (gB_c lq_cX12_merges q7_cX12_merges 31 (o := 5) rfl)
theorem dX12_merges_256 : decode cX12_merges 256 = .ok (.if_icmp .le 10, 3) := dc_164 (gB_c lq_cX12_merges q8_cX12_merges 0 (o := 164) rfl) (gB_c lq_cX12_merges q8_cX12_merges 1 (o := 0) rfl) (gB_c lq_cX12_merges q8_cX12_merges 2 (o := 10) rfl) rfl
theorem dX12_merges_259 : decode cX12_merges 259 = .ok (.iload 9, 2) := dc_21 (gB_c lq_cX12_merges q8_cX12_merges 3 (o := 21) rfl) (gB_c lq_cX12_merges q8_cX12_merges 4 (o := 9) rfl)
theorem dX12_merges_261 : decode cX12_merges 261 = .ok (.iconst 1, 1) := dc_4 (gB_c lq_cX12_merges q8_cX12_merges 5 (o := 4) rfl)
theorem dX12_merges_262 : decode cX12_merges 262 = .ok (.isub, 1) := dc_100 (gB_c lq_cX12_merges q8_cX12_merges 6 (o := 100) rfl)
theorem dX12_merges_263 : decode cX12_merges 263 = .ok (.goto 5, 3) := dc_167 (gB_c lq_cX12_merges q8_cX12_merges 7 (o := 167) rfl) (gB_c lq_cX12_merges q8_cX12_merges 8 (o := 0) rfl) (gB_c lq_cX12_merges q8_cX12_merges 9 (o := 5) rfl) rfl
theorem dX12_merges_266 : decode cX12_merges 266 = .ok (.iload 9, 2) := dc_21 (gB_c lq_cX12_merges q8_cX12_merges 10 (o := 21) rfl) (gB_c lq_cX12_merges q8_cX12_merges 11 (o := 9) rfl)
theorem dX12_merges_268 : decode cX12_merges 268 = .ok (.iastore, 1) := dc_79 (gB_c lq_cX12_merges q8_cX12_merges 12 (o := 79) rfl)
theorem dX12_merges_269 : decode cX12_merges 269 = .ok (.iinc 7 1, 3) := dc_132 (gB_c lq_cX12_merges q8_cX12_merges 13 (o := 132) rfl) (gB_c lq_cX12_merges q8_cX12_merges 14 (o := 7) rfl) (gB_c lq_cX12_merges q8_cX12_merges 15 (o := 1) rfl) rfl
theorem dX12_merges_272 : decode cX12_merges 272 = .ok (.iinc 8 1, 3) := dc_132 (gB_c lq_cX12_merges q8_cX12_merges 16 (o := 132) rfl) (gB_c lq_cX12_merges q8_cX12_merges 17 (o := 8) rfl) (gB_c lq_cX12_merges q8_cX12_merges 18 (o := 1) rfl) rfl
theorem dX12_merges_275 : decode cX12_merges 275 = .ok (.goto (-52), 3) := dc_167 (gB_c lq_cX12_merges q8_cX12_merges 19 (o := 167) rfl) (gB_c lq_cX12_merges q8_cX12_merges 20 (o := 255) rfl) (gB_c lq_cX12_merges q8_cX12_merges 21 (o := 204) rfl) rfl
theorem dX12_merges_278 : decode cX12_merges 278 = .ok (.aload_n 0, 1) := dc_42 (gB_c lq_cX12_merges q8_cX12_merges 22 (o := 42) rfl)
theorem dX12_merges_279 : decode cX12_merges 279 = .ok (.iload_n 1, 1) := dc_27 (gB_c lq_cX12_merges q8_cX12_merges 23 (o := 27) rfl)
theorem dX12_merges_280 : decode cX12_merges 280 = .ok (.invokevirtual 96, 3) := dc_182 (gB_c lq_cX12_merges q8_cX12_merges 24 (o := 182) rfl) (gB_c lq_cX12_merges q8_cX12_merges 25 (o := 0) rfl) (gB_c lq_cX12_merges q8_cX12_merges 26 (o := 96) rfl) rfl
theorem dX12_merges_283 : decode cX12_merges 283 = .ok (.aload_n 0, 1) := dc_42 (gB_c lq_cX12_merges q8_cX12_merges 27 (o := 42) rfl)
theorem dX12_merges_284 : decode cX12_merges 284 = .ok (.getfield 7, 3) := dc_180 (gB_c lq_cX12_merges q8_cX12_merges 28 (o := 180) rfl) (gB_c lq_cX12_merges q8_cX12_merges 29 (o := 0) rfl) (gB_c lq_cX12_merges q8_cX12_merges 30 (o := 7) rfl) rfl
theorem dX12_merges_287 : decode cX12_merges 287 = .ok (.bipush 91, 2) := dc_16 (gB_c lq_cX12_merges q8_cX12_merges 31 (o := 16) rfl) (gB_c lq_cX12_merges q9_cX12_merges 0 (o := 91) rfl) rfl
theorem dX12_merges_289 : decode cX12_merges 289 = .ok (.iload_n 1, 1) := dc_27 (gB_c lq_cX12_merges q9_cX12_merges 1 (o := 27) rfl)
theorem dX12_merges_290 : decode cX12_merges 290 = .ok (.imul, 1) := dc_104 (gB_c lq_cX12_merges q9_cX12_merges 2 (o := 104) rfl)
theorem dX12_merges_291 : decode cX12_merges 291 = .ok (.iload 6, 2) := dc_21 (gB_c lq_cX12_merges q9_cX12_merges 3 (o := 21) rfl) (gB_c lq_cX12_merges q9_cX12_merges 4 (o := 6) rfl)
theorem dX12_merges_293 : decode cX12_merges 293 = .ok (.iconst 1, 1) := dc_4 (gB_c lq_cX12_merges q9_cX12_merges 5 (o := 4) rfl)
theorem dX12_merges_294 : decode cX12_merges 294 = .ok (.isub, 1) := dc_100 (gB_c lq_cX12_merges q9_cX12_merges 6 (o := 100) rfl)
theorem dX12_merges_295 : decode cX12_merges 295 = .ok (.iastore, 1) := dc_79 (gB_c lq_cX12_merges q9_cX12_merges 7 (o := 79) rfl)
theorem dX12_merges_296 : decode cX12_merges 296 = .ok (.iconst 0, 1) := dc_3 (gB_c lq_cX12_merges q9_cX12_merges 8 (o := 3) rfl)
theorem dX12_merges_297 : decode cX12_merges 297 = .ok (.istore 8, 2) := dc_54 (gB_c lq_cX12_merges q9_cX12_merges 9 (o := 54) rfl) (gB_c lq_cX12_merges q9_cX12_merges 10 (o := 8) rfl)
theorem dX12_merges_299 : decode cX12_merges 299 = .ok (.iload 8, 2) := dc_21 (gB_c lq_cX12_merges q9_cX12_merges 11 (o := 21) rfl) (gB_c lq_cX12_merges q9_cX12_merges 12 (o := 8) rfl)
theorem dX12_merges_301 : decode cX12_merges 301 = .ok (.bipush 81, 2) := dc_16 (gB_c lq_cX12_merges q9_cX12_merges 13 (o := 16) rfl) (gB_c lq_cX12_merges q9_cX12_merges 14 (o := 81) rfl) rfl
theorem dX12_merges_303 : decode cX12_merges 303 = .ok (.if_icmp .ge 30, 3) := dc_162 (gB_c lq_cX12_merges q9_cX12_merges 15 (o := 162) rfl) (gB_c lq_cX12_merges q9_cX12_merges 16 (o := 0) rfl) (gB_c lq_cX12_merges q9_cX12_merges 17 (o := 30) rfl) rfl
theorem dX12_merges_306 : decode cX12_merges 306 = .ok (.aload_n 0, 1) := dc_42 (gB_c lq_cX12_merges q9_cX12_merges 18 (o := 42) rfl)
theorem dX12_merges_307 : decode cX12_merges 307 = .ok (.getfield 7, 3) := dc_180 (gB_c lq_cX12_merges q9_cX12_merges 19 (o := 180) rfl) (gB_c lq_cX12_merges q9_cX12_merges 20 (o := 0) rfl) (gB_c lq_cX12_merges q9_cX12_merges 21 (o := 7) rfl) rfl
theorem dX12_merges_310 : decode cX12_merges 310 = .ok (.bipush 91, 2) := dc_16 (gB_c lq_cX12_merges q9_cX12_merges 22 (o := 16) rfl) (gB_c lq_cX12_merges q9_cX12_merges 23 (o := 91) rfl) rfl
theorem dX12_merges_312 : decode cX12_merges 312 = .ok (.iload_n 1, 1) := dc_27 (gB_c lq_cX12_merges q9_cX12_merges 24 (o := 27) rfl)
theorem dX12_merges_313 : decode cX12_merges 313 = .ok (.imul, 1) := dc_104 (gB_c lq_cX12_merges q9_cX12_merges 25 (o := 104) rfl)
theorem dX12_merges_314 : decode cX12_merges 314 = .ok (.iconst 1, 1) := dc_4 (gB_c lq_cX12_merges q9_cX12_merges 26 (o := 4) rfl)
theorem dX12_merges_315 : decode cX12_merges 315 = .ok (.iadd, 1) := dc_96 (gB_c lq_cX12_merges q9_cX12_merges 27 (o := 96) rfl)
theorem dX12_merges_316 : decode cX12_merges 316 = .ok (.iload 8, 2) := dc_21 (gB_c lq_cX12_merges q9_cX12_merges 28 (o := 21) rfl) (gB_c lq_cX12_merges q9_cX12_merges 29 (o := 8) rfl)
theorem dX12_merges_318 : decode cX12_merges 318 = .ok (.iadd, 1) := dc_96 (gB_c lq_cX12_merges q9_cX12_merges 30 (o := 96) rfl)
theorem dX12_merges_319 : decode cX12_merges 319 = .ok (.aload_n 0, 1) := dc_42 (gB_c lq_cX12_merges q9_cX12_merges 31 (o := 42) rfl)
theorem dX12_merges_320 : decode cX12_merges 320 = .ok (.getfield 47, 3) := dc_180 (gB_c lq_cX12_merges q10_cX12_merges 0 (o := 180) rfl) (gB_c lq_cX12_merges q10_cX12_merges 1 (o := 0) rfl) (gB_c lq_cX12_merges q10_cX12_merges 2 (o := 47) rfl) rfl
theorem dX12_merges_323 : decode cX12_merges 323 = .ok (.iload 8, 2) := dc_21 (gB_c lq_cX12_merges q10_cX12_merges 3 (o := 21) rfl) (gB_c lq_cX12_merges q10_cX12_merges 4 (o := 8) rfl)
theorem dX12_merges_325 : decode cX12_merges 325 = .ok (.iaload, 1) := dc_46 (gB_c lq_cX12_merges q10_cX12_merges 5 (o := 46) rfl)
theorem dX12_merges_326 : decode cX12_merges 326 = .ok (.iastore, 1) := dc_79 (gB_c lq_cX12_merges q10_cX12_merges 6 (o := 79) rfl)
theorem dX12_merges_327 : decode cX12_merges 327 = .ok (.iinc 8 1, 3) := dc_132 (gB_c lq_cX12_merges q10_cX12_merges 7 (o := 132) rfl) (gB_c lq_cX12_merges q10_cX12_merges 8 (o := 8) rfl) (gB_c lq_cX12_merges q10_cX12_merges 9 (o := 1) rfl) rfl
theorem dX12_merges_330 : decode cX12_merges 330 = .ok (.goto (-31), 3) := dc_167 (gB_c lq_cX12_merges q10_cX12_merges 10 (o := 167) rfl) (gB_c lq_cX12_merges q10_cX12_merges 11 (o := 255) rfl) (gB_c lq_cX12_merges q10_cX12_merges 12 (o := 225) rfl) rfl
theorem dX12_merges_333 : decode cX12_merges 333 = .ok (.iconst 0, 1) := dc_3 (gB_c lq_cX12_merges q10_cX12_merges 13 (o := 3) rfl)
theorem dX12_merges_334 : decode cX12_merges 334 = .ok (.istore 8, 2) := dc_54 (gB_c lq_cX12_merges q10_cX12_merges 14 (o := 54) rfl) (gB_c lq_cX12_merges q10_cX12_merges 15 (o := 8) rfl)
theorem dX12_merges_336 : decode cX12_merges 336 = .ok (.iload 8, 2) := dc_21 (gB_c lq_cX12_merges q10_cX12_merges 16 (o := 21) rfl) (gB_c lq_cX12_merges q10_cX12_merges 17 (o := 8) rfl)
theorem dX12_merges_338 : decode cX12_merges 338 = .ok (.iload 6, 2) := dc_21 (gB_c lq_cX12_merges q10_cX12_merges 18 (o := 21) rfl) (gB_c lq_cX12_merges q10_cX12_merges 19 (o := 6) rfl)
theorem dX12_merges_340 : decode cX12_merges 340 = .ok (.iconst 1, 1) := dc_4 (gB_c lq_cX12_merges q10_cX12_merges 20 (o := 4) rfl)
theorem dX12_merges_341 : decode cX12_merges 341 = .ok (.isub, 1) := dc_100 (gB_c lq_cX12_merges q10_cX12_merges 21 (o := 100) rfl)
theorem dX12_merges_342 : decode cX12_merges 342 = .ok (.if_icmp .ge 23, 3) := dc_162 (gB_c lq_cX12_merges q10_cX12_merges 22 (o := 162) rfl) (gB_c lq_cX12_merges q10_cX12_merges 23 (o := 0) rfl) (gB_c lq_cX12_merges q10_cX12_merges 24 (o := 23) rfl) rfl
theorem dX12_merges_345 : decode cX12_merges 345 = .ok (.aload_n 0, 1) := dc_42 (gB_c lq_cX12_merges q10_cX12_merges 25 (o := 42) rfl)
theorem dX12_merges_346 : decode cX12_merges 346 = .ok (.iload_n 1, 1) := dc_27 (gB_c lq_cX12_merges q10_cX12_merges 26 (o := 27) rfl)
theorem dX12_merges_347 : decode cX12_merges 347 = .ok (.iload 8, 2) := dc_21 (gB_c lq_cX12_merges q10_cX12_merges 27 (o := 21) rfl) (gB_c lq_cX12_merges q10_cX12_merges 28 (o := 8) rfl)
theorem dX12_merges_349 : decode cX12_merges 349 = .ok (.aload_n 0, 1) := dc_42 (gB_c lq_cX12_merges q10_cX12_merges 29 (o := 42) rfl)
theorem dX12_merges_350 : decode cX12_merges 350 = .ok (.getfield 26, 3) := dc_180 (gB_c lq_cX12_merges q10_cX12_merges 30 (o := 180) rfl) (gB_c lq_cX12_merges q10_cX12_merges 31 (o := 0) rfl) (gB_c lq_cX12_merges q11_cX12_merges 0 (o := 26) rfl) rfl
theorem dX12_merges_353 : decode cX12_merges 353 = .ok (.iload 8, 2) := dc_21 (gB_c lq_cX12_merges q11_cX12_merges 1 (o := 21) rfl) (gB_c lq_cX12_merges q11_cX12_merges 2 (o := 8) rfl)
theorem dX12_merges_355 : decode cX12_merges 355 = .ok (.iaload, 1) := dc_46 (gB_c lq_cX12_merges q11_cX12_merges 3 (o := 46) rfl)
theorem dX12_merges_356 : decode cX12_merges 356 = .ok (.invokevirtual 169, 3) := dc_182 (gB_c lq_cX12_merges q11_cX12_merges 4 (o := 182) rfl) (gB_c lq_cX12_merges q11_cX12_merges 5 (o := 0) rfl) (gB_c lq_cX12_merges q11_cX12_merges 6 (o := 169) rfl) rfl
theorem dX12_merges_359 : decode cX12_merges 359 = .ok (.iinc 8 1, 3) := dc_132 (gB_c lq_cX12_merges q11_cX12_merges 7 (o := 132) rfl) (gB_c lq_cX12_merges q11_cX12_merges 8 (o := 8) rfl) (gB_c lq_cX12_merges q11_cX12_merges 9 (o := 1) rfl) rfl
theorem dX12_merges_362 : decode cX12_merges 362 = .ok (.goto (-26), 3) := dc_167 (gB_c lq_cX12_merges q11_cX12_merges 10 (o := 167) rfl) (gB_c lq_cX12_merges q11_cX12_merges 11 (o := 255) rfl) (gB_c lq_cX12_merges q11_cX12_merges 12 (o := 230) rfl) rfl
theorem dX12_merges_365 : decode cX12_merges 365 = .ok (.aload_n 0, 1) := dc_42 (gB_c lq_cX12_merges q11_cX12_merges 13 (o := 42) rfl)
theorem dX12_merges_366 : decode cX12_merges 366 = .ok (.iload 6, 2) := dc_21 (gB_c lq_cX12_merges q11_cX12_merges 14 (o := 21) rfl) (gB_c lq_cX12_merges q11_cX12_merges 15 (o := 6) rfl)
theorem dX12_merges_368 : decode cX12_merges 368 = .ok (.iconst 1, 1) := dc_4 (gB_c lq_cX12_merges q11_cX12_merges 16 (o := 4) rfl)
theorem dX12_merges_369 : decode cX12_merges 369 = .ok (.isub, 1) := dc_100 (gB_c lq_cX12_merges q11_cX12_merges 17 (o := 100) rfl)
theorem dX12_merges_370 : decode cX12_merges 370 = .ok (.invokevirtual 90, 3) := dc_182 (gB_c lq_cX12_merges q11_cX12_merges 18 (o := 182) rfl) (gB_c lq_cX12_merges q11_cX12_merges 19 (o := 0) rfl) (gB_c lq_cX12_merges q11_cX12_merges 20 (o := 90) rfl) rfl
theorem dX12_merges_373 : decode cX12_merges 373 = .ok (.ireturn, 1) := dc_172 (gB_c lq_cX12_merges q11_cX12_merges 21 (o := 172) rfl)
abbrev r6_cX12_minor : List Nat := [28, 172]
def a5_cX12_minor : List Nat := [6, 92, 46, 4, 21, 5, 120, 128, 79, 42, 180, 0, 44, 21, 5, 92, 46, 4, 21, 6, 120, 128, 79, 132, 6, 1, 167, 255, 173, 167, 255, 119]
abbrev r5_cX12_minor : List Nat := a5_cX12_minor ++ r6_cX12_minor
def a4_cX12_minor : List Nat := [180, 0, 44, 21, 6, 92, 46, 4, 21, 4, 120, 2, 130, 126, 79, 21, 7, 153, 0, 38, 21, 6, 21, 5, 159, 0, 31, 42, 180, 0, 44, 21]
abbrev r4_cX12_minor : List Nat := a4_cX12_minor ++ r5_cX12_minor
def a3_cX12_minor : List Nat := [2, 130, 126, 62, 3, 54, 6, 21, 6, 42, 27, 182, 0, 63, 162, 0, 79, 42, 180, 0, 44, 21, 4, 46, 21, 6, 184, 0, 166, 54, 7, 42]
abbrev r3_cX12_minor : List Nat := a3_cX12_minor ++ r4_cX12_minor
def a2_cX12_minor : List Nat := [42, 180, 0, 44, 21, 4, 46, 182, 1, 58, 54, 5, 28, 42, 180, 0, 44, 21, 4, 46, 184, 0, 84, 184, 0, 199, 61, 29, 4, 21, 4, 120]
abbrev r2_cX12_minor : List Nat := a2_cX12_minor ++ r3_cX12_minor
def a1_cX12_minor : List Nat := [80, 79, 132, 2, 1, 167, 255, 232, 3, 61, 4, 42, 27, 182, 0, 63, 120, 4, 100, 62, 29, 153, 0, 139, 42, 29, 182, 1, 58, 54, 4, 42]
abbrev r1_cX12_minor : List Nat := a1_cX12_minor ++ r2_cX12_minor
def a0_cX12_minor : List Nat := [42, 27, 182, 0, 67, 154, 0, 6, 16, 254, 172, 3, 61, 28, 42, 27, 182, 0, 63, 162, 0, 21, 42, 180, 0, 44, 28, 42, 27, 28, 182, 0]
abbrev r0_cX12_minor : List Nat := a0_cX12_minor ++ r1_cX12_minor
theorem lq_cX12_minor : (cX12_minor).data.toList.map UInt8.toNat = r0_cX12_minor := by decide +kernel
theorem q1_cX12_minor : ∀ i, (r0_cX12_minor)[32 + i]? = (r1_cX12_minor)[i]? := chn (A := a0_cX12_minor) (B := r1_cX12_minor) (n := 0) (k := 32) rfl (ch0 (R := r0_cX12_minor))
theorem q2_cX12_minor : ∀ i, (r0_cX12_minor)[64 + i]? = (r2_cX12_minor)[i]? := chn (A := a1_cX12_minor) (B := r2_cX12_minor) (n := 32) (k := 32) rfl q1_cX12_minor
theorem q3_cX12_minor : ∀ i, (r0_cX12_minor)[96 + i]? = (r3_cX12_minor)[i]? := chn (A := a2_cX12_minor) (B := r3_cX12_minor) (n := 64) (k := 32) rfl q2_cX12_minor
theorem q4_cX12_minor : ∀ i, (r0_cX12_minor)[128 + i]? = (r4_cX12_minor)[i]? := chn (A := a3_cX12_minor) (B := r4_cX12_minor) (n := 96) (k := 32) rfl q3_cX12_minor
theorem q5_cX12_minor : ∀ i, (r0_cX12_minor)[160 + i]? = (r5_cX12_minor)[i]? := chn (A := a4_cX12_minor) (B := r5_cX12_minor) (n := 128) (k := 32) rfl q4_cX12_minor
theorem q6_cX12_minor : ∀ i, (r0_cX12_minor)[192 + i]? = (r6_cX12_minor)[i]? := chn (A := a5_cX12_minor) (B := r6_cX12_minor) (n := 160) (k := 32) rfl q5_cX12_minor
theorem dX12_minor_0 : decode cX12_minor 0 = .ok (.aload_n 0, 1) := dc_42 (gB_l lq_cX12_minor (p := 0) (o := 42) rfl)
theorem dX12_minor_1 : decode cX12_minor 1 = .ok (.iload_n 1, 1) := dc_27 (gB_l lq_cX12_minor (p := 1) (o := 27) rfl)
theorem dX12_minor_2 : decode cX12_minor 2 = .ok (.invokevirtual 67, 3) := dc_182 (gB_l lq_cX12_minor (p := 2) (o := 182) rfl) (gB_l lq_cX12_minor (p := 3) (o := 0) rfl) (gB_l lq_cX12_minor (p := 4) (o := 67) rfl) rfl
theorem dX12_minor_5 : decode cX12_minor 5 = .ok (.ifCond .ne 6, 3) := dc_154 (gB_l lq_cX12_minor (p := 5) (o := 154) rfl) (gB_l lq_cX12_minor (p := 6) (o := 0) rfl) (gB_l lq_cX12_minor (p := 7) (o := 6) rfl) rfl
theorem dX12_minor_8 : decode cX12_minor 8 = .ok (.bipush (-2), 2) := dc_16 (gB_l lq_cX12_minor (p := 8) (o := 16) rfl) (gB_l lq_cX12_minor (p := 9) (o := 254) rfl) rfl
theorem dX12_minor_10 : decode cX12_minor 10 = .ok (.ireturn, 1) := dc_172 (gB_l lq_cX12_minor (p := 10) (o := 172) rfl)
theorem dX12_minor_11 : decode cX12_minor 11 = .ok (.iconst 0, 1) := dc_3 (gB_l lq_cX12_minor (p := 11) (o := 3) rfl)
theorem dX12_minor_12 : decode cX12_minor 12 = .ok (.istore_n 2, 1) := dc_61 (gB_l lq_cX12_minor (p := 12) (o := 61) rfl)
theorem dX12_minor_13 : decode cX12_minor 13 = .ok (.iload_n 2, 1) := dc_28 (gB_l lq_cX12_minor (p := 13) (o := 28) rfl)
theorem dX12_minor_14 : decode cX12_minor 14 = .ok (.aload_n 0, 1) := dc_42 (gB_l lq_cX12_minor (p := 14) (o := 42) rfl)
theorem dX12_minor_15 : decode cX12_minor 15 = .ok (.iload_n 1, 1) := dc_27 (gB_l lq_cX12_minor (p := 15) (o := 27) rfl)
theorem dX12_minor_16 : decode cX12_minor 16 = .ok (.invokevirtual 63, 3) := dc_182 (gB_l lq_cX12_minor (p := 16) (o := 182) rfl) (gB_l lq_cX12_minor (p := 17) (o := 0) rfl) (gB_l lq_cX12_minor (p := 18) (o := 63) rfl) rfl
theorem dX12_minor_19 : decode cX12_minor 19 = .ok (.if_icmp .ge 21, 3) := dc_162 (gB_l lq_cX12_minor (p := 19) (o := 162) rfl) (gB_l lq_cX12_minor (p := 20) (o := 0) rfl) (gB_l lq_cX12_minor (p := 21) (o := 21) rfl) rfl
theorem dX12_minor_22 : decode cX12_minor 22 = .ok (.aload_n 0, 1) := dc_42 (gB_l lq_cX12_minor (p := 22) (o := 42) rfl)
theorem dX12_minor_23 : decode cX12_minor 23 = .ok (.getfield 44, 3) := dc_180 (gB_l lq_cX12_minor (p := 23) (o := 180) rfl) (gB_l lq_cX12_minor (p := 24) (o := 0) rfl) (gB_l lq_cX12_minor (p := 25) (o := 44) rfl) rfl
theorem dX12_minor_26 : decode cX12_minor 26 = .ok (.iload_n 2, 1) := dc_28 (gB_l lq_cX12_minor (p := 26) (o := 28) rfl)
theorem dX12_minor_27 : decode cX12_minor 27 = .ok (.aload_n 0, 1) := dc_42 (gB_l lq_cX12_minor (p := 27) (o := 42) rfl)
theorem dX12_minor_28 : decode cX12_minor 28 = .ok (.iload_n 1, 1) := dc_27 (gB_l lq_cX12_minor (p := 28) (o := 27) rfl)
theorem dX12_minor_29 : decode cX12_minor 29 = .ok (.iload_n 2, 1) := dc_28 (gB_l lq_cX12_minor (p := 29) (o := 28) rfl)
theorem dX12_minor_30 : decode cX12_minor 30 = .ok (.invokevirtual 80, 3) := dc_182 (gB_l lq_cX12_minor (p := 30) (o := 182) rfl) (gB_l lq_cX12_minor (p := 31) (o := 0) rfl) (gB_c lq_cX12_minor q1_cX12_minor 0 (o := 80) rfl) rfl
theorem dX12_minor_33 : decode cX12_minor 33 = .ok (.iastore, 1) := dc_79 (gB_c lq_cX12_minor q1_cX12_minor 1 (o := 79) rfl)
theorem dX12_minor_34 : decode cX12_minor 34 = .ok (.iinc 2 1, 3) := dc_132 (gB_c lq_cX12_minor q1_cX12_minor 2 (o := 132) rfl) (gB_c lq_cX12_minor q1_cX12_minor 3 (o := 2) rfl) (gB_c lq_cX12_minor q1_cX12_minor 4 (o := 1) rfl) rfl
theorem dX12_minor_37 : decode cX12_minor 37 = .ok (.goto (-24), 3) := dc_167 (gB_c lq_cX12_minor q1_cX12_minor 5 (o := 167) rfl) (gB_c lq_cX12_minor q1_cX12_minor 6 (o := 255) rfl) (gB_c lq_cX12_minor q1_cX12_minor 7 (o := 232) rfl) rfl
theorem dX12_minor_40 : decode cX12_minor 40 = .ok (.iconst 0, 1) := dc_3 (gB_c lq_cX12_minor q1_cX12_minor 8 (o := 3) rfl)
theorem dX12_minor_41 : decode cX12_minor 41 = .ok (.istore_n 2, 1) := dc_61 (gB_c lq_cX12_minor q1_cX12_minor 9 (o := 61) rfl)
theorem dX12_minor_42 : decode cX12_minor 42 = .ok (.iconst 1, 1) := dc_4 (gB_c lq_cX12_minor q1_cX12_minor 10 (o := 4) rfl)
theorem dX12_minor_43 : decode cX12_minor 43 = .ok (.aload_n 0, 1) := dc_42 (gB_c lq_cX12_minor q1_cX12_minor 11 (o := 42) rfl)
theorem dX12_minor_44 : decode cX12_minor 44 = .ok (.iload_n 1, 1) := dc_27 (gB_c lq_cX12_minor q1_cX12_minor 12 (o := 27) rfl)
theorem dX12_minor_45 : decode cX12_minor 45 = .ok (.invokevirtual 63, 3) := dc_182 (gB_c lq_cX12_minor q1_cX12_minor 13 (o := 182) rfl) (gB_c lq_cX12_minor q1_cX12_minor 14 (o := 0) rfl) (gB_c lq_cX12_minor q1_cX12_minor 15 (o := 63) rfl) rfl
theorem dX12_minor_48 : decode cX12_minor 48 = .ok (.ishl, 1) := dc_120 (gB_c lq_cX12_minor q1_cX12_minor 16 (o := 120) rfl)
theorem dX12_minor_49 : decode cX12_minor 49 = .ok (.iconst 1, 1) := dc_4 (gB_c lq_cX12_minor q1_cX12_minor 17 (o := 4) rfl)
theorem dX12_minor_50 : decode cX12_minor 50 = .ok (.isub, 1) := dc_100 (gB_c lq_cX12_minor q1_cX12_minor 18 (o := 100) rfl)
theorem dX12_minor_51 : decode cX12_minor 51 = .ok (.istore_n 3, 1) := dc_62 (gB_c lq_cX12_minor q1_cX12_minor 19 (o := 62) rfl)
theorem dX12_minor_52 : decode cX12_minor 52 = .ok (.iload_n 3, 1) := dc_29 (gB_c lq_cX12_minor q1_cX12_minor 20 (o := 29) rfl)
theorem dX12_minor_53 : decode cX12_minor 53 = .ok (.ifCond .eq 139, 3) := dc_153 (gB_c lq_cX12_minor q1_cX12_minor 21 (o := 153) rfl) (gB_c lq_cX12_minor q1_cX12_minor 22 (o := 0) rfl) (gB_c lq_cX12_minor q1_cX12_minor 23 (o := 139) rfl) rfl
theorem dX12_minor_56 : decode cX12_minor 56 = .ok (.aload_n 0, 1) := dc_42 (gB_c lq_cX12_minor q1_cX12_minor 24 (o := 42) rfl)
theorem dX12_minor_57 : decode cX12_minor 57 = .ok (.iload_n 3, 1) := dc_29 (gB_c lq_cX12_minor q1_cX12_minor 25 (o := 29) rfl)
theorem dX12_minor_58 : decode cX12_minor 58 = .ok (.invokevirtual 314, 3) := dc_182 (gB_c lq_cX12_minor q1_cX12_minor 26 (o := 182) rfl) (gB_c lq_cX12_minor q1_cX12_minor 27 (o := 1) rfl) (gB_c lq_cX12_minor q1_cX12_minor 28 (o := 58) rfl) rfl
theorem dX12_minor_61 : decode cX12_minor 61 = .ok (.istore 4, 2) := dc_54 (gB_c lq_cX12_minor q1_cX12_minor 29 (o := 54) rfl) (gB_c lq_cX12_minor q1_cX12_minor 30 (o := 4) rfl)
theorem dX12_minor_63 : decode cX12_minor 63 = .ok (.aload_n 0, 1) := dc_42 (gB_c lq_cX12_minor q1_cX12_minor 31 (o := 42) rfl)
theorem dX12_minor_64 : decode cX12_minor 64 = .ok (.aload_n 0, 1) := dc_42 (gB_c lq_cX12_minor q2_cX12_minor 0 (o := 42) rfl)
theorem dX12_minor_65 : decode cX12_minor 65 = .ok (.getfield 44, 3) := dc_180 (gB_c lq_cX12_minor q2_cX12_minor 1 (o := 180) rfl) (gB_c lq_cX12_minor q2_cX12_minor 2 (o := 0) rfl) (gB_c lq_cX12_minor q2_cX12_minor 3 (o := 44) rfl) rfl
theorem dX12_minor_68 : decode cX12_minor 68 = .ok (.iload 4, 2) := dc_21 (gB_c lq_cX12_minor q2_cX12_minor 4 (o := 21) rfl) (gB_c lq_cX12_minor q2_cX12_minor 5 (o := 4) rfl)
theorem dX12_minor_70 : decode cX12_minor 70 = .ok (.iaload, 1) := dc_46 (gB_c lq_cX12_minor q2_cX12_minor 6 (o := 46) rfl)
theorem dX12_minor_71 : decode cX12_minor 71 = .ok (.invokevirtual 314, 3) := dc_182 (gB_c lq_cX12_minor q2_cX12_minor 7 (o := 182) rfl) (gB_c lq_cX12_minor q2_cX12_minor 8 (o := 1) rfl) (gB_c lq_cX12_minor q2_cX12_minor 9 (o := 58) rfl) rfl
theorem dX12_minor_74 : decode cX12_minor 74 = .ok (.istore 5, 2) := dc_54 (gB_c lq_cX12_minor q2_cX12_minor 10 (o := 54) rfl) (gB_c lq_cX12_minor q2_cX12_minor 11 (o := 5) rfl)
theorem dX12_minor_76 : decode cX12_minor 76 = .ok (.iload_n 2, 1) := dc_28 (gB_c lq_cX12_minor q2_cX12_minor 12 (o := 28) rfl)
theorem dX12_minor_77 : decode cX12_minor 77 = .ok (.aload_n 0, 1) := dc_42 (gB_c lq_cX12_minor q2_cX12_minor 13 (o := 42) rfl)
theorem dX12_minor_78 : decode cX12_minor 78 = .ok (.getfield 44, 3) := dc_180 (gB_c lq_cX12_minor q2_cX12_minor 14 (o := 180) rfl) (gB_c lq_cX12_minor q2_cX12_minor 15 (o := 0) rfl) (gB_c lq_cX12_minor q2_cX12_minor 16 (o := 44) rfl) rfl
theorem dX12_minor_81 : decode cX12_minor 81 = .ok (.iload 4, 2) := dc_21 (gB_c lq_cX12_minor q2_cX12_minor 17 (o := 21) rfl) (gB_c lq_cX12_minor q2_cX12_minor 18 (o := 4) rfl)
theorem dX12_minor_83 : decode cX12_minor 83 = .ok (.iaload, 1) := dc_46 (gB_c lq_cX12_minor q2_cX12_minor 19 (o := 46) rfl)
theorem dX12_minor_84 : decode cX12_minor 84 = .ok (.invokestatic 84, 3) := dc_184 (gB_c lq_cX12_minor q2_cX12_minor 20 (o := 184) rfl) (gB_c lq_cX12_minor q2_cX12_minor 21 (o := 0) rfl) (gB_c lq_cX12_minor q2_cX12_minor 22 (o := 84) rfl) rfl
theorem dX12_minor_87 : decode cX12_minor 87 = .ok (.invokestatic 199, 3) := dc_184 (gB_c lq_cX12_minor q2_cX12_minor 23 (o := 184) rfl) (gB_c lq_cX12_minor q2_cX12_minor 24 (o := 0) rfl) (gB_c lq_cX12_minor q2_cX12_minor 25 (o := 199) rfl) rfl
theorem dX12_minor_90 : decode cX12_minor 90 = .ok (.istore_n 2, 1) := dc_61 (gB_c lq_cX12_minor q2_cX12_minor 26 (o := 61) rfl)
theorem dX12_minor_91 : decode cX12_minor 91 = .ok (.iload_n 3, 1) := dc_29 (gB_c lq_cX12_minor q2_cX12_minor 27 (o := 29) rfl)
theorem dX12_minor_92 : decode cX12_minor 92 = .ok (.iconst 1, 1) := dc_4 (gB_c lq_cX12_minor q2_cX12_minor 28 (o := 4) rfl)
theorem dX12_minor_93 : decode cX12_minor 93 = .ok (.iload 4, 2) := dc_21 (gB_c lq_cX12_minor q2_cX12_minor 29 (o := 21) rfl) (gB_c lq_cX12_minor q2_cX12_minor 30 (o := 4) rfl)
theorem dX12_minor_95 : decode cX12_minor 95 = .ok (.ishl, 1) := dc_120 (gB_c lq_cX12_minor q2_cX12_minor 31 (o := 120) rfl)
theorem dX12_minor_96 : decode cX12_minor 96 = .ok (.iconst (-1), 1) := dc_2 (gB_c lq_cX12_minor q3_cX12_minor 0 (o := 2) rfl)
theorem dX12_minor_97 : decode cX12_minor 97 = .ok (.ixor, 1) := dc_130 (gB_c lq_cX12_minor q3_cX12_minor 1 (o := 130) rfl)
theorem dX12_minor_98 : decode cX12_minor 98 = .ok (.iand, 1) := dc_126 (gB_c lq_cX12_minor q3_cX12_minor 2 (o := 126) rfl)
theorem dX12_minor_99 : decode cX12_minor 99 = .ok (.istore_n 3, 1) := dc_62 (gB_c lq_cX12_minor q3_cX12_minor 3 (o := 62) rfl)
theorem dX12_minor_100 : decode cX12_minor 100 = .ok (.iconst 0, 1) := dc_3 (gB_c lq_cX12_minor q3_cX12_minor 4 (o := 3) rfl)
theorem dX12_minor_101 : decode cX12_minor 101 = .ok (.istore 6, 2) := dc_54 (gB_c lq_cX12_minor q3_cX12_minor 5 (o := 54) rfl) (gB_c lq_cX12_minor q3_cX12_minor 6 (o := 6) rfl)
theorem dX12_minor_103 : decode cX12_minor 103 = .ok (.iload 6, 2) := dc_21 (gB_c lq_cX12_minor q3_cX12_minor 7 (o := 21) rfl) (gB_c lq_cX12_minor q3_cX12_minor 8 (o := 6) rfl)
theorem dX12_minor_105 : decode cX12_minor 105 = .ok (.aload_n 0, 1) := dc_42 (gB_c lq_cX12_minor q3_cX12_minor 9 (o := 42) rfl)
theorem dX12_minor_106 : decode cX12_minor 106 = .ok (.iload_n 1, 1) := dc_27 (gB_c lq_cX12_minor q3_cX12_minor 10 (o := 27) rfl)
theorem dX12_minor_107 : decode cX12_minor 107 = .ok (.invokevirtual 63, 3) := dc_182 (gB_c lq_cX12_minor q3_cX12_minor 11 (o := 182) rfl) (gB_c lq_cX12_minor q3_cX12_minor 12 (o := 0) rfl) (gB_c lq_cX12_minor q3_cX12_minor 13 (o := 63) rfl) rfl
theorem dX12_minor_110 : decode cX12_minor 110 = .ok (.if_icmp .ge 79, 3) := dc_162 (gB_c lq_cX12_minor q3_cX12_minor 14 (o := 162) rfl) (gB_c lq_cX12_minor q3_cX12_minor 15 (o := 0) rfl) (gB_c lq_cX12_minor q3_cX12_minor 16 (o := 79) rfl) rfl
theorem dX12_minor_113 : decode cX12_minor 113 = .ok (.aload_n 0, 1) := dc_42 (gB_c lq_cX12_minor q3_cX12_minor 17 (o := 42) rfl)
theorem dX12_minor_114 : decode cX12_minor 114 = .ok (.getfield 44, 3) := dc_180 (gB_c lq_cX12_minor q3_cX12_minor 18 (o := 180) rfl) (gB_c lq_cX12_minor q3_cX12_minor 19 (o := 0) rfl) (gB_c lq_cX12_minor q3_cX12_minor 20 (o := 44) rfl) rfl
theorem dX12_minor_117 : decode cX12_minor 117 = .ok (.iload 4, 2) := dc_21 (gB_c lq_cX12_minor q3_cX12_minor 21 (o := 21) rfl) (gB_c lq_cX12_minor q3_cX12_minor 22 (o := 4) rfl)
theorem dX12_minor_119 : decode cX12_minor 119 = .ok (.iaload, 1) := dc_46 (gB_c lq_cX12_minor q3_cX12_minor 23 (o := 46) rfl)
theorem dX12_minor_120 : decode cX12_minor 120 = .ok (.iload 6, 2) := dc_21 (gB_c lq_cX12_minor q3_cX12_minor 24 (o := 21) rfl) (gB_c lq_cX12_minor q3_cX12_minor 25 (o := 6) rfl)
theorem dX12_minor_122 : decode cX12_minor 122 = .ok (.invokestatic 166, 3) := dc_184 (gB_c lq_cX12_minor q3_cX12_minor 26 (o := 184) rfl) (gB_c lq_cX12_minor q3_cX12_minor 27 (o := 0) rfl) (gB_c lq_cX12_minor q3_cX12_minor 28 (o := 166) rfl) rfl
theorem dX12_minor_125 : decode cX12_minor 125 = .ok (.istore 7, 2) := dc_54 (gB_c lq_cX12_minor q3_cX12_minor 29 (o := 54) rfl) (gB_c lq_cX12_minor q3_cX12_minor 30 (o := 7) rfl)
theorem dX12_minor_127 : decode cX12_minor 127 = .ok (.aload_n 0, 1) := dc_42 (gB_c lq_cX12_minor q3_cX12_minor 31 (o := 42) rfl)
theorem dX12_minor_128 : decode cX12_minor 128 = .ok (.getfield 44, 3) := dc_180 (gB_c lq_cX12_minor q4_cX12_minor 0 (o := 180) rfl) (gB_c lq_cX12_minor q4_cX12_minor 1 (o := 0) rfl) (gB_c lq_cX12_minor q4_cX12_minor 2 (o := 44) rfl) rfl
theorem dX12_minor_131 : decode cX12_minor 131 = .ok (.iload 6, 2) := dc_21 (gB_c lq_cX12_minor q4_cX12_minor 3 (o := 21) rfl) (gB_c lq_cX12_minor q4_cX12_minor 4 (o := 6) rfl)
theorem dX12_minor_133 : decode cX12_minor 133 = .ok (.dup2, 1) := dc_92 (gB_c lq_cX12_minor q4_cX12_minor 5 (o := 92) rfl)
theorem dX12_minor_134 : decode cX12_minor 134 = .ok (.iaload, 1) := dc_46 (gB_c lq_cX12_minor q4_cX12_minor 6 (o := 46) rfl)
theorem dX12_minor_135 : decode cX12_minor 135 = .ok (.iconst 1, 1) := dc_4 (gB_c lq_cX12_minor q4_cX12_minor 7 (o := 4) rfl)
theorem dX12_minor_136 : decode cX12_minor 136 = .ok (.iload 4, 2) := dc_21 (gB_c lq_cX12_minor q4_cX12_minor 8 (o := 21) rfl) (gB_c lq_cX12_minor q4_cX12_minor 9 (o := 4) rfl)
theorem dX12_minor_138 : decode cX12_minor 138 = .ok (.ishl, 1) := dc_120 (gB_c lq_cX12_minor q4_cX12_minor 10 (o := 120) rfl)
theorem dX12_minor_139 : decode cX12_minor 139 = .ok (.iconst (-1), 1) := dc_2 (gB_c lq_cX12_minor q4_cX12_minor 11 (o := 2) rfl)
theorem dX12_minor_140 : decode cX12_minor 140 = .ok (.ixor, 1) := dc_130 (gB_c lq_cX12_minor q4_cX12_minor 12 (o := 130) rfl)
theorem dX12_minor_141 : decode cX12_minor 141 = .ok (.iand, 1) := dc_126 (gB_c lq_cX12_minor q4_cX12_minor 13 (o := 126) rfl)
theorem dX12_minor_142 : decode cX12_minor 142 = .ok (.iastore, 1) := dc_79 (gB_c lq_cX12_minor q4_cX12_minor 14 (o := 79) rfl)
theorem dX12_minor_143 : decode cX12_minor 143 = .ok (.iload 7, 2) := dc_21 (gB_c lq_cX12_minor q4_cX12_minor 15 (o := 21) rfl) (gB_c lq_cX12_minor q4_cX12_minor 16 (o := 7) rfl)
theorem dX12_minor_145 : decode cX12_minor 145 = .ok (.ifCond .eq 38, 3) := dc_153 (gB_c lq_cX12_minor q4_cX12_minor 17 (o := 153) rfl) (gB_c lq_cX12_minor q4_cX12_minor 18 (o := 0) rfl) (gB_c lq_cX12_minor q4_cX12_minor 19 (o := 38) rfl) rfl
theorem dX12_minor_148 : decode cX12_minor 148 = .ok (.iload 6, 2) := dc_21 (gB_c lq_cX12_minor q4_cX12_minor 20 (o := 21) rfl) (gB_c lq_cX12_minor q4_cX12_minor 21 (o := 6) rfl)
theorem dX12_minor_150 : decode cX12_minor 150 = .ok (.iload 5, 2) := dc_21 (gB_c lq_cX12_minor q4_cX12_minor 22 (o := 21) rfl) (gB_c lq_cX12_minor q4_cX12_minor 23 (o := 5) rfl)
theorem dX12_minor_152 : decode cX12_minor 152 = .ok (.if_icmp .eq 31, 3) := dc_159 (gB_c lq_cX12_minor q4_cX12_minor 24 (o := 159) rfl) (gB_c lq_cX12_minor q4_cX12_minor 25 (o := 0) rfl) (gB_c lq_cX12_minor q4_cX12_minor 26 (o := 31) rfl) rfl
theorem dX12_minor_155 : decode cX12_minor 155 = .ok (.aload_n 0, 1) := dc_42 (gB_c lq_cX12_minor q4_cX12_minor 27 (o := 42) rfl)
theorem dX12_minor_156 : decode cX12_minor 156 = .ok (.getfield 44, 3) := dc_180 (gB_c lq_cX12_minor q4_cX12_minor 28 (o := 180) rfl) (gB_c lq_cX12_minor q4_cX12_minor 29 (o := 0) rfl) (gB_c lq_cX12_minor q4_cX12_minor 30 (o := 44) rfl) rfl
theorem dX12_minor_159 : decode cX12_minor 159 = .ok (.iload 6, 2) := dc_21 (gB_c lq_cX12_minor q4_cX12_minor 31 (o := 21) rfl) (gB_c lq_cX12_minor q5_cX12_minor 0 (o := 6) rfl)
theorem dX12_minor_161 : decode cX12_minor 161 = .ok (.dup2, 1) := dc_92 (gB_c lq_cX12_minor q5_cX12_minor 1 (o := 92) rfl)
theorem dX12_minor_162 : decode cX12_minor 162 = .ok (.iaload, 1) := dc_46 (gB_c lq_cX12_minor q5_cX12_minor 2 (o := 46) rfl)
theorem dX12_minor_163 : decode cX12_minor 163 = .ok (.iconst 1, 1) := dc_4 (gB_c lq_cX12_minor q5_cX12_minor 3 (o := 4) rfl)
theorem dX12_minor_164 : decode cX12_minor 164 = .ok (.iload 5, 2) := dc_21 (gB_c lq_cX12_minor q5_cX12_minor 4 (o := 21) rfl) (gB_c lq_cX12_minor q5_cX12_minor 5 (o := 5) rfl)
theorem dX12_minor_166 : decode cX12_minor 166 = .ok (.ishl, 1) := dc_120 (gB_c lq_cX12_minor q5_cX12_minor 6 (o := 120) rfl)
theorem dX12_minor_167 : decode cX12_minor 167 = .ok (.ior, 1) := dc_128 (gB_c lq_cX12_minor q5_cX12_minor 7 (o := 128) rfl)
theorem dX12_minor_168 : decode cX12_minor 168 = .ok (.iastore, 1) := dc_79 (gB_c lq_cX12_minor q5_cX12_minor 8 (o := 79) rfl)
theorem dX12_minor_169 : decode cX12_minor 169 = .ok (.aload_n 0, 1) := dc_42 (gB_c lq_cX12_minor q5_cX12_minor 9 (o := 42) rfl)
theorem dX12_minor_170 : decode cX12_minor 170 = .ok (.getfield 44, 3) := dc_180 (gB_c lq_cX12_minor q5_cX12_minor 10 (o := 180) rfl) (gB_c lq_cX12_minor q5_cX12_minor 11 (o := 0) rfl) (gB_c lq_cX12_minor q5_cX12_minor 12 (o := 44) rfl) rfl
theorem dX12_minor_173 : decode cX12_minor 173 = .ok (.iload 5, 2) := dc_21 (gB_c lq_cX12_minor q5_cX12_minor 13 (o := 21) rfl) (gB_c lq_cX12_minor q5_cX12_minor 14 (o := 5) rfl)
theorem dX12_minor_175 : decode cX12_minor 175 = .ok (.dup2, 1) := dc_92 (gB_c lq_cX12_minor q5_cX12_minor 15 (o := 92) rfl)
theorem dX12_minor_176 : decode cX12_minor 176 = .ok (.iaload, 1) := dc_46 (gB_c lq_cX12_minor q5_cX12_minor 16 (o := 46) rfl)
theorem dX12_minor_177 : decode cX12_minor 177 = .ok (.iconst 1, 1) := dc_4 (gB_c lq_cX12_minor q5_cX12_minor 17 (o := 4) rfl)
theorem dX12_minor_178 : decode cX12_minor 178 = .ok (.iload 6, 2) := dc_21 (gB_c lq_cX12_minor q5_cX12_minor 18 (o := 21) rfl) (gB_c lq_cX12_minor q5_cX12_minor 19 (o := 6) rfl)
theorem dX12_minor_180 : decode cX12_minor 180 = .ok (.ishl, 1) := dc_120 (gB_c lq_cX12_minor q5_cX12_minor 20 (o := 120) rfl)
theorem dX12_minor_181 : decode cX12_minor 181 = .ok (.ior, 1) := dc_128 (gB_c lq_cX12_minor q5_cX12_minor 21 (o := 128) rfl)
theorem dX12_minor_182 : decode cX12_minor 182 = .ok (.iastore, 1) := dc_79 (gB_c lq_cX12_minor q5_cX12_minor 22 (o := 79) rfl)
theorem dX12_minor_183 : decode cX12_minor 183 = .ok (.iinc 6 1, 3) := dc_132 (gB_c lq_cX12_minor q5_cX12_minor 23 (o := 132) rfl) (gB_c lq_cX12_minor q5_cX12_minor 24 (o := 6) rfl) (gB_c lq_cX12_minor q5_cX12_minor 25 (o := 1) rfl) rfl
theorem dX12_minor_186 : decode cX12_minor 186 = .ok (.goto (-83), 3) := dc_167 (gB_c lq_cX12_minor q5_cX12_minor 26 (o := 167) rfl) (gB_c lq_cX12_minor q5_cX12_minor 27 (o := 255) rfl) (gB_c lq_cX12_minor q5_cX12_minor 28 (o := 173) rfl) rfl
theorem dX12_minor_189 : decode cX12_minor 189 = .ok (.goto (-137), 3) := dc_167 (gB_c lq_cX12_minor q5_cX12_minor 29 (o := 167) rfl) (gB_c lq_cX12_minor q5_cX12_minor 30 (o := 255) rfl) (gB_c lq_cX12_minor q5_cX12_minor 31 (o := 119) rfl) rfl
theorem dX12_minor_192 : decode cX12_minor 192 = .ok (.iload_n 2, 1) := dc_28 (gB_c lq_cX12_minor q6_cX12_minor 0 (o := 28) rfl)
theorem dX12_minor_193 : decode cX12_minor 193 = .ok (.ireturn, 1) := dc_172 (gB_c lq_cX12_minor q6_cX12_minor 1 (o := 172) rfl)
abbrev r2_cX12_moves : List Nat := [5, 167, 255, 232, 42, 27, 182, 1, 64, 54, 5, 42, 27, 29, 182, 0, 217, 172]
def a1_cX12_moves : List Nat := [167, 0, 4, 2, 54, 4, 28, 54, 5, 21, 5, 29, 159, 0, 24, 42, 21, 5, 21, 5, 21, 4, 96, 182, 1, 61, 21, 5, 21, 4, 96, 54]
abbrev r1_cX12_moves : List Nat := a1_cX12_moves ++ r2_cX12_moves
def a0_cX12_moves : List Nat := [42, 27, 28, 182, 0, 70, 153, 0, 12, 42, 27, 29, 182, 0, 70, 154, 0, 6, 16, 254, 172, 42, 27, 182, 0, 248, 28, 29, 162, 0, 7, 4]
abbrev r0_cX12_moves : List Nat := a0_cX12_moves ++ r1_cX12_moves
theorem lq_cX12_moves : (cX12_moves).data.toList.map UInt8.toNat = r0_cX12_moves := by decide +kernel
theorem q1_cX12_moves : ∀ i, (r0_cX12_moves)[32 + i]? = (r1_cX12_moves)[i]? := chn (A := a0_cX12_moves) (B := r1_cX12_moves) (n := 0) (k := 32) rfl (ch0 (R := r0_cX12_moves))
theorem q2_cX12_moves : ∀ i, (r0_cX12_moves)[64 + i]? = (r2_cX12_moves)[i]? := chn (A := a1_cX12_moves) (B := r2_cX12_moves) (n := 32) (k := 32) rfl q1_cX12_moves
theorem dX12_moves_0 : decode cX12_moves 0 = .ok (.aload_n 0, 1) := dc_42 (gB_l lq_cX12_moves (p := 0) (o := 42) rfl)
theorem dX12_moves_1 : decode cX12_moves 1 = .ok (.iload_n 1, 1) := dc_27 (gB_l lq_cX12_moves (p := 1) (o := 27) rfl)
theorem dX12_moves_2 : decode cX12_moves 2 = .ok (.iload_n 2, 1) := dc_28 (gB_l lq_cX12_moves (p := 2) (o := 28) rfl)
theorem dX12_moves_3 : decode cX12_moves 3 = .ok (.invokevirtual 70, 3) := dc_182 (gB_l lq_cX12_moves (p := 3) (o := 182) rfl) (gB_l lq_cX12_moves (p := 4) (o := 0) rfl) (gB_l lq_cX12_moves (p := 5) (o := 70) rfl) rfl
theorem dX12_moves_6 : decode cX12_moves 6 = .ok (.ifCond .eq 12, 3) := dc_153 (gB_l lq_cX12_moves (p := 6) (o := 153) rfl) (gB_l lq_cX12_moves (p := 7) (o := 0) rfl) (gB_l lq_cX12_moves (p := 8) (o := 12) rfl) rfl
theorem dX12_moves_9 : decode cX12_moves 9 = .ok (.aload_n 0, 1) := dc_42 (gB_l lq_cX12_moves (p := 9) (o := 42) rfl)
theorem dX12_moves_10 : decode cX12_moves 10 = .ok (.iload_n 1, 1) := dc_27 (gB_l lq_cX12_moves (p := 10) (o := 27) rfl)
theorem dX12_moves_11 : decode cX12_moves 11 = .ok (.iload_n 3, 1) := dc_29 (gB_l lq_cX12_moves (p := 11) (o := 29) rfl)
theorem dX12_moves_12 : decode cX12_moves 12 = .ok (.invokevirtual 70, 3) := dc_182 (gB_l lq_cX12_moves (p := 12) (o := 182) rfl) (gB_l lq_cX12_moves (p := 13) (o := 0) rfl) (gB_l lq_cX12_moves (p := 14) (o := 70) rfl) rfl
theorem dX12_moves_15 : decode cX12_moves 15 = .ok (.ifCond .ne 6, 3) := dc_154 (gB_l lq_cX12_moves (p := 15) (o := 154) rfl) (gB_l lq_cX12_moves (p := 16) (o := 0) rfl) (gB_l lq_cX12_moves (p := 17) (o := 6) rfl) rfl
theorem dX12_moves_18 : decode cX12_moves 18 = .ok (.bipush (-2), 2) := dc_16 (gB_l lq_cX12_moves (p := 18) (o := 16) rfl) (gB_l lq_cX12_moves (p := 19) (o := 254) rfl) rfl
theorem dX12_moves_20 : decode cX12_moves 20 = .ok (.ireturn, 1) := dc_172 (gB_l lq_cX12_moves (p := 20) (o := 172) rfl)
theorem dX12_moves_21 : decode cX12_moves 21 = .ok (.aload_n 0, 1) := dc_42 (gB_l lq_cX12_moves (p := 21) (o := 42) rfl)
theorem dX12_moves_22 : decode cX12_moves 22 = .ok (.iload_n 1, 1) := dc_27 (gB_l lq_cX12_moves (p := 22) (o := 27) rfl)
theorem dX12_moves_23 : decode cX12_moves 23 = .ok (.invokevirtual 248, 3) := dc_182 (gB_l lq_cX12_moves (p := 23) (o := 182) rfl) (gB_l lq_cX12_moves (p := 24) (o := 0) rfl) (gB_l lq_cX12_moves (p := 25) (o := 248) rfl) rfl
theorem dX12_moves_26 : decode cX12_moves 26 = .ok (.iload_n 2, 1) := dc_28 (gB_l lq_cX12_moves (p := 26) (o := 28) rfl)
theorem dX12_moves_27 : decode cX12_moves 27 = .ok (.iload_n 3, 1) := dc_29 (gB_l lq_cX12_moves (p := 27) (o := 29) rfl)
theorem dX12_moves_28 : decode cX12_moves 28 = .ok (.if_icmp .ge 7, 3) := dc_162 (gB_l lq_cX12_moves (p := 28) (o := 162) rfl) (gB_l lq_cX12_moves (p := 29) (o := 0) rfl) (gB_l lq_cX12_moves (p := 30) (o := 7) rfl) rfl
theorem dX12_moves_31 : decode cX12_moves 31 = .ok (.iconst 1, 1) := dc_4 (gB_l lq_cX12_moves (p := 31) (o := 4) rfl)
theorem dX12_moves_32 : decode cX12_moves 32 = .ok (.goto 4, 3) := dc_167 (gB_c lq_cX12_moves q1_cX12_moves 0 (o := 167) rfl) (gB_c lq_cX12_moves q1_cX12_moves 1 (o := 0) rfl) (gB_c lq_cX12_moves q1_cX12_moves 2 (o := 4) rfl) rfl
theorem dX12_moves_35 : decode cX12_moves 35 = .ok (.iconst (-1), 1) := dc_2 (gB_c lq_cX12_moves q1_cX12_moves 3 (o := 2) rfl)
theorem dX12_moves_36 : decode cX12_moves 36 = .ok (.istore 4, 2) := dc_54 (gB_c lq_cX12_moves q1_cX12_moves 4 (o := 54) rfl) (gB_c lq_cX12_moves q1_cX12_moves 5 (o := 4) rfl)
theorem dX12_moves_38 : decode cX12_moves 38 = .ok (.iload_n 2, 1) := dc_28 (gB_c lq_cX12_moves q1_cX12_moves 6 (o := 28) rfl)
theorem dX12_moves_39 : decode cX12_moves 39 = .ok (.istore 5, 2) := dc_54 (gB_c lq_cX12_moves q1_cX12_moves 7 (o := 54) rfl) (gB_c lq_cX12_moves q1_cX12_moves 8 (o := 5) rfl)
theorem dX12_moves_41 : decode cX12_moves 41 = .ok (.iload 5, 2) := dc_21 (gB_c lq_cX12_moves q1_cX12_moves 9 (o := 21) rfl) (gB_c lq_cX12_moves q1_cX12_moves 10 (o := 5) rfl)
theorem dX12_moves_43 : decode cX12_moves 43 = .ok (.iload_n 3, 1) := dc_29 (gB_c lq_cX12_moves q1_cX12_moves 11 (o := 29) rfl)
theorem dX12_moves_44 : decode cX12_moves 44 = .ok (.if_icmp .eq 24, 3) := dc_159 (gB_c lq_cX12_moves q1_cX12_moves 12 (o := 159) rfl) (gB_c lq_cX12_moves q1_cX12_moves 13 (o := 0) rfl) (gB_c lq_cX12_moves q1_cX12_moves 14 (o := 24) rfl) rfl
theorem dX12_moves_47 : decode cX12_moves 47 = .ok (.aload_n 0, 1) := dc_42 (gB_c lq_cX12_moves q1_cX12_moves 15 (o := 42) rfl)
theorem dX12_moves_48 : decode cX12_moves 48 = .ok (.iload 5, 2) := dc_21 (gB_c lq_cX12_moves q1_cX12_moves 16 (o := 21) rfl) (gB_c lq_cX12_moves q1_cX12_moves 17 (o := 5) rfl)
theorem dX12_moves_50 : decode cX12_moves 50 = .ok (.iload 5, 2) := dc_21 (gB_c lq_cX12_moves q1_cX12_moves 18 (o := 21) rfl) (gB_c lq_cX12_moves q1_cX12_moves 19 (o := 5) rfl)
theorem dX12_moves_52 : decode cX12_moves 52 = .ok (.iload 4, 2) := dc_21 (gB_c lq_cX12_moves q1_cX12_moves 20 (o := 21) rfl) (gB_c lq_cX12_moves q1_cX12_moves 21 (o := 4) rfl)
theorem dX12_moves_54 : decode cX12_moves 54 = .ok (.iadd, 1) := dc_96 (gB_c lq_cX12_moves q1_cX12_moves 22 (o := 96) rfl)
theorem dX12_moves_55 : decode cX12_moves 55 = .ok (.invokevirtual 317, 3) := dc_182 (gB_c lq_cX12_moves q1_cX12_moves 23 (o := 182) rfl) (gB_c lq_cX12_moves q1_cX12_moves 24 (o := 1) rfl) (gB_c lq_cX12_moves q1_cX12_moves 25 (o := 61) rfl) rfl
theorem dX12_moves_58 : decode cX12_moves 58 = .ok (.iload 5, 2) := dc_21 (gB_c lq_cX12_moves q1_cX12_moves 26 (o := 21) rfl) (gB_c lq_cX12_moves q1_cX12_moves 27 (o := 5) rfl)
theorem dX12_moves_60 : decode cX12_moves 60 = .ok (.iload 4, 2) := dc_21 (gB_c lq_cX12_moves q1_cX12_moves 28 (o := 21) rfl) (gB_c lq_cX12_moves q1_cX12_moves 29 (o := 4) rfl)
theorem dX12_moves_62 : decode cX12_moves 62 = .ok (.iadd, 1) := dc_96 (gB_c lq_cX12_moves q1_cX12_moves 30 (o := 96) rfl)
theorem dX12_moves_63 : decode cX12_moves 63 = .ok (.istore 5, 2) := dc_54 (gB_c lq_cX12_moves q1_cX12_moves 31 (o := 54) rfl) (gB_c lq_cX12_moves q2_cX12_moves 0 (o := 5) rfl)
theorem dX12_moves_65 : decode cX12_moves 65 = .ok (.goto (-24), 3) := dc_167 (gB_c lq_cX12_moves q2_cX12_moves 1 (o := 167) rfl) (gB_c lq_cX12_moves q2_cX12_moves 2 (o := 255) rfl) (gB_c lq_cX12_moves q2_cX12_moves 3 (o := 232) rfl) rfl
theorem dX12_moves_68 : decode cX12_moves 68 = .ok (.aload_n 0, 1) := dc_42 (gB_c lq_cX12_moves q2_cX12_moves 4 (o := 42) rfl)
theorem dX12_moves_69 : decode cX12_moves 69 = .ok (.iload_n 1, 1) := dc_27 (gB_c lq_cX12_moves q2_cX12_moves 5 (o := 27) rfl)
theorem dX12_moves_70 : decode cX12_moves 70 = .ok (.invokevirtual 320, 3) := dc_182 (gB_c lq_cX12_moves q2_cX12_moves 6 (o := 182) rfl) (gB_c lq_cX12_moves q2_cX12_moves 7 (o := 1) rfl) (gB_c lq_cX12_moves q2_cX12_moves 8 (o := 64) rfl) rfl
theorem dX12_moves_73 : decode cX12_moves 73 = .ok (.istore 5, 2) := dc_54 (gB_c lq_cX12_moves q2_cX12_moves 9 (o := 54) rfl) (gB_c lq_cX12_moves q2_cX12_moves 10 (o := 5) rfl)
theorem dX12_moves_75 : decode cX12_moves 75 = .ok (.aload_n 0, 1) := dc_42 (gB_c lq_cX12_moves q2_cX12_moves 11 (o := 42) rfl)
theorem dX12_moves_76 : decode cX12_moves 76 = .ok (.iload_n 1, 1) := dc_27 (gB_c lq_cX12_moves q2_cX12_moves 12 (o := 27) rfl)
theorem dX12_moves_77 : decode cX12_moves 77 = .ok (.iload_n 3, 1) := dc_29 (gB_c lq_cX12_moves q2_cX12_moves 13 (o := 29) rfl)
theorem dX12_moves_78 : decode cX12_moves 78 = .ok (.invokevirtual 217, 3) := dc_182 (gB_c lq_cX12_moves q2_cX12_moves 14 (o := 182) rfl) (gB_c lq_cX12_moves q2_cX12_moves 15 (o := 0) rfl) (gB_c lq_cX12_moves q2_cX12_moves 16 (o := 217) rfl) rfl
theorem dX12_moves_81 : decode cX12_moves 81 = .ok (.ireturn, 1) := dc_172 (gB_c lq_cX12_moves q2_cX12_moves 17 (o := 172) rfl)
abbrev r0_cX12_must : List Nat := [27, 154, 0, 8, 42, 4, 182, 0, 143, 42, 182, 0, 146, 177]
theorem lq_cX12_must : (cX12_must).data.toList.map UInt8.toNat = r0_cX12_must := by decide +kernel
theorem dX12_must_0 : decode cX12_must 0 = .ok (.iload_n 1, 1) := dc_27 (gB_l lq_cX12_must (p := 0) (o := 27) rfl)
theorem dX12_must_1 : decode cX12_must 1 = .ok (.ifCond .ne 8, 3) := dc_154 (gB_l lq_cX12_must (p := 1) (o := 154) rfl) (gB_l lq_cX12_must (p := 2) (o := 0) rfl) (gB_l lq_cX12_must (p := 3) (o := 8) rfl) rfl
theorem dX12_must_4 : decode cX12_must 4 = .ok (.aload_n 0, 1) := dc_42 (gB_l lq_cX12_must (p := 4) (o := 42) rfl)
theorem dX12_must_5 : decode cX12_must 5 = .ok (.iconst 1, 1) := dc_4 (gB_l lq_cX12_must (p := 5) (o := 4) rfl)
theorem dX12_must_6 : decode cX12_must 6 = .ok (.invokevirtual 143, 3) := dc_182 (gB_l lq_cX12_must (p := 6) (o := 182) rfl) (gB_l lq_cX12_must (p := 7) (o := 0) rfl) (gB_l lq_cX12_must (p := 8) (o := 143) rfl) rfl
theorem dX12_must_9 : decode cX12_must 9 = .ok (.aload_n 0, 1) := dc_42 (gB_l lq_cX12_must (p := 9) (o := 42) rfl)
theorem dX12_must_10 : decode cX12_must 10 = .ok (.invokevirtual 146, 3) := dc_182 (gB_l lq_cX12_must (p := 10) (o := 182) rfl) (gB_l lq_cX12_must (p := 11) (o := 0) rfl) (gB_l lq_cX12_must (p := 12) (o := 146) rfl) rfl
theorem dX12_must_13 : decode cX12_must 13 = .ok (.return_, 1) := dc_177 (gB_l lq_cX12_must (p := 13) (o := 177) rfl)
abbrev r0_cX12_near : List Nat := [42, 27, 28, 182, 0, 70, 153, 0, 12, 42, 27, 28, 182, 0, 80, 167, 0, 5, 16, 254, 172]
theorem lq_cX12_near : (cX12_near).data.toList.map UInt8.toNat = r0_cX12_near := by decide +kernel
theorem dX12_near_0 : decode cX12_near 0 = .ok (.aload_n 0, 1) := dc_42 (gB_l lq_cX12_near (p := 0) (o := 42) rfl)
theorem dX12_near_1 : decode cX12_near 1 = .ok (.iload_n 1, 1) := dc_27 (gB_l lq_cX12_near (p := 1) (o := 27) rfl)
theorem dX12_near_2 : decode cX12_near 2 = .ok (.iload_n 2, 1) := dc_28 (gB_l lq_cX12_near (p := 2) (o := 28) rfl)
theorem dX12_near_3 : decode cX12_near 3 = .ok (.invokevirtual 70, 3) := dc_182 (gB_l lq_cX12_near (p := 3) (o := 182) rfl) (gB_l lq_cX12_near (p := 4) (o := 0) rfl) (gB_l lq_cX12_near (p := 5) (o := 70) rfl) rfl
theorem dX12_near_6 : decode cX12_near 6 = .ok (.ifCond .eq 12, 3) := dc_153 (gB_l lq_cX12_near (p := 6) (o := 153) rfl) (gB_l lq_cX12_near (p := 7) (o := 0) rfl) (gB_l lq_cX12_near (p := 8) (o := 12) rfl) rfl
theorem dX12_near_9 : decode cX12_near 9 = .ok (.aload_n 0, 1) := dc_42 (gB_l lq_cX12_near (p := 9) (o := 42) rfl)
theorem dX12_near_10 : decode cX12_near 10 = .ok (.iload_n 1, 1) := dc_27 (gB_l lq_cX12_near (p := 10) (o := 27) rfl)
theorem dX12_near_11 : decode cX12_near 11 = .ok (.iload_n 2, 1) := dc_28 (gB_l lq_cX12_near (p := 11) (o := 28) rfl)
theorem dX12_near_12 : decode cX12_near 12 = .ok (.invokevirtual 80, 3) := dc_182 (gB_l lq_cX12_near (p := 12) (o := 182) rfl) (gB_l lq_cX12_near (p := 13) (o := 0) rfl) (gB_l lq_cX12_near (p := 14) (o := 80) rfl) rfl
theorem dX12_near_15 : decode cX12_near 15 = .ok (.goto 5, 3) := dc_167 (gB_l lq_cX12_near (p := 15) (o := 167) rfl) (gB_l lq_cX12_near (p := 16) (o := 0) rfl) (gB_l lq_cX12_near (p := 17) (o := 5) rfl) rfl
theorem dX12_near_18 : decode cX12_near 18 = .ok (.bipush (-2), 2) := dc_16 (gB_l lq_cX12_near (p := 18) (o := 16) rfl) (gB_l lq_cX12_near (p := 19) (o := 254) rfl) rfl
theorem dX12_near_20 : decode cX12_near 20 = .ok (.ireturn, 1) := dc_172 (gB_l lq_cX12_near (p := 20) (o := 172) rfl)
abbrev r1_cX12_nearOf : List Nat := [0, 4, 3, 128, 62, 132, 4, 1, 167, 255, 221, 29, 172]
def a0_cX12_nearOf : List Nat := [3, 62, 3, 54, 4, 21, 4, 42, 27, 182, 0, 63, 162, 0, 31, 29, 42, 27, 28, 21, 4, 182, 0, 76, 158, 0, 10, 4, 21, 4, 120, 167]
abbrev r0_cX12_nearOf : List Nat := a0_cX12_nearOf ++ r1_cX12_nearOf
theorem lq_cX12_nearOf : (cX12_nearOf).data.toList.map UInt8.toNat = r0_cX12_nearOf := by decide +kernel
theorem q1_cX12_nearOf : ∀ i, (r0_cX12_nearOf)[32 + i]? = (r1_cX12_nearOf)[i]? := chn (A := a0_cX12_nearOf) (B := r1_cX12_nearOf) (n := 0) (k := 32) rfl (ch0 (R := r0_cX12_nearOf))
theorem dX12_nearOf_0 : decode cX12_nearOf 0 = .ok (.iconst 0, 1) := dc_3 (gB_l lq_cX12_nearOf (p := 0) (o := 3) rfl)
theorem dX12_nearOf_1 : decode cX12_nearOf 1 = .ok (.istore_n 3, 1) := dc_62 (gB_l lq_cX12_nearOf (p := 1) (o := 62) rfl)
theorem dX12_nearOf_2 : decode cX12_nearOf 2 = .ok (.iconst 0, 1) := dc_3 (gB_l lq_cX12_nearOf (p := 2) (o := 3) rfl)
theorem dX12_nearOf_3 : decode cX12_nearOf 3 = .ok (.istore 4, 2) := dc_54 (gB_l lq_cX12_nearOf (p := 3) (o := 54) rfl) (gB_l lq_cX12_nearOf (p := 4) (o := 4) rfl)
theorem dX12_nearOf_5 : decode cX12_nearOf 5 = .ok (.iload 4, 2) := dc_21 (gB_l lq_cX12_nearOf (p := 5) (o := 21) rfl) (gB_l lq_cX12_nearOf (p := 6) (o := 4) rfl)
theorem dX12_nearOf_7 : decode cX12_nearOf 7 = .ok (.aload_n 0, 1) := dc_42 (gB_l lq_cX12_nearOf (p := 7) (o := 42) rfl)
theorem dX12_nearOf_8 : decode cX12_nearOf 8 = .ok (.iload_n 1, 1) := dc_27 (gB_l lq_cX12_nearOf (p := 8) (o := 27) rfl)
theorem dX12_nearOf_9 : decode cX12_nearOf 9 = .ok (.invokevirtual 63, 3) := dc_182 (gB_l lq_cX12_nearOf (p := 9) (o := 182) rfl) (gB_l lq_cX12_nearOf (p := 10) (o := 0) rfl) (gB_l lq_cX12_nearOf (p := 11) (o := 63) rfl) rfl
theorem dX12_nearOf_12 : decode cX12_nearOf 12 = .ok (.if_icmp .ge 31, 3) := dc_162 (gB_l lq_cX12_nearOf (p := 12) (o := 162) rfl) (gB_l lq_cX12_nearOf (p := 13) (o := 0) rfl) (gB_l lq_cX12_nearOf (p := 14) (o := 31) rfl) rfl
theorem dX12_nearOf_15 : decode cX12_nearOf 15 = .ok (.iload_n 3, 1) := dc_29 (gB_l lq_cX12_nearOf (p := 15) (o := 29) rfl)
theorem dX12_nearOf_16 : decode cX12_nearOf 16 = .ok (.aload_n 0, 1) := dc_42 (gB_l lq_cX12_nearOf (p := 16) (o := 42) rfl)
theorem dX12_nearOf_17 : decode cX12_nearOf 17 = .ok (.iload_n 1, 1) := dc_27 (gB_l lq_cX12_nearOf (p := 17) (o := 27) rfl)
theorem dX12_nearOf_18 : decode cX12_nearOf 18 = .ok (.iload_n 2, 1) := dc_28 (gB_l lq_cX12_nearOf (p := 18) (o := 28) rfl)
theorem dX12_nearOf_19 : decode cX12_nearOf 19 = .ok (.iload 4, 2) := dc_21 (gB_l lq_cX12_nearOf (p := 19) (o := 21) rfl) (gB_l lq_cX12_nearOf (p := 20) (o := 4) rfl)
theorem dX12_nearOf_21 : decode cX12_nearOf 21 = .ok (.invokevirtual 76, 3) := dc_182 (gB_l lq_cX12_nearOf (p := 21) (o := 182) rfl) (gB_l lq_cX12_nearOf (p := 22) (o := 0) rfl) (gB_l lq_cX12_nearOf (p := 23) (o := 76) rfl) rfl
theorem dX12_nearOf_24 : decode cX12_nearOf 24 = .ok (.ifCond .le 10, 3) := dc_158 (gB_l lq_cX12_nearOf (p := 24) (o := 158) rfl) (gB_l lq_cX12_nearOf (p := 25) (o := 0) rfl) (gB_l lq_cX12_nearOf (p := 26) (o := 10) rfl) rfl
theorem dX12_nearOf_27 : decode cX12_nearOf 27 = .ok (.iconst 1, 1) := dc_4 (gB_l lq_cX12_nearOf (p := 27) (o := 4) rfl)
theorem dX12_nearOf_28 : decode cX12_nearOf 28 = .ok (.iload 4, 2) := dc_21 (gB_l lq_cX12_nearOf (p := 28) (o := 21) rfl) (gB_l lq_cX12_nearOf (p := 29) (o := 4) rfl)
theorem dX12_nearOf_30 : decode cX12_nearOf 30 = .ok (.ishl, 1) := dc_120 (gB_l lq_cX12_nearOf (p := 30) (o := 120) rfl)
theorem dX12_nearOf_31 : decode cX12_nearOf 31 = .ok (.goto 4, 3) := dc_167 (gB_l lq_cX12_nearOf (p := 31) (o := 167) rfl) (gB_c lq_cX12_nearOf q1_cX12_nearOf 0 (o := 0) rfl) (gB_c lq_cX12_nearOf q1_cX12_nearOf 1 (o := 4) rfl) rfl
theorem dX12_nearOf_34 : decode cX12_nearOf 34 = .ok (.iconst 0, 1) := dc_3 (gB_c lq_cX12_nearOf q1_cX12_nearOf 2 (o := 3) rfl)
theorem dX12_nearOf_35 : decode cX12_nearOf 35 = .ok (.ior, 1) := dc_128 (gB_c lq_cX12_nearOf q1_cX12_nearOf 3 (o := 128) rfl)
theorem dX12_nearOf_36 : decode cX12_nearOf 36 = .ok (.istore_n 3, 1) := dc_62 (gB_c lq_cX12_nearOf q1_cX12_nearOf 4 (o := 62) rfl)
theorem dX12_nearOf_37 : decode cX12_nearOf 37 = .ok (.iinc 4 1, 3) := dc_132 (gB_c lq_cX12_nearOf q1_cX12_nearOf 5 (o := 132) rfl) (gB_c lq_cX12_nearOf q1_cX12_nearOf 6 (o := 4) rfl) (gB_c lq_cX12_nearOf q1_cX12_nearOf 7 (o := 1) rfl) rfl
theorem dX12_nearOf_40 : decode cX12_nearOf 40 = .ok (.goto (-35), 3) := dc_167 (gB_c lq_cX12_nearOf q1_cX12_nearOf 8 (o := 167) rfl) (gB_c lq_cX12_nearOf q1_cX12_nearOf 9 (o := 255) rfl) (gB_c lq_cX12_nearOf q1_cX12_nearOf 10 (o := 221) rfl) rfl
theorem dX12_nearOf_43 : decode cX12_nearOf 43 = .ok (.iload_n 3, 1) := dc_29 (gB_c lq_cX12_nearOf q1_cX12_nearOf 11 (o := 29) rfl)
theorem dX12_nearOf_44 : decode cX12_nearOf 44 = .ok (.ireturn, 1) := dc_172 (gB_c lq_cX12_nearOf q1_cX12_nearOf 12 (o := 172) rfl)
abbrev r2_cX12_neighbours : List Nat := [6, 1, 167, 255, 215, 167, 255, 198, 21, 4, 28, 2, 130, 126, 4, 29, 120, 2, 130, 126, 172]
def a1_cX12_neighbours : List Nat := [162, 0, 37, 21, 4, 21, 5, 28, 126, 21, 6, 184, 0, 166, 153, 0, 13, 42, 27, 21, 6, 182, 0, 80, 167, 0, 4, 3, 128, 54, 4, 132]
abbrev r1_cX12_neighbours : List Nat := a1_cX12_neighbours ++ r2_cX12_neighbours
def a0_cX12_neighbours : List Nat := [42, 27, 29, 182, 0, 80, 54, 4, 3, 54, 5, 21, 5, 21, 4, 159, 0, 57, 21, 4, 54, 5, 3, 54, 6, 21, 6, 42, 27, 182, 0, 63]
abbrev r0_cX12_neighbours : List Nat := a0_cX12_neighbours ++ r1_cX12_neighbours
theorem lq_cX12_neighbours : (cX12_neighbours).data.toList.map UInt8.toNat = r0_cX12_neighbours := by decide +kernel
theorem q1_cX12_neighbours : ∀ i, (r0_cX12_neighbours)[32 + i]? = (r1_cX12_neighbours)[i]? := chn (A := a0_cX12_neighbours) (B := r1_cX12_neighbours) (n := 0) (k := 32) rfl (ch0 (R := r0_cX12_neighbours))
theorem q2_cX12_neighbours : ∀ i, (r0_cX12_neighbours)[64 + i]? = (r2_cX12_neighbours)[i]? := chn (A := a1_cX12_neighbours) (B := r2_cX12_neighbours) (n := 32) (k := 32) rfl q1_cX12_neighbours
theorem dX12_neighbours_0 : decode cX12_neighbours 0 = .ok (.aload_n 0, 1) := dc_42 (gB_l lq_cX12_neighbours (p := 0) (o := 42) rfl)
theorem dX12_neighbours_1 : decode cX12_neighbours 1 = .ok (.iload_n 1, 1) := dc_27 (gB_l lq_cX12_neighbours (p := 1) (o := 27) rfl)
theorem dX12_neighbours_2 : decode cX12_neighbours 2 = .ok (.iload_n 3, 1) := dc_29 (gB_l lq_cX12_neighbours (p := 2) (o := 29) rfl)
theorem dX12_neighbours_3 : decode cX12_neighbours 3 = .ok (.invokevirtual 80, 3) := dc_182 (gB_l lq_cX12_neighbours (p := 3) (o := 182) rfl) (gB_l lq_cX12_neighbours (p := 4) (o := 0) rfl) (gB_l lq_cX12_neighbours (p := 5) (o := 80) rfl) rfl
theorem dX12_neighbours_6 : decode cX12_neighbours 6 = .ok (.istore 4, 2) := dc_54 (gB_l lq_cX12_neighbours (p := 6) (o := 54) rfl) (gB_l lq_cX12_neighbours (p := 7) (o := 4) rfl)
theorem dX12_neighbours_8 : decode cX12_neighbours 8 = .ok (.iconst 0, 1) := dc_3 (gB_l lq_cX12_neighbours (p := 8) (o := 3) rfl)
theorem dX12_neighbours_9 : decode cX12_neighbours 9 = .ok (.istore 5, 2) := dc_54 (gB_l lq_cX12_neighbours (p := 9) (o := 54) rfl) (gB_l lq_cX12_neighbours (p := 10) (o := 5) rfl)
theorem dX12_neighbours_11 : decode cX12_neighbours 11 = .ok (.iload 5, 2) := dc_21 (gB_l lq_cX12_neighbours (p := 11) (o := 21) rfl) (gB_l lq_cX12_neighbours (p := 12) (o := 5) rfl)
theorem dX12_neighbours_13 : decode cX12_neighbours 13 = .ok (.iload 4, 2) := dc_21 (gB_l lq_cX12_neighbours (p := 13) (o := 21) rfl) (gB_l lq_cX12_neighbours (p := 14) (o := 4) rfl)
theorem dX12_neighbours_15 : decode cX12_neighbours 15 = .ok (.if_icmp .eq 57, 3) := dc_159 (gB_l lq_cX12_neighbours (p := 15) (o := 159) rfl) (gB_l lq_cX12_neighbours (p := 16) (o := 0) rfl) (gB_l lq_cX12_neighbours (p := 17) (o := 57) rfl) rfl
theorem dX12_neighbours_18 : decode cX12_neighbours 18 = .ok (.iload 4, 2) := dc_21 (gB_l lq_cX12_neighbours (p := 18) (o := 21) rfl) (gB_l lq_cX12_neighbours (p := 19) (o := 4) rfl)
theorem dX12_neighbours_20 : decode cX12_neighbours 20 = .ok (.istore 5, 2) := dc_54 (gB_l lq_cX12_neighbours (p := 20) (o := 54) rfl) (gB_l lq_cX12_neighbours (p := 21) (o := 5) rfl)
theorem dX12_neighbours_22 : decode cX12_neighbours 22 = .ok (.iconst 0, 1) := dc_3 (gB_l lq_cX12_neighbours (p := 22) (o := 3) rfl)
theorem dX12_neighbours_23 : decode cX12_neighbours 23 = .ok (.istore 6, 2) := dc_54 (gB_l lq_cX12_neighbours (p := 23) (o := 54) rfl) (gB_l lq_cX12_neighbours (p := 24) (o := 6) rfl)
theorem dX12_neighbours_25 : decode cX12_neighbours 25 = .ok (.iload 6, 2) := dc_21 (gB_l lq_cX12_neighbours (p := 25) (o := 21) rfl) (gB_l lq_cX12_neighbours (p := 26) (o := 6) rfl)
theorem dX12_neighbours_27 : decode cX12_neighbours 27 = .ok (.aload_n 0, 1) := dc_42 (gB_l lq_cX12_neighbours (p := 27) (o := 42) rfl)
theorem dX12_neighbours_28 : decode cX12_neighbours 28 = .ok (.iload_n 1, 1) := dc_27 (gB_l lq_cX12_neighbours (p := 28) (o := 27) rfl)
theorem dX12_neighbours_29 : decode cX12_neighbours 29 = .ok (.invokevirtual 63, 3) := dc_182 (gB_l lq_cX12_neighbours (p := 29) (o := 182) rfl) (gB_l lq_cX12_neighbours (p := 30) (o := 0) rfl) (gB_l lq_cX12_neighbours (p := 31) (o := 63) rfl) rfl
theorem dX12_neighbours_32 : decode cX12_neighbours 32 = .ok (.if_icmp .ge 37, 3) := dc_162 (gB_c lq_cX12_neighbours q1_cX12_neighbours 0 (o := 162) rfl) (gB_c lq_cX12_neighbours q1_cX12_neighbours 1 (o := 0) rfl) (gB_c lq_cX12_neighbours q1_cX12_neighbours 2 (o := 37) rfl) rfl
theorem dX12_neighbours_35 : decode cX12_neighbours 35 = .ok (.iload 4, 2) := dc_21 (gB_c lq_cX12_neighbours q1_cX12_neighbours 3 (o := 21) rfl) (gB_c lq_cX12_neighbours q1_cX12_neighbours 4 (o := 4) rfl)
theorem dX12_neighbours_37 : decode cX12_neighbours 37 = .ok (.iload 5, 2) := dc_21 (gB_c lq_cX12_neighbours q1_cX12_neighbours 5 (o := 21) rfl) (gB_c lq_cX12_neighbours q1_cX12_neighbours 6 (o := 5) rfl)
theorem dX12_neighbours_39 : decode cX12_neighbours 39 = .ok (.iload_n 2, 1) := dc_28 (gB_c lq_cX12_neighbours q1_cX12_neighbours 7 (o := 28) rfl)
theorem dX12_neighbours_40 : decode cX12_neighbours 40 = .ok (.iand, 1) := dc_126 (gB_c lq_cX12_neighbours q1_cX12_neighbours 8 (o := 126) rfl)
theorem dX12_neighbours_41 : decode cX12_neighbours 41 = .ok (.iload 6, 2) := dc_21 (gB_c lq_cX12_neighbours q1_cX12_neighbours 9 (o := 21) rfl) (gB_c lq_cX12_neighbours q1_cX12_neighbours 10 (o := 6) rfl)
theorem dX12_neighbours_43 : decode cX12_neighbours 43 = .ok (.invokestatic 166, 3) := dc_184 (gB_c lq_cX12_neighbours q1_cX12_neighbours 11 (o := 184) rfl) (gB_c lq_cX12_neighbours q1_cX12_neighbours 12 (o := 0) rfl) (gB_c lq_cX12_neighbours q1_cX12_neighbours 13 (o := 166) rfl) rfl
theorem dX12_neighbours_46 : decode cX12_neighbours 46 = .ok (.ifCond .eq 13, 3) := dc_153 (gB_c lq_cX12_neighbours q1_cX12_neighbours 14 (o := 153) rfl) (gB_c lq_cX12_neighbours q1_cX12_neighbours 15 (o := 0) rfl) (gB_c lq_cX12_neighbours q1_cX12_neighbours 16 (o := 13) rfl) rfl
theorem dX12_neighbours_49 : decode cX12_neighbours 49 = .ok (.aload_n 0, 1) := dc_42 (gB_c lq_cX12_neighbours q1_cX12_neighbours 17 (o := 42) rfl)
theorem dX12_neighbours_50 : decode cX12_neighbours 50 = .ok (.iload_n 1, 1) := dc_27 (gB_c lq_cX12_neighbours q1_cX12_neighbours 18 (o := 27) rfl)
theorem dX12_neighbours_51 : decode cX12_neighbours 51 = .ok (.iload 6, 2) := dc_21 (gB_c lq_cX12_neighbours q1_cX12_neighbours 19 (o := 21) rfl) (gB_c lq_cX12_neighbours q1_cX12_neighbours 20 (o := 6) rfl)
theorem dX12_neighbours_53 : decode cX12_neighbours 53 = .ok (.invokevirtual 80, 3) := dc_182 (gB_c lq_cX12_neighbours q1_cX12_neighbours 21 (o := 182) rfl) (gB_c lq_cX12_neighbours q1_cX12_neighbours 22 (o := 0) rfl) (gB_c lq_cX12_neighbours q1_cX12_neighbours 23 (o := 80) rfl) rfl
theorem dX12_neighbours_56 : decode cX12_neighbours 56 = .ok (.goto 4, 3) := dc_167 (gB_c lq_cX12_neighbours q1_cX12_neighbours 24 (o := 167) rfl) (gB_c lq_cX12_neighbours q1_cX12_neighbours 25 (o := 0) rfl) (gB_c lq_cX12_neighbours q1_cX12_neighbours 26 (o := 4) rfl) rfl
theorem dX12_neighbours_59 : decode cX12_neighbours 59 = .ok (.iconst 0, 1) := dc_3 (gB_c lq_cX12_neighbours q1_cX12_neighbours 27 (o := 3) rfl)
theorem dX12_neighbours_60 : decode cX12_neighbours 60 = .ok (.ior, 1) := dc_128 (gB_c lq_cX12_neighbours q1_cX12_neighbours 28 (o := 128) rfl)
theorem dX12_neighbours_61 : decode cX12_neighbours 61 = .ok (.istore 4, 2) := dc_54 (gB_c lq_cX12_neighbours q1_cX12_neighbours 29 (o := 54) rfl) (gB_c lq_cX12_neighbours q1_cX12_neighbours 30 (o := 4) rfl)
theorem dX12_neighbours_63 : decode cX12_neighbours 63 = .ok (.iinc 6 1, 3) := dc_132 (gB_c lq_cX12_neighbours q1_cX12_neighbours 31 (o := 132) rfl) (gB_c lq_cX12_neighbours q2_cX12_neighbours 0 (o := 6) rfl) (gB_c lq_cX12_neighbours q2_cX12_neighbours 1 (o := 1) rfl) rfl
theorem dX12_neighbours_66 : decode cX12_neighbours 66 = .ok (.goto (-41), 3) := dc_167 (gB_c lq_cX12_neighbours q2_cX12_neighbours 2 (o := 167) rfl) (gB_c lq_cX12_neighbours q2_cX12_neighbours 3 (o := 255) rfl) (gB_c lq_cX12_neighbours q2_cX12_neighbours 4 (o := 215) rfl) rfl
theorem dX12_neighbours_69 : decode cX12_neighbours 69 = .ok (.goto (-58), 3) := dc_167 (gB_c lq_cX12_neighbours q2_cX12_neighbours 5 (o := 167) rfl) (gB_c lq_cX12_neighbours q2_cX12_neighbours 6 (o := 255) rfl) (gB_c lq_cX12_neighbours q2_cX12_neighbours 7 (o := 198) rfl) rfl
theorem dX12_neighbours_72 : decode cX12_neighbours 72 = .ok (.iload 4, 2) := dc_21 (gB_c lq_cX12_neighbours q2_cX12_neighbours 8 (o := 21) rfl) (gB_c lq_cX12_neighbours q2_cX12_neighbours 9 (o := 4) rfl)
theorem dX12_neighbours_74 : decode cX12_neighbours 74 = .ok (.iload_n 2, 1) := dc_28 (gB_c lq_cX12_neighbours q2_cX12_neighbours 10 (o := 28) rfl)
theorem dX12_neighbours_75 : decode cX12_neighbours 75 = .ok (.iconst (-1), 1) := dc_2 (gB_c lq_cX12_neighbours q2_cX12_neighbours 11 (o := 2) rfl)
theorem dX12_neighbours_76 : decode cX12_neighbours 76 = .ok (.ixor, 1) := dc_130 (gB_c lq_cX12_neighbours q2_cX12_neighbours 12 (o := 130) rfl)
theorem dX12_neighbours_77 : decode cX12_neighbours 77 = .ok (.iand, 1) := dc_126 (gB_c lq_cX12_neighbours q2_cX12_neighbours 13 (o := 126) rfl)
theorem dX12_neighbours_78 : decode cX12_neighbours 78 = .ok (.iconst 1, 1) := dc_4 (gB_c lq_cX12_neighbours q2_cX12_neighbours 14 (o := 4) rfl)
theorem dX12_neighbours_79 : decode cX12_neighbours 79 = .ok (.iload_n 3, 1) := dc_29 (gB_c lq_cX12_neighbours q2_cX12_neighbours 15 (o := 29) rfl)
theorem dX12_neighbours_80 : decode cX12_neighbours 80 = .ok (.ishl, 1) := dc_120 (gB_c lq_cX12_neighbours q2_cX12_neighbours 16 (o := 120) rfl)
theorem dX12_neighbours_81 : decode cX12_neighbours 81 = .ok (.iconst (-1), 1) := dc_2 (gB_c lq_cX12_neighbours q2_cX12_neighbours 17 (o := 2) rfl)
theorem dX12_neighbours_82 : decode cX12_neighbours 82 = .ok (.ixor, 1) := dc_130 (gB_c lq_cX12_neighbours q2_cX12_neighbours 18 (o := 130) rfl)
theorem dX12_neighbours_83 : decode cX12_neighbours 83 = .ok (.iand, 1) := dc_126 (gB_c lq_cX12_neighbours q2_cX12_neighbours 19 (o := 126) rfl)
theorem dX12_neighbours_84 : decode cX12_neighbours 84 = .ok (.ireturn, 1) := dc_172 (gB_c lq_cX12_neighbours q2_cX12_neighbours 20 (o := 172) rfl)
abbrev r6_cX12_next : List Nat := [177]
def a5_cX12_next : List Nat := [118, 181, 0, 112, 42, 89, 180, 0, 103, 4, 96, 181, 0, 103, 167, 255, 205, 42, 6, 181, 0, 115, 42, 89, 180, 0, 103, 4, 96, 181, 0, 103]
abbrev r5_cX12_next : List Nat := a5_cX12_next ++ r6_cX12_next
def a4_cX12_next : List Nat := [182, 0, 106, 153, 0, 61, 42, 17, 3, 232, 16, 10, 42, 180, 0, 112, 104, 42, 180, 0, 19, 42, 180, 0, 103, 46, 96, 16, 48, 100, 184, 0]
abbrev r4_cX12_next : List Nat := a4_cX12_next ++ r5_cX12_next
def a3_cX12_next : List Nat := [180, 0, 103, 4, 96, 181, 0, 103, 167, 255, 235, 42, 16, 48, 16, 57, 182, 0, 106, 153, 0, 62, 42, 5, 181, 0, 115, 42, 16, 48, 16, 57]
abbrev r3_cX12_next : List Nat := a3_cX12_next ++ r4_cX12_next
def a2_cX12_next : List Nat := [167, 0, 128, 42, 16, 97, 16, 122, 182, 0, 106, 153, 0, 32, 42, 4, 181, 0, 115, 42, 16, 97, 16, 122, 182, 0, 106, 153, 0, 101, 42, 89]
abbrev r2_cX12_next : List Nat := a2_cX12_next ++ r3_cX12_next
def a1_cX12_next : List Nat := [167, 255, 224, 42, 42, 180, 0, 103, 181, 0, 109, 42, 3, 181, 0, 112, 42, 180, 0, 103, 42, 180, 0, 100, 160, 0, 11, 42, 3, 181, 0, 115]
abbrev r1_cX12_next : List Nat := a1_cX12_next ++ r2_cX12_next
def a0_cX12_next : List Nat := [42, 16, 32, 16, 32, 182, 0, 106, 154, 0, 14, 42, 16, 10, 16, 10, 182, 0, 106, 153, 0, 16, 42, 89, 180, 0, 103, 4, 96, 181, 0, 103]
abbrev r0_cX12_next : List Nat := a0_cX12_next ++ r1_cX12_next
theorem lq_cX12_next : (cX12_next).data.toList.map UInt8.toNat = r0_cX12_next := by decide +kernel
theorem q1_cX12_next : ∀ i, (r0_cX12_next)[32 + i]? = (r1_cX12_next)[i]? := chn (A := a0_cX12_next) (B := r1_cX12_next) (n := 0) (k := 32) rfl (ch0 (R := r0_cX12_next))
theorem q2_cX12_next : ∀ i, (r0_cX12_next)[64 + i]? = (r2_cX12_next)[i]? := chn (A := a1_cX12_next) (B := r2_cX12_next) (n := 32) (k := 32) rfl q1_cX12_next
theorem q3_cX12_next : ∀ i, (r0_cX12_next)[96 + i]? = (r3_cX12_next)[i]? := chn (A := a2_cX12_next) (B := r3_cX12_next) (n := 64) (k := 32) rfl q2_cX12_next
theorem q4_cX12_next : ∀ i, (r0_cX12_next)[128 + i]? = (r4_cX12_next)[i]? := chn (A := a3_cX12_next) (B := r4_cX12_next) (n := 96) (k := 32) rfl q3_cX12_next
theorem q5_cX12_next : ∀ i, (r0_cX12_next)[160 + i]? = (r5_cX12_next)[i]? := chn (A := a4_cX12_next) (B := r5_cX12_next) (n := 128) (k := 32) rfl q4_cX12_next
theorem q6_cX12_next : ∀ i, (r0_cX12_next)[192 + i]? = (r6_cX12_next)[i]? := chn (A := a5_cX12_next) (B := r6_cX12_next) (n := 160) (k := 32) rfl q5_cX12_next
theorem dX12_next_0 : decode cX12_next 0 = .ok (.aload_n 0, 1) := dc_42 (gB_l lq_cX12_next (p := 0) (o := 42) rfl)
theorem dX12_next_1 : decode cX12_next 1 = .ok (.bipush 32, 2) := dc_16 (gB_l lq_cX12_next (p := 1) (o := 16) rfl) (gB_l lq_cX12_next (p := 2) (o := 32) rfl) rfl
theorem dX12_next_3 : decode cX12_next 3 = .ok (.bipush 32, 2) := dc_16 (gB_l lq_cX12_next (p := 3) (o := 16) rfl) (gB_l lq_cX12_next (p := 4) (o := 32) rfl) rfl
theorem dX12_next_5 : decode cX12_next 5 = .ok (.invokevirtual 106, 3) := dc_182 (gB_l lq_cX12_next (p := 5) (o := 182) rfl) (gB_l lq_cX12_next (p := 6) (o := 0) rfl) (gB_l lq_cX12_next (p := 7) (o := 106) rfl) rfl
theorem dX12_next_8 : decode cX12_next 8 = .ok (.ifCond .ne 14, 3) := dc_154 (gB_l lq_cX12_next (p := 8) (o := 154) rfl) (gB_l lq_cX12_next (p := 9) (o := 0) rfl) (gB_l lq_cX12_next (p := 10) (o := 14) rfl) rfl
theorem dX12_next_11 : decode cX12_next 11 = .ok (.aload_n 0, 1) := dc_42 (gB_l lq_cX12_next (p := 11) (o := 42) rfl)
theorem dX12_next_12 : decode cX12_next 12 = .ok (.bipush 10, 2) := dc_16 (gB_l lq_cX12_next (p := 12) (o := 16) rfl) (gB_l lq_cX12_next (p := 13) (o := 10) rfl) rfl
theorem dX12_next_14 : decode cX12_next 14 = .ok (.bipush 10, 2) := dc_16 (gB_l lq_cX12_next (p := 14) (o := 16) rfl) (gB_l lq_cX12_next (p := 15) (o := 10) rfl) rfl
theorem dX12_next_16 : decode cX12_next 16 = .ok (.invokevirtual 106, 3) := dc_182 (gB_l lq_cX12_next (p := 16) (o := 182) rfl) (gB_l lq_cX12_next (p := 17) (o := 0) rfl) (gB_l lq_cX12_next (p := 18) (o := 106) rfl) rfl
theorem dX12_next_19 : decode cX12_next 19 = .ok (.ifCond .eq 16, 3) := dc_153 (gB_l lq_cX12_next (p := 19) (o := 153) rfl) (gB_l lq_cX12_next (p := 20) (o := 0) rfl) (gB_l lq_cX12_next (p := 21) (o := 16) rfl) rfl
theorem dX12_next_22 : decode cX12_next 22 = .ok (.aload_n 0, 1) := dc_42 (gB_l lq_cX12_next (p := 22) (o := 42) rfl)
theorem dX12_next_23 : decode cX12_next 23 = .ok (.dup, 1) := dc_89 (gB_l lq_cX12_next (p := 23) (o := 89) rfl)
theorem dX12_next_24 : decode cX12_next 24 = .ok (.getfield 103, 3) := dc_180 (gB_l lq_cX12_next (p := 24) (o := 180) rfl) (gB_l lq_cX12_next (p := 25) (o := 0) rfl) (gB_l lq_cX12_next (p := 26) (o := 103) rfl) rfl
theorem dX12_next_27 : decode cX12_next 27 = .ok (.iconst 1, 1) := dc_4 (gB_l lq_cX12_next (p := 27) (o := 4) rfl)
theorem dX12_next_28 : decode cX12_next 28 = .ok (.iadd, 1) := dc_96 (gB_l lq_cX12_next (p := 28) (o := 96) rfl)
theorem dX12_next_29 : decode cX12_next 29 = .ok (.putfield 103, 3) := dc_181 (gB_l lq_cX12_next (p := 29) (o := 181) rfl) (gB_l lq_cX12_next (p := 30) (o := 0) rfl) (gB_l lq_cX12_next (p := 31) (o := 103) rfl) rfl
theorem dX12_next_32 : decode cX12_next 32 = .ok (.goto (-32), 3) := dc_167 (gB_c lq_cX12_next q1_cX12_next 0 (o := 167) rfl) (gB_c lq_cX12_next q1_cX12_next 1 (o := 255) rfl) (gB_c lq_cX12_next q1_cX12_next 2 (o := 224) rfl) rfl
theorem dX12_next_35 : decode cX12_next 35 = .ok (.aload_n 0, 1) := dc_42 (gB_c lq_cX12_next q1_cX12_next 3 (o := 42) rfl)
theorem dX12_next_36 : decode cX12_next 36 = .ok (.aload_n 0, 1) := dc_42 (gB_c lq_cX12_next q1_cX12_next 4 (o := 42) rfl)
theorem dX12_next_37 : decode cX12_next 37 = .ok (.getfield 103, 3) := dc_180 (gB_c lq_cX12_next q1_cX12_next 5 (o := 180) rfl) (gB_c lq_cX12_next q1_cX12_next 6 (o := 0) rfl) (gB_c lq_cX12_next q1_cX12_next 7 (o := 103) rfl) rfl
theorem dX12_next_40 : decode cX12_next 40 = .ok (.putfield 109, 3) := dc_181 (gB_c lq_cX12_next q1_cX12_next 8 (o := 181) rfl) (gB_c lq_cX12_next q1_cX12_next 9 (o := 0) rfl) (gB_c lq_cX12_next q1_cX12_next 10 (o := 109) rfl) rfl
theorem dX12_next_43 : decode cX12_next 43 = .ok (.aload_n 0, 1) := dc_42 (gB_c lq_cX12_next q1_cX12_next 11 (o := 42) rfl)
theorem dX12_next_44 : decode cX12_next 44 = .ok (.iconst 0, 1) := dc_3 (gB_c lq_cX12_next q1_cX12_next 12 (o := 3) rfl)
theorem dX12_next_45 : decode cX12_next 45 = .ok (.putfield 112, 3) := dc_181 (gB_c lq_cX12_next q1_cX12_next 13 (o := 181) rfl) (gB_c lq_cX12_next q1_cX12_next 14 (o := 0) rfl) (gB_c lq_cX12_next q1_cX12_next 15 (o := 112) rfl) rfl
theorem dX12_next_48 : decode cX12_next 48 = .ok (.aload_n 0, 1) := dc_42 (gB_c lq_cX12_next q1_cX12_next 16 (o := 42) rfl)
theorem dX12_next_49 : decode cX12_next 49 = .ok (.getfield 103, 3) := dc_180 (gB_c lq_cX12_next q1_cX12_next 17 (o := 180) rfl) (gB_c lq_cX12_next q1_cX12_next 18 (o := 0) rfl) (gB_c lq_cX12_next q1_cX12_next 19 (o := 103) rfl) rfl
theorem dX12_next_52 : decode cX12_next 52 = .ok (.aload_n 0, 1) := dc_42 (gB_c lq_cX12_next q1_cX12_next 20 (o := 42) rfl)
theorem dX12_next_53 : decode cX12_next 53 = .ok (.getfield 100, 3) := dc_180 (gB_c lq_cX12_next q1_cX12_next 21 (o := 180) rfl) (gB_c lq_cX12_next q1_cX12_next 22 (o := 0) rfl) (gB_c lq_cX12_next q1_cX12_next 23 (o := 100) rfl) rfl
theorem dX12_next_56 : decode cX12_next 56 = .ok (.if_icmp .ne 11, 3) := dc_160 (gB_c lq_cX12_next q1_cX12_next 24 (o := 160) rfl) (gB_c lq_cX12_next q1_cX12_next 25 (o := 0) rfl) (gB_c lq_cX12_next q1_cX12_next 26 (o := 11) rfl) rfl
theorem dX12_next_59 : decode cX12_next 59 = .ok (.aload_n 0, 1) := dc_42 (gB_c lq_cX12_next q1_cX12_next 27 (o := 42) rfl)
theorem dX12_next_60 : decode cX12_next 60 = .ok (.iconst 0, 1) := dc_3 (gB_c lq_cX12_next q1_cX12_next 28 (o := 3) rfl)
theorem dX12_next_61 : decode cX12_next 61 = .ok (.putfield 115, 3) := dc_181 (gB_c lq_cX12_next q1_cX12_next 29 (o := 181) rfl) (gB_c lq_cX12_next q1_cX12_next 30 (o := 0) rfl) (gB_c lq_cX12_next q1_cX12_next 31 (o := 115) rfl) rfl
theorem dX12_next_64 : decode cX12_next 64 = .ok (.goto 128, 3) := dc_167 (gB_c lq_cX12_next q2_cX12_next 0 (o := 167) rfl) (gB_c lq_cX12_next q2_cX12_next 1 (o := 0) rfl) (gB_c lq_cX12_next q2_cX12_next 2 (o := 128) rfl) rfl
theorem dX12_next_67 : decode cX12_next 67 = .ok (.aload_n 0, 1) := dc_42 (gB_c lq_cX12_next q2_cX12_next 3 (o := 42) rfl)
theorem dX12_next_68 : decode cX12_next 68 = .ok (.bipush 97, 2) := dc_16 (gB_c lq_cX12_next q2_cX12_next 4 (o := 16) rfl) (gB_c lq_cX12_next q2_cX12_next 5 (o := 97) rfl) rfl
theorem dX12_next_70 : decode cX12_next 70 = .ok (.bipush 122, 2) := dc_16 (gB_c lq_cX12_next q2_cX12_next 6 (o := 16) rfl) (gB_c lq_cX12_next q2_cX12_next 7 (o := 122) rfl) rfl
theorem dX12_next_72 : decode cX12_next 72 = .ok (.invokevirtual 106, 3) := dc_182 (gB_c lq_cX12_next q2_cX12_next 8 (o := 182) rfl) (gB_c lq_cX12_next q2_cX12_next 9 (o := 0) rfl) (gB_c lq_cX12_next q2_cX12_next 10 (o := 106) rfl) rfl
theorem dX12_next_75 : decode cX12_next 75 = .ok (.ifCond .eq 32, 3) := dc_153 (gB_c lq_cX12_next q2_cX12_next 11 (o := 153) rfl) (gB_c lq_cX12_next q2_cX12_next 12 (o := 0) rfl) (gB_c lq_cX12_next q2_cX12_next 13 (o := 32) rfl) rfl
theorem dX12_next_78 : decode cX12_next 78 = .ok (.aload_n 0, 1) := dc_42 (gB_c lq_cX12_next q2_cX12_next 14 (o := 42) rfl)
theorem dX12_next_79 : decode cX12_next 79 = .ok (.iconst 1, 1) := dc_4 (gB_c lq_cX12_next q2_cX12_next 15 (o := 4) rfl)
theorem dX12_next_80 : decode cX12_next 80 = .ok (.putfield 115, 3) := dc_181 (gB_c lq_cX12_next q2_cX12_next 16 (o := 181) rfl) (gB_c lq_cX12_next q2_cX12_next 17 (o := 0) rfl) (gB_c lq_cX12_next q2_cX12_next 18 (o := 115) rfl) rfl
theorem dX12_next_83 : decode cX12_next 83 = .ok (.aload_n 0, 1) := dc_42 (gB_c lq_cX12_next q2_cX12_next 19 (o := 42) rfl)
theorem dX12_next_84 : decode cX12_next 84 = .ok (.bipush 97, 2) := dc_16 (gB_c lq_cX12_next q2_cX12_next 20 (o := 16) rfl) (gB_c lq_cX12_next q2_cX12_next 21 (o := 97) rfl) rfl
theorem dX12_next_86 : decode cX12_next 86 = .ok (.bipush 122, 2) := dc_16 (gB_c lq_cX12_next q2_cX12_next 22 (o := 16) rfl) (gB_c lq_cX12_next q2_cX12_next 23 (o := 122) rfl) rfl
theorem dX12_next_88 : decode cX12_next 88 = .ok (.invokevirtual 106, 3) := dc_182 (gB_c lq_cX12_next q2_cX12_next 24 (o := 182) rfl) (gB_c lq_cX12_next q2_cX12_next 25 (o := 0) rfl) (gB_c lq_cX12_next q2_cX12_next 26 (o := 106) rfl) rfl
theorem dX12_next_91 : decode cX12_next 91 = .ok (.ifCond .eq 101, 3) := dc_153 (gB_c lq_cX12_next q2_cX12_next 27 (o := 153) rfl) (gB_c lq_cX12_next q2_cX12_next 28 (o := 0) rfl) (gB_c lq_cX12_next q2_cX12_next 29 (o := 101) rfl) rfl
theorem dX12_next_94 : decode cX12_next 94 = .ok (.aload_n 0, 1) := dc_42 (gB_c lq_cX12_next q2_cX12_next 30 (o := 42) rfl)
theorem dX12_next_95 : decode cX12_next 95 = .ok (.dup, 1) := dc_89 (gB_c lq_cX12_next q2_cX12_next 31 (o := 89) rfl)
theorem dX12_next_96 : decode cX12_next 96 = .ok (.getfield 103, 3) := dc_180 (gB_c lq_cX12_next q3_cX12_next 0 (o := 180) rfl) (gB_c lq_cX12_next q3_cX12_next 1 (o := 0) rfl) (gB_c lq_cX12_next q3_cX12_next 2 (o := 103) rfl) rfl
theorem dX12_next_99 : decode cX12_next 99 = .ok (.iconst 1, 1) := dc_4 (gB_c lq_cX12_next q3_cX12_next 3 (o := 4) rfl)
theorem dX12_next_100 : decode cX12_next 100 = .ok (.iadd, 1) := dc_96 (gB_c lq_cX12_next q3_cX12_next 4 (o := 96) rfl)
theorem dX12_next_101 : decode cX12_next 101 = .ok (.putfield 103, 3) := dc_181 (gB_c lq_cX12_next q3_cX12_next 5 (o := 181) rfl) (gB_c lq_cX12_next q3_cX12_next 6 (o := 0) rfl) (gB_c lq_cX12_next q3_cX12_next 7 (o := 103) rfl) rfl
theorem dX12_next_104 : decode cX12_next 104 = .ok (.goto (-21), 3) := dc_167 (gB_c lq_cX12_next q3_cX12_next 8 (o := 167) rfl) (gB_c lq_cX12_next q3_cX12_next 9 (o := 255) rfl) (gB_c lq_cX12_next q3_cX12_next 10 (o := 235) rfl) rfl
theorem dX12_next_107 : decode cX12_next 107 = .ok (.aload_n 0, 1) := dc_42 (gB_c lq_cX12_next q3_cX12_next 11 (o := 42) rfl)
theorem dX12_next_108 : decode cX12_next 108 = .ok (.bipush 48, 2) := dc_16 (gB_c lq_cX12_next q3_cX12_next 12 (o := 16) rfl) (gB_c lq_cX12_next q3_cX12_next 13 (o := 48) rfl) rfl
theorem dX12_next_110 : decode cX12_next 110 = .ok (.bipush 57, 2) := dc_16 (gB_c lq_cX12_next q3_cX12_next 14 (o := 16) rfl) (gB_c lq_cX12_next q3_cX12_next 15 (o := 57) rfl) rfl
theorem dX12_next_112 : decode cX12_next 112 = .ok (.invokevirtual 106, 3) := dc_182 (gB_c lq_cX12_next q3_cX12_next 16 (o := 182) rfl) (gB_c lq_cX12_next q3_cX12_next 17 (o := 0) rfl) (gB_c lq_cX12_next q3_cX12_next 18 (o := 106) rfl) rfl
theorem dX12_next_115 : decode cX12_next 115 = .ok (.ifCond .eq 62, 3) := dc_153 (gB_c lq_cX12_next q3_cX12_next 19 (o := 153) rfl) (gB_c lq_cX12_next q3_cX12_next 20 (o := 0) rfl) (gB_c lq_cX12_next q3_cX12_next 21 (o := 62) rfl) rfl
theorem dX12_next_118 : decode cX12_next 118 = .ok (.aload_n 0, 1) := dc_42 (gB_c lq_cX12_next q3_cX12_next 22 (o := 42) rfl)
theorem dX12_next_119 : decode cX12_next 119 = .ok (.iconst 2, 1) := dc_5 (gB_c lq_cX12_next q3_cX12_next 23 (o := 5) rfl)
theorem dX12_next_120 : decode cX12_next 120 = .ok (.putfield 115, 3) := dc_181 (gB_c lq_cX12_next q3_cX12_next 24 (o := 181) rfl) (gB_c lq_cX12_next q3_cX12_next 25 (o := 0) rfl) (gB_c lq_cX12_next q3_cX12_next 26 (o := 115) rfl) rfl
theorem dX12_next_123 : decode cX12_next 123 = .ok (.aload_n 0, 1) := dc_42 (gB_c lq_cX12_next q3_cX12_next 27 (o := 42) rfl)
theorem dX12_next_124 : decode cX12_next 124 = .ok (.bipush 48, 2) := dc_16 (gB_c lq_cX12_next q3_cX12_next 28 (o := 16) rfl) (gB_c lq_cX12_next q3_cX12_next 29 (o := 48) rfl) rfl
theorem dX12_next_126 : decode cX12_next 126 = .ok (.bipush 57, 2) := dc_16 (gB_c lq_cX12_next q3_cX12_next 30 (o := 16) rfl) (gB_c lq_cX12_next q3_cX12_next 31 (o := 57) rfl) rfl
theorem dX12_next_128 : decode cX12_next 128 = .ok (.invokevirtual 106, 3) := dc_182 (gB_c lq_cX12_next q4_cX12_next 0 (o := 182) rfl) (gB_c lq_cX12_next q4_cX12_next 1 (o := 0) rfl) (gB_c lq_cX12_next q4_cX12_next 2 (o := 106) rfl) rfl
theorem dX12_next_131 : decode cX12_next 131 = .ok (.ifCond .eq 61, 3) := dc_153 (gB_c lq_cX12_next q4_cX12_next 3 (o := 153) rfl) (gB_c lq_cX12_next q4_cX12_next 4 (o := 0) rfl) (gB_c lq_cX12_next q4_cX12_next 5 (o := 61) rfl) rfl
theorem dX12_next_134 : decode cX12_next 134 = .ok (.aload_n 0, 1) := dc_42 (gB_c lq_cX12_next q4_cX12_next 6 (o := 42) rfl)
theorem dX12_next_135 : decode cX12_next 135 = .ok (.sipush 1000, 3) := dc_17 (gB_c lq_cX12_next q4_cX12_next 7 (o := 17) rfl) (gB_c lq_cX12_next q4_cX12_next 8 (o := 3) rfl) (gB_c lq_cX12_next q4_cX12_next 9 (o := 232) rfl) rfl
theorem dX12_next_138 : decode cX12_next 138 = .ok (.bipush 10, 2) := dc_16 (gB_c lq_cX12_next q4_cX12_next 10 (o := 16) rfl) (gB_c lq_cX12_next q4_cX12_next 11 (o := 10) rfl) rfl
theorem dX12_next_140 : decode cX12_next 140 = .ok (.aload_n 0, 1) := dc_42 (gB_c lq_cX12_next q4_cX12_next 12 (o := 42) rfl)
theorem dX12_next_141 : decode cX12_next 141 = .ok (.getfield 112, 3) := dc_180 (gB_c lq_cX12_next q4_cX12_next 13 (o := 180) rfl) (gB_c lq_cX12_next q4_cX12_next 14 (o := 0) rfl) (gB_c lq_cX12_next q4_cX12_next 15 (o := 112) rfl) rfl
theorem dX12_next_144 : decode cX12_next 144 = .ok (.imul, 1) := dc_104 (gB_c lq_cX12_next q4_cX12_next 16 (o := 104) rfl)
theorem dX12_next_145 : decode cX12_next 145 = .ok (.aload_n 0, 1) := dc_42 (gB_c lq_cX12_next q4_cX12_next 17 (o := 42) rfl)
theorem dX12_next_146 : decode cX12_next 146 = .ok (.getfield 19, 3) := dc_180 (gB_c lq_cX12_next q4_cX12_next 18 (o := 180) rfl) (gB_c lq_cX12_next q4_cX12_next 19 (o := 0) rfl) (gB_c lq_cX12_next q4_cX12_next 20 (o := 19) rfl) rfl
theorem dX12_next_149 : decode cX12_next 149 = .ok (.aload_n 0, 1) := dc_42 (gB_c lq_cX12_next q4_cX12_next 21 (o := 42) rfl)
theorem dX12_next_150 : decode cX12_next 150 = .ok (.getfield 103, 3) := dc_180 (gB_c lq_cX12_next q4_cX12_next 22 (o := 180) rfl) (gB_c lq_cX12_next q4_cX12_next 23 (o := 0) rfl) (gB_c lq_cX12_next q4_cX12_next 24 (o := 103) rfl) rfl
theorem dX12_next_153 : decode cX12_next 153 = .ok (.iaload, 1) := dc_46 (gB_c lq_cX12_next q4_cX12_next 25 (o := 46) rfl)
theorem dX12_next_154 : decode cX12_next 154 = .ok (.iadd, 1) := dc_96 (gB_c lq_cX12_next q4_cX12_next 26 (o := 96) rfl)
theorem dX12_next_155 : decode cX12_next 155 = .ok (.bipush 48, 2) := dc_16 (gB_c lq_cX12_next q4_cX12_next 27 (o := 16) rfl) (gB_c lq_cX12_next q4_cX12_next 28 (o := 48) rfl) rfl
theorem dX12_next_157 : decode cX12_next 157 = .ok (.isub, 1) := dc_100 (gB_c lq_cX12_next q4_cX12_next 29 (o := 100) rfl)
theorem dX12_next_158 : decode cX12_next 158 = .ok (.invokestatic 118, 3) := dc_184 (gB_c lq_cX12_next q4_cX12_next 30 (o := 184) rfl) (gB_c lq_cX12_next q4_cX12_next 31 (o := 0) rfl) (gB_c lq_cX12_next q5_cX12_next 0 (o := 118) rfl) rfl
theorem dX12_next_161 : decode cX12_next 161 = .ok (.putfield 112, 3) := dc_181 (gB_c lq_cX12_next q5_cX12_next 1 (o := 181) rfl) (gB_c lq_cX12_next q5_cX12_next 2 (o := 0) rfl) (gB_c lq_cX12_next q5_cX12_next 3 (o := 112) rfl) rfl
theorem dX12_next_164 : decode cX12_next 164 = .ok (.aload_n 0, 1) := dc_42 (gB_c lq_cX12_next q5_cX12_next 4 (o := 42) rfl)
theorem dX12_next_165 : decode cX12_next 165 = .ok (.dup, 1) := dc_89 (gB_c lq_cX12_next q5_cX12_next 5 (o := 89) rfl)
theorem dX12_next_166 : decode cX12_next 166 = .ok (.getfield 103, 3) := dc_180 (gB_c lq_cX12_next q5_cX12_next 6 (o := 180) rfl) (gB_c lq_cX12_next q5_cX12_next 7 (o := 0) rfl) (gB_c lq_cX12_next q5_cX12_next 8 (o := 103) rfl) rfl
theorem dX12_next_169 : decode cX12_next 169 = .ok (.iconst 1, 1) := dc_4 (gB_c lq_cX12_next q5_cX12_next 9 (o := 4) rfl)
theorem dX12_next_170 : decode cX12_next 170 = .ok (.iadd, 1) := dc_96 (gB_c lq_cX12_next q5_cX12_next 10 (o := 96) rfl)
theorem dX12_next_171 : decode cX12_next 171 = .ok (.putfield 103, 3) := dc_181 (gB_c lq_cX12_next q5_cX12_next 11 (o := 181) rfl) (gB_c lq_cX12_next q5_cX12_next 12 (o := 0) rfl) (gB_c lq_cX12_next q5_cX12_next 13 (o := 103) rfl) rfl
theorem dX12_next_174 : decode cX12_next 174 = .ok (.goto (-51), 3) := dc_167 (gB_c lq_cX12_next q5_cX12_next 14 (o := 167) rfl) (gB_c lq_cX12_next q5_cX12_next 15 (o := 255) rfl) (gB_c lq_cX12_next q5_cX12_next 16 (o := 205) rfl) rfl
theorem dX12_next_177 : decode cX12_next 177 = .ok (.aload_n 0, 1) := dc_42 (gB_c lq_cX12_next q5_cX12_next 17 (o := 42) rfl)
theorem dX12_next_178 : decode cX12_next 178 = .ok (.iconst 3, 1) := dc_6 (gB_c lq_cX12_next q5_cX12_next 18 (o := 6) rfl)
theorem dX12_next_179 : decode cX12_next 179 = .ok (.putfield 115, 3) := dc_181 (gB_c lq_cX12_next q5_cX12_next 19 (o := 181) rfl) (gB_c lq_cX12_next q5_cX12_next 20 (o := 0) rfl) (gB_c lq_cX12_next q5_cX12_next 21 (o := 115) rfl) rfl
theorem dX12_next_182 : decode cX12_next 182 = .ok (.aload_n 0, 1) := dc_42 (gB_c lq_cX12_next q5_cX12_next 22 (o := 42) rfl)
theorem dX12_next_183 : decode cX12_next 183 = .ok (.dup, 1) := dc_89 (gB_c lq_cX12_next q5_cX12_next 23 (o := 89) rfl)
theorem dX12_next_184 : decode cX12_next 184 = .ok (.getfield 103, 3) := dc_180 (gB_c lq_cX12_next q5_cX12_next 24 (o := 180) rfl) (gB_c lq_cX12_next q5_cX12_next 25 (o := 0) rfl) (gB_c lq_cX12_next q5_cX12_next 26 (o := 103) rfl) rfl
theorem dX12_next_187 : decode cX12_next 187 = .ok (.iconst 1, 1) := dc_4 (gB_c lq_cX12_next q5_cX12_next 27 (o := 4) rfl)
theorem dX12_next_188 : decode cX12_next 188 = .ok (.iadd, 1) := dc_96 (gB_c lq_cX12_next q5_cX12_next 28 (o := 96) rfl)
theorem dX12_next_189 : decode cX12_next 189 = .ok (.putfield 103, 3) := dc_181 (gB_c lq_cX12_next q5_cX12_next 29 (o := 181) rfl) (gB_c lq_cX12_next q5_cX12_next 30 (o := 0) rfl) (gB_c lq_cX12_next q5_cX12_next 31 (o := 103) rfl) rfl
theorem dX12_next_192 : decode cX12_next 192 = .ok (.return_, 1) := dc_177 (gB_c lq_cX12_next q6_cX12_next 0 (o := 177) rfl)
abbrev r0_cX12_octet : List Nat := [27, 133, 9, 42, 180, 0, 193, 4, 100, 133, 184, 0, 55, 153, 0, 12, 42, 180, 0, 50, 27, 46, 167, 0, 4, 2, 172]
theorem lq_cX12_octet : (cX12_octet).data.toList.map UInt8.toNat = r0_cX12_octet := by decide +kernel
theorem dX12_octet_0 : decode cX12_octet 0 = .ok (.iload_n 1, 1) := dc_27 (gB_l lq_cX12_octet (p := 0) (o := 27) rfl)
theorem dX12_octet_1 : decode cX12_octet 1 = .ok (.i2l, 1) := dc_133 (gB_l lq_cX12_octet (p := 1) (o := 133) rfl)
theorem dX12_octet_2 : decode cX12_octet 2 = .ok (.lconst 0, 1) := dc_9 (gB_l lq_cX12_octet (p := 2) (o := 9) rfl)
theorem dX12_octet_3 : decode cX12_octet 3 = .ok (.aload_n 0, 1) := dc_42 (gB_l lq_cX12_octet (p := 3) (o := 42) rfl)
theorem dX12_octet_4 : decode cX12_octet 4 = .ok (.getfield 193, 3) := dc_180 (gB_l lq_cX12_octet (p := 4) (o := 180) rfl) (gB_l lq_cX12_octet (p := 5) (o := 0) rfl) (gB_l lq_cX12_octet (p := 6) (o := 193) rfl) rfl
theorem dX12_octet_7 : decode cX12_octet 7 = .ok (.iconst 1, 1) := dc_4 (gB_l lq_cX12_octet (p := 7) (o := 4) rfl)
theorem dX12_octet_8 : decode cX12_octet 8 = .ok (.isub, 1) := dc_100 (gB_l lq_cX12_octet (p := 8) (o := 100) rfl)
theorem dX12_octet_9 : decode cX12_octet 9 = .ok (.i2l, 1) := dc_133 (gB_l lq_cX12_octet (p := 9) (o := 133) rfl)
theorem dX12_octet_10 : decode cX12_octet 10 = .ok (.invokestatic 55, 3) := dc_184 (gB_l lq_cX12_octet (p := 10) (o := 184) rfl) (gB_l lq_cX12_octet (p := 11) (o := 0) rfl) (gB_l lq_cX12_octet (p := 12) (o := 55) rfl) rfl
theorem dX12_octet_13 : decode cX12_octet 13 = .ok (.ifCond .eq 12, 3) := dc_153 (gB_l lq_cX12_octet (p := 13) (o := 153) rfl) (gB_l lq_cX12_octet (p := 14) (o := 0) rfl) (gB_l lq_cX12_octet (p := 15) (o := 12) rfl) rfl
theorem dX12_octet_16 : decode cX12_octet 16 = .ok (.aload_n 0, 1) := dc_42 (gB_l lq_cX12_octet (p := 16) (o := 42) rfl)
theorem dX12_octet_17 : decode cX12_octet 17 = .ok (.getfield 50, 3) := dc_180 (gB_l lq_cX12_octet (p := 17) (o := 180) rfl) (gB_l lq_cX12_octet (p := 18) (o := 0) rfl) (gB_l lq_cX12_octet (p := 19) (o := 50) rfl) rfl
theorem dX12_octet_20 : decode cX12_octet 20 = .ok (.iload_n 1, 1) := dc_27 (gB_l lq_cX12_octet (p := 20) (o := 27) rfl)
theorem dX12_octet_21 : decode cX12_octet 21 = .ok (.iaload, 1) := dc_46 (gB_l lq_cX12_octet (p := 21) (o := 46) rfl)
theorem dX12_octet_22 : decode cX12_octet 22 = .ok (.goto 4, 3) := dc_167 (gB_l lq_cX12_octet (p := 22) (o := 167) rfl) (gB_l lq_cX12_octet (p := 23) (o := 0) rfl) (gB_l lq_cX12_octet (p := 24) (o := 4) rfl) rfl
theorem dX12_octet_25 : decode cX12_octet 25 = .ok (.iconst (-1), 1) := dc_2 (gB_l lq_cX12_octet (p := 25) (o := 2) rfl)
theorem dX12_octet_26 : decode cX12_octet 26 = .ok (.ireturn, 1) := dc_172 (gB_l lq_cX12_octet (p := 26) (o := 172) rfl)
abbrev r0_cX12_ones : List Nat := [3, 60, 26, 61, 28, 153, 0, 15, 132, 1, 1, 28, 28, 4, 100, 126, 61, 167, 255, 243, 27, 172]
theorem lq_cX12_ones : (cX12_ones).data.toList.map UInt8.toNat = r0_cX12_ones := by decide +kernel
theorem dX12_ones_0 : decode cX12_ones 0 = .ok (.iconst 0, 1) := dc_3 (gB_l lq_cX12_ones (p := 0) (o := 3) rfl)
theorem dX12_ones_1 : decode cX12_ones 1 = .ok (.istore_n 1, 1) := dc_60 (gB_l lq_cX12_ones (p := 1) (o := 60) rfl)
theorem dX12_ones_2 : decode cX12_ones 2 = .ok (.iload_n 0, 1) := dc_26 (gB_l lq_cX12_ones (p := 2) (o := 26) rfl)
theorem dX12_ones_3 : decode cX12_ones 3 = .ok (.istore_n 2, 1) := dc_61 (gB_l lq_cX12_ones (p := 3) (o := 61) rfl)
theorem dX12_ones_4 : decode cX12_ones 4 = .ok (.iload_n 2, 1) := dc_28 (gB_l lq_cX12_ones (p := 4) (o := 28) rfl)
theorem dX12_ones_5 : decode cX12_ones 5 = .ok (.ifCond .eq 15, 3) := dc_153 (gB_l lq_cX12_ones (p := 5) (o := 153) rfl) (gB_l lq_cX12_ones (p := 6) (o := 0) rfl) (gB_l lq_cX12_ones (p := 7) (o := 15) rfl) rfl
theorem dX12_ones_8 : decode cX12_ones 8 = .ok (.iinc 1 1, 3) := dc_132 (gB_l lq_cX12_ones (p := 8) (o := 132) rfl) (gB_l lq_cX12_ones (p := 9) (o := 1) rfl) (gB_l lq_cX12_ones (p := 10) (o := 1) rfl) rfl
theorem dX12_ones_11 : decode cX12_ones 11 = .ok (.iload_n 2, 1) := dc_28 (gB_l lq_cX12_ones (p := 11) (o := 28) rfl)
theorem dX12_ones_12 : decode cX12_ones 12 = .ok (.iload_n 2, 1) := dc_28 (gB_l lq_cX12_ones (p := 12) (o := 28) rfl)
theorem dX12_ones_13 : decode cX12_ones 13 = .ok (.iconst 1, 1) := dc_4 (gB_l lq_cX12_ones (p := 13) (o := 4) rfl)
theorem dX12_ones_14 : decode cX12_ones 14 = .ok (.isub, 1) := dc_100 (gB_l lq_cX12_ones (p := 14) (o := 100) rfl)
theorem dX12_ones_15 : decode cX12_ones 15 = .ok (.iand, 1) := dc_126 (gB_l lq_cX12_ones (p := 15) (o := 126) rfl)
theorem dX12_ones_16 : decode cX12_ones 16 = .ok (.istore_n 2, 1) := dc_61 (gB_l lq_cX12_ones (p := 16) (o := 61) rfl)
theorem dX12_ones_17 : decode cX12_ones 17 = .ok (.goto (-13), 3) := dc_167 (gB_l lq_cX12_ones (p := 17) (o := 167) rfl) (gB_l lq_cX12_ones (p := 18) (o := 255) rfl) (gB_l lq_cX12_ones (p := 19) (o := 243) rfl) rfl
theorem dX12_ones_20 : decode cX12_ones 20 = .ok (.iload_n 1, 1) := dc_27 (gB_l lq_cX12_ones (p := 20) (o := 27) rfl)
theorem dX12_ones_21 : decode cX12_ones 21 = .ok (.ireturn, 1) := dc_172 (gB_l lq_cX12_ones (p := 21) (o := 172) rfl)
abbrev r2_cX12_parts : List Nat := [4, 3, 96, 61, 132, 3, 1, 167, 255, 189, 28, 172]
def a1_cX12_parts : List Nat := [21, 5, 29, 182, 0, 196, 2, 160, 0, 7, 4, 167, 0, 4, 3, 54, 4, 132, 5, 1, 167, 255, 223, 28, 21, 4, 153, 0, 7, 4, 167, 0]
abbrev r1_cX12_parts : List Nat := a1_cX12_parts ++ r2_cX12_parts
def a0_cX12_parts : List Nat := [3, 61, 3, 62, 29, 42, 27, 182, 0, 63, 162, 0, 64, 4, 54, 4, 3, 54, 5, 21, 5, 29, 162, 0, 33, 21, 4, 153, 0, 19, 42, 27]
abbrev r0_cX12_parts : List Nat := a0_cX12_parts ++ r1_cX12_parts
theorem lq_cX12_parts : (cX12_parts).data.toList.map UInt8.toNat = r0_cX12_parts := by decide +kernel
theorem q1_cX12_parts : ∀ i, (r0_cX12_parts)[32 + i]? = (r1_cX12_parts)[i]? := chn (A := a0_cX12_parts) (B := r1_cX12_parts) (n := 0) (k := 32) rfl (ch0 (R := r0_cX12_parts))
