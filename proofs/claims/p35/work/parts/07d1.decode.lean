/-! decode rows -/
abbrev r0_cJ0_charAt_5068e : List Nat := [42, 182, 1, 236, 153, 0, 12, 42, 180, 0, 9, 27, 184, 1, 239, 172, 42, 180, 0, 9, 27, 184, 1, 242, 172]
theorem lq_cJ0_charAt_5068e : (cJ0_charAt_5068e).data.toList.map UInt8.toNat = r0_cJ0_charAt_5068e := by decide +kernel
theorem dJ0_charAt_5068e_0 : decode cJ0_charAt_5068e 0 = .ok (.aload_n 0, 1) := dc_42 (gB_l lq_cJ0_charAt_5068e (p := 0) (o := 42) rfl)
theorem dJ0_charAt_5068e_1 : decode cJ0_charAt_5068e 1 = .ok (.invokevirtual 492, 3) := dc_182 (gB_l lq_cJ0_charAt_5068e (p := 1) (o := 182) rfl) (gB_l lq_cJ0_charAt_5068e (p := 2) (o := 1) rfl) (gB_l lq_cJ0_charAt_5068e (p := 3) (o := 236) rfl) rfl
theorem dJ0_charAt_5068e_4 : decode cJ0_charAt_5068e 4 = .ok (.ifCond .eq 12, 3) := dc_153 (gB_l lq_cJ0_charAt_5068e (p := 4) (o := 153) rfl) (gB_l lq_cJ0_charAt_5068e (p := 5) (o := 0) rfl) (gB_l lq_cJ0_charAt_5068e (p := 6) (o := 12) rfl) rfl
theorem dJ0_charAt_5068e_7 : decode cJ0_charAt_5068e 7 = .ok (.aload_n 0, 1) := dc_42 (gB_l lq_cJ0_charAt_5068e (p := 7) (o := 42) rfl)
theorem dJ0_charAt_5068e_8 : decode cJ0_charAt_5068e 8 = .ok (.getfield 9, 3) := dc_180 (gB_l lq_cJ0_charAt_5068e (p := 8) (o := 180) rfl) (gB_l lq_cJ0_charAt_5068e (p := 9) (o := 0) rfl) (gB_l lq_cJ0_charAt_5068e (p := 10) (o := 9) rfl) rfl
theorem dJ0_charAt_5068e_11 : decode cJ0_charAt_5068e 11 = .ok (.iload_n 1, 1) := dc_27 (gB_l lq_cJ0_charAt_5068e (p := 11) (o := 27) rfl)
theorem dJ0_charAt_5068e_12 : decode cJ0_charAt_5068e 12 = .ok (.invokestatic 495, 3) := dc_184 (gB_l lq_cJ0_charAt_5068e (p := 12) (o := 184) rfl) (gB_l lq_cJ0_charAt_5068e (p := 13) (o := 1) rfl) (gB_l lq_cJ0_charAt_5068e (p := 14) (o := 239) rfl) rfl
theorem dJ0_charAt_5068e_15 : decode cJ0_charAt_5068e 15 = .ok (.ireturn, 1) := dc_172 (gB_l lq_cJ0_charAt_5068e (p := 15) (o := 172) rfl)
theorem dJ0_charAt_5068e_16 : decode cJ0_charAt_5068e 16 = .ok (.aload_n 0, 1) := dc_42 (gB_l lq_cJ0_charAt_5068e (p := 16) (o := 42) rfl)
theorem dJ0_charAt_5068e_17 : decode cJ0_charAt_5068e 17 = .ok (.getfield 9, 3) := dc_180 (gB_l lq_cJ0_charAt_5068e (p := 17) (o := 180) rfl) (gB_l lq_cJ0_charAt_5068e (p := 18) (o := 0) rfl) (gB_l lq_cJ0_charAt_5068e (p := 19) (o := 9) rfl) rfl
theorem dJ0_charAt_5068e_20 : decode cJ0_charAt_5068e 20 = .ok (.iload_n 1, 1) := dc_27 (gB_l lq_cJ0_charAt_5068e (p := 20) (o := 27) rfl)
theorem dJ0_charAt_5068e_21 : decode cJ0_charAt_5068e 21 = .ok (.invokestatic 498, 3) := dc_184 (gB_l lq_cJ0_charAt_5068e (p := 21) (o := 184) rfl) (gB_l lq_cJ0_charAt_5068e (p := 22) (o := 1) rfl) (gB_l lq_cJ0_charAt_5068e (p := 23) (o := 242) rfl) rfl
theorem dJ0_charAt_5068e_24 : decode cJ0_charAt_5068e 24 = .ok (.ireturn, 1) := dc_172 (gB_l lq_cJ0_charAt_5068e (p := 24) (o := 172) rfl)
abbrev r0_cJ0_checkIndex_df160 : List Nat := [26, 27, 178, 4, 29, 184, 4, 35, 87, 177]
theorem lq_cJ0_checkIndex_df160 : (cJ0_checkIndex_df160).data.toList.map UInt8.toNat = r0_cJ0_checkIndex_df160 := by decide +kernel
theorem dJ0_checkIndex_df160_0 : decode cJ0_checkIndex_df160 0 = .ok (.iload_n 0, 1) := dc_26 (gB_l lq_cJ0_checkIndex_df160 (p := 0) (o := 26) rfl)
theorem dJ0_checkIndex_df160_1 : decode cJ0_checkIndex_df160 1 = .ok (.iload_n 1, 1) := dc_27 (gB_l lq_cJ0_checkIndex_df160 (p := 1) (o := 27) rfl)
theorem dJ0_checkIndex_df160_2 : decode cJ0_checkIndex_df160 2 = .ok (.getstatic 1053, 3) := dc_178 (gB_l lq_cJ0_checkIndex_df160 (p := 2) (o := 178) rfl) (gB_l lq_cJ0_checkIndex_df160 (p := 3) (o := 4) rfl) (gB_l lq_cJ0_checkIndex_df160 (p := 4) (o := 29) rfl) rfl
theorem dJ0_checkIndex_df160_5 : decode cJ0_checkIndex_df160 5 = .ok (.invokestatic 1059, 3) := dc_184 (gB_l lq_cJ0_checkIndex_df160 (p := 5) (o := 184) rfl) (gB_l lq_cJ0_checkIndex_df160 (p := 6) (o := 4) rfl) (gB_l lq_cJ0_checkIndex_df160 (p := 7) (o := 35) rfl) rfl
theorem dJ0_checkIndex_df160_8 : decode cJ0_checkIndex_df160 8 = .ok (.pop, 1) := dc_87 (gB_l lq_cJ0_checkIndex_df160 (p := 8) (o := 87) rfl)
theorem dJ0_checkIndex_df160_9 : decode cJ0_checkIndex_df160 9 = .ok (.return_, 1) := dc_177 (gB_l lq_cJ0_checkIndex_df160 (p := 9) (o := 177) rfl)
abbrev r0_cJ0_coder_7d493 : List Nat := [178, 0, 38, 153, 0, 10, 42, 180, 0, 15, 167, 0, 4, 4, 172]
theorem lq_cJ0_coder_7d493 : (cJ0_coder_7d493).data.toList.map UInt8.toNat = r0_cJ0_coder_7d493 := by decide +kernel
theorem dJ0_coder_7d493_0 : decode cJ0_coder_7d493 0 = .ok (.getstatic 38, 3) := dc_178 (gB_l lq_cJ0_coder_7d493 (p := 0) (o := 178) rfl) (gB_l lq_cJ0_coder_7d493 (p := 1) (o := 0) rfl) (gB_l lq_cJ0_coder_7d493 (p := 2) (o := 38) rfl) rfl
theorem dJ0_coder_7d493_3 : decode cJ0_coder_7d493 3 = .ok (.ifCond .eq 10, 3) := dc_153 (gB_l lq_cJ0_coder_7d493 (p := 3) (o := 153) rfl) (gB_l lq_cJ0_coder_7d493 (p := 4) (o := 0) rfl) (gB_l lq_cJ0_coder_7d493 (p := 5) (o := 10) rfl) rfl
theorem dJ0_coder_7d493_6 : decode cJ0_coder_7d493 6 = .ok (.aload_n 0, 1) := dc_42 (gB_l lq_cJ0_coder_7d493 (p := 6) (o := 42) rfl)
theorem dJ0_coder_7d493_7 : decode cJ0_coder_7d493 7 = .ok (.getfield 15, 3) := dc_180 (gB_l lq_cJ0_coder_7d493 (p := 7) (o := 180) rfl) (gB_l lq_cJ0_coder_7d493 (p := 8) (o := 0) rfl) (gB_l lq_cJ0_coder_7d493 (p := 9) (o := 15) rfl) rfl
theorem dJ0_coder_7d493_10 : decode cJ0_coder_7d493 10 = .ok (.goto 4, 3) := dc_167 (gB_l lq_cJ0_coder_7d493 (p := 10) (o := 167) rfl) (gB_l lq_cJ0_coder_7d493 (p := 11) (o := 0) rfl) (gB_l lq_cJ0_coder_7d493 (p := 12) (o := 4) rfl) rfl
theorem dJ0_coder_7d493_13 : decode cJ0_coder_7d493 13 = .ok (.iconst 1, 1) := dc_4 (gB_l lq_cJ0_coder_7d493 (p := 13) (o := 4) rfl)
theorem dJ0_coder_7d493_14 : decode cJ0_coder_7d493 14 = .ok (.ireturn, 1) := dc_172 (gB_l lq_cJ0_coder_7d493 (p := 14) (o := 172) rfl)
abbrev r0_cJ0_isLatin1_aae02 : List Nat := [178, 0, 38, 153, 0, 14, 42, 180, 0, 15, 154, 0, 7, 4, 167, 0, 4, 3, 172]
theorem lq_cJ0_isLatin1_aae02 : (cJ0_isLatin1_aae02).data.toList.map UInt8.toNat = r0_cJ0_isLatin1_aae02 := by decide +kernel
theorem dJ0_isLatin1_aae02_0 : decode cJ0_isLatin1_aae02 0 = .ok (.getstatic 38, 3) := dc_178 (gB_l lq_cJ0_isLatin1_aae02 (p := 0) (o := 178) rfl) (gB_l lq_cJ0_isLatin1_aae02 (p := 1) (o := 0) rfl) (gB_l lq_cJ0_isLatin1_aae02 (p := 2) (o := 38) rfl) rfl
theorem dJ0_isLatin1_aae02_3 : decode cJ0_isLatin1_aae02 3 = .ok (.ifCond .eq 14, 3) := dc_153 (gB_l lq_cJ0_isLatin1_aae02 (p := 3) (o := 153) rfl) (gB_l lq_cJ0_isLatin1_aae02 (p := 4) (o := 0) rfl) (gB_l lq_cJ0_isLatin1_aae02 (p := 5) (o := 14) rfl) rfl
theorem dJ0_isLatin1_aae02_6 : decode cJ0_isLatin1_aae02 6 = .ok (.aload_n 0, 1) := dc_42 (gB_l lq_cJ0_isLatin1_aae02 (p := 6) (o := 42) rfl)
theorem dJ0_isLatin1_aae02_7 : decode cJ0_isLatin1_aae02 7 = .ok (.getfield 15, 3) := dc_180 (gB_l lq_cJ0_isLatin1_aae02 (p := 7) (o := 180) rfl) (gB_l lq_cJ0_isLatin1_aae02 (p := 8) (o := 0) rfl) (gB_l lq_cJ0_isLatin1_aae02 (p := 9) (o := 15) rfl) rfl
theorem dJ0_isLatin1_aae02_10 : decode cJ0_isLatin1_aae02 10 = .ok (.ifCond .ne 7, 3) := dc_154 (gB_l lq_cJ0_isLatin1_aae02 (p := 10) (o := 154) rfl) (gB_l lq_cJ0_isLatin1_aae02 (p := 11) (o := 0) rfl) (gB_l lq_cJ0_isLatin1_aae02 (p := 12) (o := 7) rfl) rfl
theorem dJ0_isLatin1_aae02_13 : decode cJ0_isLatin1_aae02 13 = .ok (.iconst 1, 1) := dc_4 (gB_l lq_cJ0_isLatin1_aae02 (p := 13) (o := 4) rfl)
theorem dJ0_isLatin1_aae02_14 : decode cJ0_isLatin1_aae02 14 = .ok (.goto 4, 3) := dc_167 (gB_l lq_cJ0_isLatin1_aae02 (p := 14) (o := 167) rfl) (gB_l lq_cJ0_isLatin1_aae02 (p := 15) (o := 0) rfl) (gB_l lq_cJ0_isLatin1_aae02 (p := 16) (o := 4) rfl) rfl
theorem dJ0_isLatin1_aae02_17 : decode cJ0_isLatin1_aae02 17 = .ok (.iconst 0, 1) := dc_3 (gB_l lq_cJ0_isLatin1_aae02 (p := 17) (o := 3) rfl)
theorem dJ0_isLatin1_aae02_18 : decode cJ0_isLatin1_aae02 18 = .ok (.ireturn, 1) := dc_172 (gB_l lq_cJ0_isLatin1_aae02 (p := 18) (o := 172) rfl)
abbrev r0_cJ0_length_8abf5 : List Nat := [42, 180, 0, 9, 190, 42, 182, 1, 79, 122, 172]
theorem lq_cJ0_length_8abf5 : (cJ0_length_8abf5).data.toList.map UInt8.toNat = r0_cJ0_length_8abf5 := by decide +kernel
theorem dJ0_length_8abf5_0 : decode cJ0_length_8abf5 0 = .ok (.aload_n 0, 1) := dc_42 (gB_l lq_cJ0_length_8abf5 (p := 0) (o := 42) rfl)
theorem dJ0_length_8abf5_1 : decode cJ0_length_8abf5 1 = .ok (.getfield 9, 3) := dc_180 (gB_l lq_cJ0_length_8abf5 (p := 1) (o := 180) rfl) (gB_l lq_cJ0_length_8abf5 (p := 2) (o := 0) rfl) (gB_l lq_cJ0_length_8abf5 (p := 3) (o := 9) rfl) rfl
theorem dJ0_length_8abf5_4 : decode cJ0_length_8abf5 4 = .ok (.arraylength, 1) := dc_190 (gB_l lq_cJ0_length_8abf5 (p := 4) (o := 190) rfl)
theorem dJ0_length_8abf5_5 : decode cJ0_length_8abf5 5 = .ok (.aload_n 0, 1) := dc_42 (gB_l lq_cJ0_length_8abf5 (p := 5) (o := 42) rfl)
theorem dJ0_length_8abf5_6 : decode cJ0_length_8abf5 6 = .ok (.invokevirtual 335, 3) := dc_182 (gB_l lq_cJ0_length_8abf5 (p := 6) (o := 182) rfl) (gB_l lq_cJ0_length_8abf5 (p := 7) (o := 1) rfl) (gB_l lq_cJ0_length_8abf5 (p := 8) (o := 79) rfl) rfl
theorem dJ0_length_8abf5_9 : decode cJ0_length_8abf5 9 = .ok (.ishr, 1) := dc_122 (gB_l lq_cJ0_length_8abf5 (p := 9) (o := 122) rfl)
theorem dJ0_length_8abf5_10 : decode cJ0_length_8abf5 10 = .ok (.ireturn, 1) := dc_172 (gB_l lq_cJ0_length_8abf5 (p := 10) (o := 172) rfl)
abbrev r0_cJ1_charAt_3b067 : List Nat := [27, 42, 190, 184, 0, 9, 42, 27, 51, 17, 0, 255, 126, 146, 172]
theorem lq_cJ1_charAt_3b067 : (cJ1_charAt_3b067).data.toList.map UInt8.toNat = r0_cJ1_charAt_3b067 := by decide +kernel
theorem dJ1_charAt_3b067_0 : decode cJ1_charAt_3b067 0 = .ok (.iload_n 1, 1) := dc_27 (gB_l lq_cJ1_charAt_3b067 (p := 0) (o := 27) rfl)
theorem dJ1_charAt_3b067_1 : decode cJ1_charAt_3b067 1 = .ok (.aload_n 0, 1) := dc_42 (gB_l lq_cJ1_charAt_3b067 (p := 1) (o := 42) rfl)
theorem dJ1_charAt_3b067_2 : decode cJ1_charAt_3b067 2 = .ok (.arraylength, 1) := dc_190 (gB_l lq_cJ1_charAt_3b067 (p := 2) (o := 190) rfl)
theorem dJ1_charAt_3b067_3 : decode cJ1_charAt_3b067 3 = .ok (.invokestatic 9, 3) := dc_184 (gB_l lq_cJ1_charAt_3b067 (p := 3) (o := 184) rfl) (gB_l lq_cJ1_charAt_3b067 (p := 4) (o := 0) rfl) (gB_l lq_cJ1_charAt_3b067 (p := 5) (o := 9) rfl) rfl
theorem dJ1_charAt_3b067_6 : decode cJ1_charAt_3b067 6 = .ok (.aload_n 0, 1) := dc_42 (gB_l lq_cJ1_charAt_3b067 (p := 6) (o := 42) rfl)
theorem dJ1_charAt_3b067_7 : decode cJ1_charAt_3b067 7 = .ok (.iload_n 1, 1) := dc_27 (gB_l lq_cJ1_charAt_3b067 (p := 7) (o := 27) rfl)
theorem dJ1_charAt_3b067_8 : decode cJ1_charAt_3b067 8 = .ok (.baload, 1) := dc_51 (gB_l lq_cJ1_charAt_3b067 (p := 8) (o := 51) rfl)
theorem dJ1_charAt_3b067_9 : decode cJ1_charAt_3b067 9 = .ok (.sipush 255, 3) := dc_17 (gB_l lq_cJ1_charAt_3b067 (p := 9) (o := 17) rfl) (gB_l lq_cJ1_charAt_3b067 (p := 10) (o := 0) rfl) (gB_l lq_cJ1_charAt_3b067 (p := 11) (o := 255) rfl) rfl
theorem dJ1_charAt_3b067_12 : decode cJ1_charAt_3b067 12 = .ok (.iand, 1) := dc_126 (gB_l lq_cJ1_charAt_3b067 (p := 12) (o := 126) rfl)
theorem dJ1_charAt_3b067_13 : decode cJ1_charAt_3b067 13 = .ok (.i2c, 1) := dc_146 (gB_l lq_cJ1_charAt_3b067 (p := 13) (o := 146) rfl)
theorem dJ1_charAt_3b067_14 : decode cJ1_charAt_3b067 14 = .ok (.ireturn, 1) := dc_172 (gB_l lq_cJ1_charAt_3b067 (p := 14) (o := 172) rfl)
abbrev r0_cJ2_charAt_3b067 : List Nat := [27, 42, 184, 0, 67, 42, 27, 184, 0, 71, 172]
theorem lq_cJ2_charAt_3b067 : (cJ2_charAt_3b067).data.toList.map UInt8.toNat = r0_cJ2_charAt_3b067 := by decide +kernel
theorem dJ2_charAt_3b067_0 : decode cJ2_charAt_3b067 0 = .ok (.iload_n 1, 1) := dc_27 (gB_l lq_cJ2_charAt_3b067 (p := 0) (o := 27) rfl)
theorem dJ2_charAt_3b067_1 : decode cJ2_charAt_3b067 1 = .ok (.aload_n 0, 1) := dc_42 (gB_l lq_cJ2_charAt_3b067 (p := 1) (o := 42) rfl)
theorem dJ2_charAt_3b067_2 : decode cJ2_charAt_3b067 2 = .ok (.invokestatic 67, 3) := dc_184 (gB_l lq_cJ2_charAt_3b067 (p := 2) (o := 184) rfl) (gB_l lq_cJ2_charAt_3b067 (p := 3) (o := 0) rfl) (gB_l lq_cJ2_charAt_3b067 (p := 4) (o := 67) rfl) rfl
theorem dJ2_charAt_3b067_5 : decode cJ2_charAt_3b067 5 = .ok (.aload_n 0, 1) := dc_42 (gB_l lq_cJ2_charAt_3b067 (p := 5) (o := 42) rfl)
theorem dJ2_charAt_3b067_6 : decode cJ2_charAt_3b067 6 = .ok (.iload_n 1, 1) := dc_27 (gB_l lq_cJ2_charAt_3b067 (p := 6) (o := 27) rfl)
theorem dJ2_charAt_3b067_7 : decode cJ2_charAt_3b067 7 = .ok (.invokestatic 71, 3) := dc_184 (gB_l lq_cJ2_charAt_3b067 (p := 7) (o := 184) rfl) (gB_l lq_cJ2_charAt_3b067 (p := 8) (o := 0) rfl) (gB_l lq_cJ2_charAt_3b067 (p := 9) (o := 71) rfl) rfl
theorem dJ2_charAt_3b067_10 : decode cJ2_charAt_3b067 10 = .ok (.ireturn, 1) := dc_172 (gB_l lq_cJ2_charAt_3b067 (p := 10) (o := 172) rfl)
abbrev r0_cJ2_checkIndex_2214a : List Nat := [26, 43, 184, 0, 48, 184, 1, 158, 177]
theorem lq_cJ2_checkIndex_2214a : (cJ2_checkIndex_2214a).data.toList.map UInt8.toNat = r0_cJ2_checkIndex_2214a := by decide +kernel
theorem dJ2_checkIndex_2214a_0 : decode cJ2_checkIndex_2214a 0 = .ok (.iload_n 0, 1) := dc_26 (gB_l lq_cJ2_checkIndex_2214a (p := 0) (o := 26) rfl)
theorem dJ2_checkIndex_2214a_1 : decode cJ2_checkIndex_2214a 1 = .ok (.aload_n 1, 1) := dc_43 (gB_l lq_cJ2_checkIndex_2214a (p := 1) (o := 43) rfl)
theorem dJ2_checkIndex_2214a_2 : decode cJ2_checkIndex_2214a 2 = .ok (.invokestatic 48, 3) := dc_184 (gB_l lq_cJ2_checkIndex_2214a (p := 2) (o := 184) rfl) (gB_l lq_cJ2_checkIndex_2214a (p := 3) (o := 0) rfl) (gB_l lq_cJ2_checkIndex_2214a (p := 4) (o := 48) rfl) rfl
theorem dJ2_checkIndex_2214a_5 : decode cJ2_checkIndex_2214a 5 = .ok (.invokestatic 414, 3) := dc_184 (gB_l lq_cJ2_checkIndex_2214a (p := 5) (o := 184) rfl) (gB_l lq_cJ2_checkIndex_2214a (p := 6) (o := 1) rfl) (gB_l lq_cJ2_checkIndex_2214a (p := 7) (o := 158) rfl) rfl
theorem dJ2_checkIndex_2214a_8 : decode cJ2_checkIndex_2214a 8 = .ok (.return_, 1) := dc_177 (gB_l lq_cJ2_checkIndex_2214a (p := 8) (o := 177) rfl)
abbrev r1_cJ2_getChar_3b067 : List Nat := [42, 27, 132, 1, 1, 51, 17, 0, 255, 126, 178, 0, 59, 120, 42, 27, 51, 17, 0, 255, 126, 178, 0, 63, 120, 128, 146, 172]
def a0_cJ2_getChar_3b067 : List Nat := [178, 0, 44, 154, 0, 25, 27, 155, 0, 11, 27, 42, 184, 0, 48, 161, 0, 13, 187, 0, 52, 89, 18, 54, 183, 0, 56, 191, 27, 4, 120, 60]
abbrev r0_cJ2_getChar_3b067 : List Nat := a0_cJ2_getChar_3b067 ++ r1_cJ2_getChar_3b067
theorem lq_cJ2_getChar_3b067 : (cJ2_getChar_3b067).data.toList.map UInt8.toNat = r0_cJ2_getChar_3b067 := by decide +kernel
theorem q1_cJ2_getChar_3b067 : ∀ i, (r0_cJ2_getChar_3b067)[32 + i]? = (r1_cJ2_getChar_3b067)[i]? := chn (A := a0_cJ2_getChar_3b067) (B := r1_cJ2_getChar_3b067) (n := 0) (k := 32) rfl (ch0 (R := r0_cJ2_getChar_3b067))
theorem dJ2_getChar_3b067_0 : decode cJ2_getChar_3b067 0 = .ok (.getstatic 44, 3) := dc_178 (gB_l lq_cJ2_getChar_3b067 (p := 0) (o := 178) rfl) (gB_l lq_cJ2_getChar_3b067 (p := 1) (o := 0) rfl) (gB_l lq_cJ2_getChar_3b067 (p := 2) (o := 44) rfl) rfl
theorem dJ2_getChar_3b067_3 : decode cJ2_getChar_3b067 3 = .ok (.ifCond .ne 25, 3) := dc_154 (gB_l lq_cJ2_getChar_3b067 (p := 3) (o := 154) rfl) (gB_l lq_cJ2_getChar_3b067 (p := 4) (o := 0) rfl) (gB_l lq_cJ2_getChar_3b067 (p := 5) (o := 25) rfl) rfl
theorem dJ2_getChar_3b067_6 : decode cJ2_getChar_3b067 6 = .ok (.iload_n 1, 1) := dc_27 (gB_l lq_cJ2_getChar_3b067 (p := 6) (o := 27) rfl)
theorem dJ2_getChar_3b067_7 : decode cJ2_getChar_3b067 7 = .ok (.ifCond .lt 11, 3) := dc_155 (gB_l lq_cJ2_getChar_3b067 (p := 7) (o := 155) rfl) (gB_l lq_cJ2_getChar_3b067 (p := 8) (o := 0) rfl) (gB_l lq_cJ2_getChar_3b067 (p := 9) (o := 11) rfl) rfl
theorem dJ2_getChar_3b067_10 : decode cJ2_getChar_3b067 10 = .ok (.iload_n 1, 1) := dc_27 (gB_l lq_cJ2_getChar_3b067 (p := 10) (o := 27) rfl)
theorem dJ2_getChar_3b067_11 : decode cJ2_getChar_3b067 11 = .ok (.aload_n 0, 1) := dc_42 (gB_l lq_cJ2_getChar_3b067 (p := 11) (o := 42) rfl)
theorem dJ2_getChar_3b067_12 : decode cJ2_getChar_3b067 12 = .ok (.invokestatic 48, 3) := dc_184 (gB_l lq_cJ2_getChar_3b067 (p := 12) (o := 184) rfl) (gB_l lq_cJ2_getChar_3b067 (p := 13) (o := 0) rfl) (gB_l lq_cJ2_getChar_3b067 (p := 14) (o := 48) rfl) rfl
theorem dJ2_getChar_3b067_15 : decode cJ2_getChar_3b067 15 = .ok (.if_icmp .lt 13, 3) := dc_161 (gB_l lq_cJ2_getChar_3b067 (p := 15) (o := 161) rfl) (gB_l lq_cJ2_getChar_3b067 (p := 16) (o := 0) rfl) (gB_l lq_cJ2_getChar_3b067 (p := 17) (o := 13) rfl) rfl
theorem dJ2_getChar_3b067_18 : decode cJ2_getChar_3b067 18 = .ok (.new 52, 3) := dc_187 (gB_l lq_cJ2_getChar_3b067 (p := 18) (o := 187) rfl) (gB_l lq_cJ2_getChar_3b067 (p := 19) (o := 0) rfl) (gB_l lq_cJ2_getChar_3b067 (p := 20) (o := 52) rfl) rfl
theorem dJ2_getChar_3b067_21 : decode cJ2_getChar_3b067 21 = .ok (.dup, 1) := dc_89 (gB_l lq_cJ2_getChar_3b067 (p := 21) (o := 89) rfl)
theorem dJ2_getChar_3b067_22 : decode cJ2_getChar_3b067 22 = .ok (.ldc 54, 2) := dc_18 (gB_l lq_cJ2_getChar_3b067 (p := 22) (o := 18) rfl) (gB_l lq_cJ2_getChar_3b067 (p := 23) (o := 54) rfl)
theorem dJ2_getChar_3b067_24 : decode cJ2_getChar_3b067 24 = .ok (.invokespecial 56, 3) := dc_183 (gB_l lq_cJ2_getChar_3b067 (p := 24) (o := 183) rfl) (gB_l lq_cJ2_getChar_3b067 (p := 25) (o := 0) rfl) (gB_l lq_cJ2_getChar_3b067 (p := 26) (o := 56) rfl) rfl
theorem dJ2_getChar_3b067_27 : decode cJ2_getChar_3b067 27 = .ok (.athrow, 1) := dc_191 (gB_l lq_cJ2_getChar_3b067 (p := 27) (o := 191) rfl)
theorem dJ2_getChar_3b067_28 : decode cJ2_getChar_3b067 28 = .ok (.iload_n 1, 1) := dc_27 (gB_l lq_cJ2_getChar_3b067 (p := 28) (o := 27) rfl)
theorem dJ2_getChar_3b067_29 : decode cJ2_getChar_3b067 29 = .ok (.iconst 1, 1) := dc_4 (gB_l lq_cJ2_getChar_3b067 (p := 29) (o := 4) rfl)
theorem dJ2_getChar_3b067_30 : decode cJ2_getChar_3b067 30 = .ok (.ishl, 1) := dc_120 (gB_l lq_cJ2_getChar_3b067 (p := 30) (o := 120) rfl)
theorem dJ2_getChar_3b067_31 : decode cJ2_getChar_3b067 31 = .ok (.istore_n 1, 1) := dc_60 (gB_l lq_cJ2_getChar_3b067 (p := 31) (o := 60) rfl)
theorem dJ2_getChar_3b067_32 : decode cJ2_getChar_3b067 32 = .ok (.aload_n 0, 1) := dc_42 (gB_c lq_cJ2_getChar_3b067 q1_cJ2_getChar_3b067 0 (o := 42) rfl)
theorem dJ2_getChar_3b067_33 : decode cJ2_getChar_3b067 33 = .ok (.iload_n 1, 1) := dc_27 (gB_c lq_cJ2_getChar_3b067 q1_cJ2_getChar_3b067 1 (o := 27) rfl)
theorem dJ2_getChar_3b067_34 : decode cJ2_getChar_3b067 34 = .ok (.iinc 1 1, 3) := dc_132 (gB_c lq_cJ2_getChar_3b067 q1_cJ2_getChar_3b067 2 (o := 132) rfl) (gB_c lq_cJ2_getChar_3b067 q1_cJ2_getChar_3b067 3 (o := 1) rfl) (gB_c lq_cJ2_getChar_3b067 q1_cJ2_getChar_3b067 4 (o := 1) rfl) rfl
theorem dJ2_getChar_3b067_37 : decode cJ2_getChar_3b067 37 = .ok (.baload, 1) := dc_51 (gB_c lq_cJ2_getChar_3b067 q1_cJ2_getChar_3b067 5 (o := 51) rfl)
theorem dJ2_getChar_3b067_38 : decode cJ2_getChar_3b067 38 = .ok (.sipush 255, 3) := dc_17 (gB_c lq_cJ2_getChar_3b067 q1_cJ2_getChar_3b067 6 (o := 17) rfl) (gB_c lq_cJ2_getChar_3b067 q1_cJ2_getChar_3b067 7 (o := 0) rfl) (gB_c lq_cJ2_getChar_3b067 q1_cJ2_getChar_3b067 8 (o := 255) rfl) rfl
theorem dJ2_getChar_3b067_41 : decode cJ2_getChar_3b067 41 = .ok (.iand, 1) := dc_126 (gB_c lq_cJ2_getChar_3b067 q1_cJ2_getChar_3b067 9 (o := 126) rfl)
theorem dJ2_getChar_3b067_42 : decode cJ2_getChar_3b067 42 = .ok (.getstatic 59, 3) := dc_178 (gB_c lq_cJ2_getChar_3b067 q1_cJ2_getChar_3b067 10 (o := 178) rfl) (gB_c lq_cJ2_getChar_3b067 q1_cJ2_getChar_3b067 11 (o := 0) rfl) (gB_c lq_cJ2_getChar_3b067 q1_cJ2_getChar_3b067 12 (o := 59) rfl) rfl
theorem dJ2_getChar_3b067_45 : decode cJ2_getChar_3b067 45 = .ok (.ishl, 1) := dc_120 (gB_c lq_cJ2_getChar_3b067 q1_cJ2_getChar_3b067 13 (o := 120) rfl)
theorem dJ2_getChar_3b067_46 : decode cJ2_getChar_3b067 46 = .ok (.aload_n 0, 1) := dc_42 (gB_c lq_cJ2_getChar_3b067 q1_cJ2_getChar_3b067 14 (o := 42) rfl)
theorem dJ2_getChar_3b067_47 : decode cJ2_getChar_3b067 47 = .ok (.iload_n 1, 1) := dc_27 (gB_c lq_cJ2_getChar_3b067 q1_cJ2_getChar_3b067 15 (o := 27) rfl)
theorem dJ2_getChar_3b067_48 : decode cJ2_getChar_3b067 48 = .ok (.baload, 1) := dc_51 (gB_c lq_cJ2_getChar_3b067 q1_cJ2_getChar_3b067 16 (o := 51) rfl)
theorem dJ2_getChar_3b067_49 : decode cJ2_getChar_3b067 49 = .ok (.sipush 255, 3) := dc_17 (gB_c lq_cJ2_getChar_3b067 q1_cJ2_getChar_3b067 17 (o := 17) rfl) (gB_c lq_cJ2_getChar_3b067 q1_cJ2_getChar_3b067 18 (o := 0) rfl) (gB_c lq_cJ2_getChar_3b067 q1_cJ2_getChar_3b067 19 (o := 255) rfl) rfl
theorem dJ2_getChar_3b067_52 : decode cJ2_getChar_3b067 52 = .ok (.iand, 1) := dc_126 (gB_c lq_cJ2_getChar_3b067 q1_cJ2_getChar_3b067 20 (o := 126) rfl)
theorem dJ2_getChar_3b067_53 : decode cJ2_getChar_3b067 53 = .ok (.getstatic 63, 3) := dc_178 (gB_c lq_cJ2_getChar_3b067 q1_cJ2_getChar_3b067 21 (o := 178) rfl) (gB_c lq_cJ2_getChar_3b067 q1_cJ2_getChar_3b067 22 (o := 0) rfl) (gB_c lq_cJ2_getChar_3b067 q1_cJ2_getChar_3b067 23 (o := 63) rfl) rfl
theorem dJ2_getChar_3b067_56 : decode cJ2_getChar_3b067 56 = .ok (.ishl, 1) := dc_120 (gB_c lq_cJ2_getChar_3b067 q1_cJ2_getChar_3b067 24 (o := 120) rfl)
theorem dJ2_getChar_3b067_57 : decode cJ2_getChar_3b067 57 = .ok (.ior, 1) := dc_128 (gB_c lq_cJ2_getChar_3b067 q1_cJ2_getChar_3b067 25 (o := 128) rfl)
theorem dJ2_getChar_3b067_58 : decode cJ2_getChar_3b067 58 = .ok (.i2c, 1) := dc_146 (gB_c lq_cJ2_getChar_3b067 q1_cJ2_getChar_3b067 26 (o := 146) rfl)
theorem dJ2_getChar_3b067_59 : decode cJ2_getChar_3b067 59 = .ok (.ireturn, 1) := dc_172 (gB_c lq_cJ2_getChar_3b067 q1_cJ2_getChar_3b067 27 (o := 172) rfl)
abbrev r0_cJ2_length_9d52b : List Nat := [42, 190, 4, 122, 172]
theorem lq_cJ2_length_9d52b : (cJ2_length_9d52b).data.toList.map UInt8.toNat = r0_cJ2_length_9d52b := by decide +kernel
theorem dJ2_length_9d52b_0 : decode cJ2_length_9d52b 0 = .ok (.aload_n 0, 1) := dc_42 (gB_l lq_cJ2_length_9d52b (p := 0) (o := 42) rfl)
theorem dJ2_length_9d52b_1 : decode cJ2_length_9d52b 1 = .ok (.arraylength, 1) := dc_190 (gB_l lq_cJ2_length_9d52b (p := 1) (o := 190) rfl)
theorem dJ2_length_9d52b_2 : decode cJ2_length_9d52b 2 = .ok (.iconst 1, 1) := dc_4 (gB_l lq_cJ2_length_9d52b (p := 2) (o := 4) rfl)
theorem dJ2_length_9d52b_3 : decode cJ2_length_9d52b 3 = .ok (.ishr, 1) := dc_122 (gB_l lq_cJ2_length_9d52b (p := 3) (o := 122) rfl)
theorem dJ2_length_9d52b_4 : decode cJ2_length_9d52b 4 = .ok (.ireturn, 1) := dc_172 (gB_l lq_cJ2_length_9d52b (p := 4) (o := 172) rfl)
abbrev r0_cJ3_checkIndex_8e157 : List Nat := [26, 155, 0, 8, 26, 27, 161, 0, 10, 44, 26, 27, 184, 0, 95, 191, 26, 172]
theorem lq_cJ3_checkIndex_8e157 : (cJ3_checkIndex_8e157).data.toList.map UInt8.toNat = r0_cJ3_checkIndex_8e157 := by decide +kernel
theorem dJ3_checkIndex_8e157_0 : decode cJ3_checkIndex_8e157 0 = .ok (.iload_n 0, 1) := dc_26 (gB_l lq_cJ3_checkIndex_8e157 (p := 0) (o := 26) rfl)
theorem dJ3_checkIndex_8e157_1 : decode cJ3_checkIndex_8e157 1 = .ok (.ifCond .lt 8, 3) := dc_155 (gB_l lq_cJ3_checkIndex_8e157 (p := 1) (o := 155) rfl) (gB_l lq_cJ3_checkIndex_8e157 (p := 2) (o := 0) rfl) (gB_l lq_cJ3_checkIndex_8e157 (p := 3) (o := 8) rfl) rfl
theorem dJ3_checkIndex_8e157_4 : decode cJ3_checkIndex_8e157 4 = .ok (.iload_n 0, 1) := dc_26 (gB_l lq_cJ3_checkIndex_8e157 (p := 4) (o := 26) rfl)
theorem dJ3_checkIndex_8e157_5 : decode cJ3_checkIndex_8e157 5 = .ok (.iload_n 1, 1) := dc_27 (gB_l lq_cJ3_checkIndex_8e157 (p := 5) (o := 27) rfl)
theorem dJ3_checkIndex_8e157_6 : decode cJ3_checkIndex_8e157 6 = .ok (.if_icmp .lt 10, 3) := dc_161 (gB_l lq_cJ3_checkIndex_8e157 (p := 6) (o := 161) rfl) (gB_l lq_cJ3_checkIndex_8e157 (p := 7) (o := 0) rfl) (gB_l lq_cJ3_checkIndex_8e157 (p := 8) (o := 10) rfl) rfl
theorem dJ3_checkIndex_8e157_9 : decode cJ3_checkIndex_8e157 9 = .ok (.aload_n 2, 1) := dc_44 (gB_l lq_cJ3_checkIndex_8e157 (p := 9) (o := 44) rfl)
theorem dJ3_checkIndex_8e157_10 : decode cJ3_checkIndex_8e157 10 = .ok (.iload_n 0, 1) := dc_26 (gB_l lq_cJ3_checkIndex_8e157 (p := 10) (o := 26) rfl)
theorem dJ3_checkIndex_8e157_11 : decode cJ3_checkIndex_8e157 11 = .ok (.iload_n 1, 1) := dc_27 (gB_l lq_cJ3_checkIndex_8e157 (p := 11) (o := 27) rfl)
theorem dJ3_checkIndex_8e157_12 : decode cJ3_checkIndex_8e157 12 = .ok (.invokestatic 95, 3) := dc_184 (gB_l lq_cJ3_checkIndex_8e157 (p := 12) (o := 184) rfl) (gB_l lq_cJ3_checkIndex_8e157 (p := 13) (o := 0) rfl) (gB_l lq_cJ3_checkIndex_8e157 (p := 14) (o := 95) rfl) rfl
theorem dJ3_checkIndex_8e157_15 : decode cJ3_checkIndex_8e157 15 = .ok (.athrow, 1) := dc_191 (gB_l lq_cJ3_checkIndex_8e157 (p := 15) (o := 191) rfl)
theorem dJ3_checkIndex_8e157_16 : decode cJ3_checkIndex_8e157 16 = .ok (.iload_n 0, 1) := dc_26 (gB_l lq_cJ3_checkIndex_8e157 (p := 16) (o := 26) rfl)
theorem dJ3_checkIndex_8e157_17 : decode cJ3_checkIndex_8e157 17 = .ok (.ireturn, 1) := dc_172 (gB_l lq_cJ3_checkIndex_8e157 (p := 17) (o := 172) rfl)
abbrev r1_cJ6_bitCount_0f7a4 : List Nat := [126, 59, 26, 26, 16, 8, 124, 96, 59, 26, 26, 16, 16, 124, 96, 59, 26, 16, 63, 126, 172]
def a0_cJ6_bitCount_0f7a4 : List Nat := [26, 26, 4, 124, 19, 1, 9, 126, 100, 59, 26, 19, 1, 10, 126, 26, 5, 124, 19, 1, 10, 126, 96, 59, 26, 26, 7, 124, 96, 19, 1, 11]
abbrev r0_cJ6_bitCount_0f7a4 : List Nat := a0_cJ6_bitCount_0f7a4 ++ r1_cJ6_bitCount_0f7a4
theorem lq_cJ6_bitCount_0f7a4 : (cJ6_bitCount_0f7a4).data.toList.map UInt8.toNat = r0_cJ6_bitCount_0f7a4 := by decide +kernel
theorem q1_cJ6_bitCount_0f7a4 : ∀ i, (r0_cJ6_bitCount_0f7a4)[32 + i]? = (r1_cJ6_bitCount_0f7a4)[i]? := chn (A := a0_cJ6_bitCount_0f7a4) (B := r1_cJ6_bitCount_0f7a4) (n := 0) (k := 32) rfl (ch0 (R := r0_cJ6_bitCount_0f7a4))
theorem dJ6_bitCount_0f7a4_0 : decode cJ6_bitCount_0f7a4 0 = .ok (.iload_n 0, 1) := dc_26 (gB_l lq_cJ6_bitCount_0f7a4 (p := 0) (o := 26) rfl)
theorem dJ6_bitCount_0f7a4_1 : decode cJ6_bitCount_0f7a4 1 = .ok (.iload_n 0, 1) := dc_26 (gB_l lq_cJ6_bitCount_0f7a4 (p := 1) (o := 26) rfl)
theorem dJ6_bitCount_0f7a4_2 : decode cJ6_bitCount_0f7a4 2 = .ok (.iconst 1, 1) := dc_4 (gB_l lq_cJ6_bitCount_0f7a4 (p := 2) (o := 4) rfl)
theorem dJ6_bitCount_0f7a4_3 : decode cJ6_bitCount_0f7a4 3 = .ok (.iushr, 1) := dc_124 (gB_l lq_cJ6_bitCount_0f7a4 (p := 3) (o := 124) rfl)
theorem dJ6_bitCount_0f7a4_4 : decode cJ6_bitCount_0f7a4 4 = .ok (.ldc_w 265, 3) := dc_19 (gB_l lq_cJ6_bitCount_0f7a4 (p := 4) (o := 19) rfl) (gB_l lq_cJ6_bitCount_0f7a4 (p := 5) (o := 1) rfl) (gB_l lq_cJ6_bitCount_0f7a4 (p := 6) (o := 9) rfl) rfl
theorem dJ6_bitCount_0f7a4_7 : decode cJ6_bitCount_0f7a4 7 = .ok (.iand, 1) := dc_126 (gB_l lq_cJ6_bitCount_0f7a4 (p := 7) (o := 126) rfl)
theorem dJ6_bitCount_0f7a4_8 : decode cJ6_bitCount_0f7a4 8 = .ok (.isub, 1) := dc_100 (gB_l lq_cJ6_bitCount_0f7a4 (p := 8) (o := 100) rfl)
theorem dJ6_bitCount_0f7a4_9 : decode cJ6_bitCount_0f7a4 9 = .ok (.istore_n 0, 1) := dc_59 (gB_l lq_cJ6_bitCount_0f7a4 (p := 9) (o := 59) rfl)
theorem dJ6_bitCount_0f7a4_10 : decode cJ6_bitCount_0f7a4 10 = .ok (.iload_n 0, 1) := dc_26 (gB_l lq_cJ6_bitCount_0f7a4 (p := 10) (o := 26) rfl)
theorem dJ6_bitCount_0f7a4_11 : decode cJ6_bitCount_0f7a4 11 = .ok (.ldc_w 266, 3) := dc_19 (gB_l lq_cJ6_bitCount_0f7a4 (p := 11) (o := 19) rfl) (gB_l lq_cJ6_bitCount_0f7a4 (p := 12) (o := 1) rfl) (gB_l lq_cJ6_bitCount_0f7a4 (p := 13) (o := 10) rfl) rfl
theorem dJ6_bitCount_0f7a4_14 : decode cJ6_bitCount_0f7a4 14 = .ok (.iand, 1) := dc_126 (gB_l lq_cJ6_bitCount_0f7a4 (p := 14) (o := 126) rfl)
theorem dJ6_bitCount_0f7a4_15 : decode cJ6_bitCount_0f7a4 15 = .ok (.iload_n 0, 1) := dc_26 (gB_l lq_cJ6_bitCount_0f7a4 (p := 15) (o := 26) rfl)
theorem dJ6_bitCount_0f7a4_16 : decode cJ6_bitCount_0f7a4 16 = .ok (.iconst 2, 1) := dc_5 (gB_l lq_cJ6_bitCount_0f7a4 (p := 16) (o := 5) rfl)
theorem dJ6_bitCount_0f7a4_17 : decode cJ6_bitCount_0f7a4 17 = .ok (.iushr, 1) := dc_124 (gB_l lq_cJ6_bitCount_0f7a4 (p := 17) (o := 124) rfl)
theorem dJ6_bitCount_0f7a4_18 : decode cJ6_bitCount_0f7a4 18 = .ok (.ldc_w 266, 3) := dc_19 (gB_l lq_cJ6_bitCount_0f7a4 (p := 18) (o := 19) rfl) (gB_l lq_cJ6_bitCount_0f7a4 (p := 19) (o := 1) rfl) (gB_l lq_cJ6_bitCount_0f7a4 (p := 20) (o := 10) rfl) rfl
theorem dJ6_bitCount_0f7a4_21 : decode cJ6_bitCount_0f7a4 21 = .ok (.iand, 1) := dc_126 (gB_l lq_cJ6_bitCount_0f7a4 (p := 21) (o := 126) rfl)
theorem dJ6_bitCount_0f7a4_22 : decode cJ6_bitCount_0f7a4 22 = .ok (.iadd, 1) := dc_96 (gB_l lq_cJ6_bitCount_0f7a4 (p := 22) (o := 96) rfl)
theorem dJ6_bitCount_0f7a4_23 : decode cJ6_bitCount_0f7a4 23 = .ok (.istore_n 0, 1) := dc_59 (gB_l lq_cJ6_bitCount_0f7a4 (p := 23) (o := 59) rfl)
theorem dJ6_bitCount_0f7a4_24 : decode cJ6_bitCount_0f7a4 24 = .ok (.iload_n 0, 1) := dc_26 (gB_l lq_cJ6_bitCount_0f7a4 (p := 24) (o := 26) rfl)
theorem dJ6_bitCount_0f7a4_25 : decode cJ6_bitCount_0f7a4 25 = .ok (.iload_n 0, 1) := dc_26 (gB_l lq_cJ6_bitCount_0f7a4 (p := 25) (o := 26) rfl)
theorem dJ6_bitCount_0f7a4_26 : decode cJ6_bitCount_0f7a4 26 = .ok (.iconst 4, 1) := dc_7 (gB_l lq_cJ6_bitCount_0f7a4 (p := 26) (o := 7) rfl)
theorem dJ6_bitCount_0f7a4_27 : decode cJ6_bitCount_0f7a4 27 = .ok (.iushr, 1) := dc_124 (gB_l lq_cJ6_bitCount_0f7a4 (p := 27) (o := 124) rfl)
theorem dJ6_bitCount_0f7a4_28 : decode cJ6_bitCount_0f7a4 28 = .ok (.iadd, 1) := dc_96 (gB_l lq_cJ6_bitCount_0f7a4 (p := 28) (o := 96) rfl)
theorem dJ6_bitCount_0f7a4_29 : decode cJ6_bitCount_0f7a4 29 = .ok (.ldc_w 267, 3) := dc_19 (gB_l lq_cJ6_bitCount_0f7a4 (p := 29) (o := 19) rfl) (gB_l lq_cJ6_bitCount_0f7a4 (p := 30) (o := 1) rfl) (gB_l lq_cJ6_bitCount_0f7a4 (p := 31) (o := 11) rfl) rfl
theorem dJ6_bitCount_0f7a4_32 : decode cJ6_bitCount_0f7a4 32 = .ok (.iand, 1) := dc_126 (gB_c lq_cJ6_bitCount_0f7a4 q1_cJ6_bitCount_0f7a4 0 (o := 126) rfl)
theorem dJ6_bitCount_0f7a4_33 : decode cJ6_bitCount_0f7a4 33 = .ok (.istore_n 0, 1) := dc_59 (gB_c lq_cJ6_bitCount_0f7a4 q1_cJ6_bitCount_0f7a4 1 (o := 59) rfl)
theorem dJ6_bitCount_0f7a4_34 : decode cJ6_bitCount_0f7a4 34 = .ok (.iload_n 0, 1) := dc_26 (gB_c lq_cJ6_bitCount_0f7a4 q1_cJ6_bitCount_0f7a4 2 (o := 26) rfl)
theorem dJ6_bitCount_0f7a4_35 : decode cJ6_bitCount_0f7a4 35 = .ok (.iload_n 0, 1) := dc_26 (gB_c lq_cJ6_bitCount_0f7a4 q1_cJ6_bitCount_0f7a4 3 (o := 26) rfl)
theorem dJ6_bitCount_0f7a4_36 : decode cJ6_bitCount_0f7a4 36 = .ok (.bipush 8, 2) := dc_16 (gB_c lq_cJ6_bitCount_0f7a4 q1_cJ6_bitCount_0f7a4 4 (o := 16) rfl) (gB_c lq_cJ6_bitCount_0f7a4 q1_cJ6_bitCount_0f7a4 5 (o := 8) rfl) rfl
theorem dJ6_bitCount_0f7a4_38 : decode cJ6_bitCount_0f7a4 38 = .ok (.iushr, 1) := dc_124 (gB_c lq_cJ6_bitCount_0f7a4 q1_cJ6_bitCount_0f7a4 6 (o := 124) rfl)
theorem dJ6_bitCount_0f7a4_39 : decode cJ6_bitCount_0f7a4 39 = .ok (.iadd, 1) := dc_96 (gB_c lq_cJ6_bitCount_0f7a4 q1_cJ6_bitCount_0f7a4 7 (o := 96) rfl)
theorem dJ6_bitCount_0f7a4_40 : decode cJ6_bitCount_0f7a4 40 = .ok (.istore_n 0, 1) := dc_59 (gB_c lq_cJ6_bitCount_0f7a4 q1_cJ6_bitCount_0f7a4 8 (o := 59) rfl)
theorem dJ6_bitCount_0f7a4_41 : decode cJ6_bitCount_0f7a4 41 = .ok (.iload_n 0, 1) := dc_26 (gB_c lq_cJ6_bitCount_0f7a4 q1_cJ6_bitCount_0f7a4 9 (o := 26) rfl)
theorem dJ6_bitCount_0f7a4_42 : decode cJ6_bitCount_0f7a4 42 = .ok (.iload_n 0, 1) := dc_26 (gB_c lq_cJ6_bitCount_0f7a4 q1_cJ6_bitCount_0f7a4 10 (o := 26) rfl)
theorem dJ6_bitCount_0f7a4_43 : decode cJ6_bitCount_0f7a4 43 = .ok (.bipush 16, 2) := dc_16 (gB_c lq_cJ6_bitCount_0f7a4 q1_cJ6_bitCount_0f7a4 11 (o := 16) rfl) (gB_c lq_cJ6_bitCount_0f7a4 q1_cJ6_bitCount_0f7a4 12 (o := 16) rfl) rfl
theorem dJ6_bitCount_0f7a4_45 : decode cJ6_bitCount_0f7a4 45 = .ok (.iushr, 1) := dc_124 (gB_c lq_cJ6_bitCount_0f7a4 q1_cJ6_bitCount_0f7a4 13 (o := 124) rfl)
theorem dJ6_bitCount_0f7a4_46 : decode cJ6_bitCount_0f7a4 46 = .ok (.iadd, 1) := dc_96 (gB_c lq_cJ6_bitCount_0f7a4 q1_cJ6_bitCount_0f7a4 14 (o := 96) rfl)
theorem dJ6_bitCount_0f7a4_47 : decode cJ6_bitCount_0f7a4 47 = .ok (.istore_n 0, 1) := dc_59 (gB_c lq_cJ6_bitCount_0f7a4 q1_cJ6_bitCount_0f7a4 15 (o := 59) rfl)
theorem dJ6_bitCount_0f7a4_48 : decode cJ6_bitCount_0f7a4 48 = .ok (.iload_n 0, 1) := dc_26 (gB_c lq_cJ6_bitCount_0f7a4 q1_cJ6_bitCount_0f7a4 16 (o := 26) rfl)
theorem dJ6_bitCount_0f7a4_49 : decode cJ6_bitCount_0f7a4 49 = .ok (.bipush 63, 2) := dc_16 (gB_c lq_cJ6_bitCount_0f7a4 q1_cJ6_bitCount_0f7a4 17 (o := 16) rfl) (gB_c lq_cJ6_bitCount_0f7a4 q1_cJ6_bitCount_0f7a4 18 (o := 63) rfl) rfl
theorem dJ6_bitCount_0f7a4_51 : decode cJ6_bitCount_0f7a4 51 = .ok (.iand, 1) := dc_126 (gB_c lq_cJ6_bitCount_0f7a4 q1_cJ6_bitCount_0f7a4 19 (o := 126) rfl)
theorem dJ6_bitCount_0f7a4_52 : decode cJ6_bitCount_0f7a4 52 = .ok (.ireturn, 1) := dc_172 (gB_c lq_cJ6_bitCount_0f7a4 q1_cJ6_bitCount_0f7a4 20 (o := 172) rfl)
abbrev r0_cJ7_fill_53178 : List Nat := [3, 61, 42, 190, 62, 28, 29, 162, 0, 13, 42, 28, 27, 79, 132, 2, 1, 167, 255, 244, 177]
theorem lq_cJ7_fill_53178 : (cJ7_fill_53178).data.toList.map UInt8.toNat = r0_cJ7_fill_53178 := by decide +kernel
theorem dJ7_fill_53178_0 : decode cJ7_fill_53178 0 = .ok (.iconst 0, 1) := dc_3 (gB_l lq_cJ7_fill_53178 (p := 0) (o := 3) rfl)
theorem dJ7_fill_53178_1 : decode cJ7_fill_53178 1 = .ok (.istore_n 2, 1) := dc_61 (gB_l lq_cJ7_fill_53178 (p := 1) (o := 61) rfl)
theorem dJ7_fill_53178_2 : decode cJ7_fill_53178 2 = .ok (.aload_n 0, 1) := dc_42 (gB_l lq_cJ7_fill_53178 (p := 2) (o := 42) rfl)
theorem dJ7_fill_53178_3 : decode cJ7_fill_53178 3 = .ok (.arraylength, 1) := dc_190 (gB_l lq_cJ7_fill_53178 (p := 3) (o := 190) rfl)
theorem dJ7_fill_53178_4 : decode cJ7_fill_53178 4 = .ok (.istore_n 3, 1) := dc_62 (gB_l lq_cJ7_fill_53178 (p := 4) (o := 62) rfl)
theorem dJ7_fill_53178_5 : decode cJ7_fill_53178 5 = .ok (.iload_n 2, 1) := dc_28 (gB_l lq_cJ7_fill_53178 (p := 5) (o := 28) rfl)
theorem dJ7_fill_53178_6 : decode cJ7_fill_53178 6 = .ok (.iload_n 3, 1) := dc_29 (gB_l lq_cJ7_fill_53178 (p := 6) (o := 29) rfl)
theorem dJ7_fill_53178_7 : decode cJ7_fill_53178 7 = .ok (.if_icmp .ge 13, 3) := dc_162 (gB_l lq_cJ7_fill_53178 (p := 7) (o := 162) rfl) (gB_l lq_cJ7_fill_53178 (p := 8) (o := 0) rfl) (gB_l lq_cJ7_fill_53178 (p := 9) (o := 13) rfl) rfl
theorem dJ7_fill_53178_10 : decode cJ7_fill_53178 10 = .ok (.aload_n 0, 1) := dc_42 (gB_l lq_cJ7_fill_53178 (p := 10) (o := 42) rfl)
theorem dJ7_fill_53178_11 : decode cJ7_fill_53178 11 = .ok (.iload_n 2, 1) := dc_28 (gB_l lq_cJ7_fill_53178 (p := 11) (o := 28) rfl)
theorem dJ7_fill_53178_12 : decode cJ7_fill_53178 12 = .ok (.iload_n 1, 1) := dc_27 (gB_l lq_cJ7_fill_53178 (p := 12) (o := 27) rfl)
theorem dJ7_fill_53178_13 : decode cJ7_fill_53178 13 = .ok (.iastore, 1) := dc_79 (gB_l lq_cJ7_fill_53178 (p := 13) (o := 79) rfl)
theorem dJ7_fill_53178_14 : decode cJ7_fill_53178 14 = .ok (.iinc 2 1, 3) := dc_132 (gB_l lq_cJ7_fill_53178 (p := 14) (o := 132) rfl) (gB_l lq_cJ7_fill_53178 (p := 15) (o := 2) rfl) (gB_l lq_cJ7_fill_53178 (p := 16) (o := 1) rfl) rfl
theorem dJ7_fill_53178_17 : decode cJ7_fill_53178 17 = .ok (.goto (-12), 3) := dc_167 (gB_l lq_cJ7_fill_53178 (p := 17) (o := 167) rfl) (gB_l lq_cJ7_fill_53178 (p := 18) (o := 255) rfl) (gB_l lq_cJ7_fill_53178 (p := 19) (o := 244) rfl) rfl
theorem dJ7_fill_53178_20 : decode cJ7_fill_53178 20 = .ok (.return_, 1) := dc_177 (gB_l lq_cJ7_fill_53178 (p := 20) (o := 177) rfl)
abbrev r0_cJ9_abs_0f7a4 : List Nat := [26, 156, 0, 8, 26, 116, 167, 0, 4, 26, 172]
theorem lq_cJ9_abs_0f7a4 : (cJ9_abs_0f7a4).data.toList.map UInt8.toNat = r0_cJ9_abs_0f7a4 := by decide +kernel
theorem dJ9_abs_0f7a4_0 : decode cJ9_abs_0f7a4 0 = .ok (.iload_n 0, 1) := dc_26 (gB_l lq_cJ9_abs_0f7a4 (p := 0) (o := 26) rfl)
theorem dJ9_abs_0f7a4_1 : decode cJ9_abs_0f7a4 1 = .ok (.ifCond .ge 8, 3) := dc_156 (gB_l lq_cJ9_abs_0f7a4 (p := 1) (o := 156) rfl) (gB_l lq_cJ9_abs_0f7a4 (p := 2) (o := 0) rfl) (gB_l lq_cJ9_abs_0f7a4 (p := 3) (o := 8) rfl) rfl
theorem dJ9_abs_0f7a4_4 : decode cJ9_abs_0f7a4 4 = .ok (.iload_n 0, 1) := dc_26 (gB_l lq_cJ9_abs_0f7a4 (p := 4) (o := 26) rfl)
theorem dJ9_abs_0f7a4_5 : decode cJ9_abs_0f7a4 5 = .ok (.ineg, 1) := dc_116 (gB_l lq_cJ9_abs_0f7a4 (p := 5) (o := 116) rfl)
theorem dJ9_abs_0f7a4_6 : decode cJ9_abs_0f7a4 6 = .ok (.goto 4, 3) := dc_167 (gB_l lq_cJ9_abs_0f7a4 (p := 6) (o := 167) rfl) (gB_l lq_cJ9_abs_0f7a4 (p := 7) (o := 0) rfl) (gB_l lq_cJ9_abs_0f7a4 (p := 8) (o := 4) rfl) rfl
theorem dJ9_abs_0f7a4_9 : decode cJ9_abs_0f7a4 9 = .ok (.iload_n 0, 1) := dc_26 (gB_l lq_cJ9_abs_0f7a4 (p := 9) (o := 26) rfl)
theorem dJ9_abs_0f7a4_10 : decode cJ9_abs_0f7a4 10 = .ok (.ireturn, 1) := dc_172 (gB_l lq_cJ9_abs_0f7a4 (p := 10) (o := 172) rfl)
abbrev r0_cJ9_max_7cf53 : List Nat := [26, 27, 161, 0, 7, 26, 167, 0, 4, 27, 172]
theorem lq_cJ9_max_7cf53 : (cJ9_max_7cf53).data.toList.map UInt8.toNat = r0_cJ9_max_7cf53 := by decide +kernel
theorem dJ9_max_7cf53_0 : decode cJ9_max_7cf53 0 = .ok (.iload_n 0, 1) := dc_26 (gB_l lq_cJ9_max_7cf53 (p := 0) (o := 26) rfl)
theorem dJ9_max_7cf53_1 : decode cJ9_max_7cf53 1 = .ok (.iload_n 1, 1) := dc_27 (gB_l lq_cJ9_max_7cf53 (p := 1) (o := 27) rfl)
theorem dJ9_max_7cf53_2 : decode cJ9_max_7cf53 2 = .ok (.if_icmp .lt 7, 3) := dc_161 (gB_l lq_cJ9_max_7cf53 (p := 2) (o := 161) rfl) (gB_l lq_cJ9_max_7cf53 (p := 3) (o := 0) rfl) (gB_l lq_cJ9_max_7cf53 (p := 4) (o := 7) rfl) rfl
theorem dJ9_max_7cf53_5 : decode cJ9_max_7cf53 5 = .ok (.iload_n 0, 1) := dc_26 (gB_l lq_cJ9_max_7cf53 (p := 5) (o := 26) rfl)
theorem dJ9_max_7cf53_6 : decode cJ9_max_7cf53 6 = .ok (.goto 4, 3) := dc_167 (gB_l lq_cJ9_max_7cf53 (p := 6) (o := 167) rfl) (gB_l lq_cJ9_max_7cf53 (p := 7) (o := 0) rfl) (gB_l lq_cJ9_max_7cf53 (p := 8) (o := 4) rfl) rfl
theorem dJ9_max_7cf53_9 : decode cJ9_max_7cf53 9 = .ok (.iload_n 1, 1) := dc_27 (gB_l lq_cJ9_max_7cf53 (p := 9) (o := 27) rfl)
theorem dJ9_max_7cf53_10 : decode cJ9_max_7cf53 10 = .ok (.ireturn, 1) := dc_172 (gB_l lq_cJ9_max_7cf53 (p := 10) (o := 172) rfl)
abbrev r0_cJ9_min_7cf53 : List Nat := [26, 27, 163, 0, 7, 26, 167, 0, 4, 27, 172]
theorem lq_cJ9_min_7cf53 : (cJ9_min_7cf53).data.toList.map UInt8.toNat = r0_cJ9_min_7cf53 := by decide +kernel
theorem dJ9_min_7cf53_0 : decode cJ9_min_7cf53 0 = .ok (.iload_n 0, 1) := dc_26 (gB_l lq_cJ9_min_7cf53 (p := 0) (o := 26) rfl)
theorem dJ9_min_7cf53_1 : decode cJ9_min_7cf53 1 = .ok (.iload_n 1, 1) := dc_27 (gB_l lq_cJ9_min_7cf53 (p := 1) (o := 27) rfl)
theorem dJ9_min_7cf53_2 : decode cJ9_min_7cf53 2 = .ok (.if_icmp .gt 7, 3) := dc_163 (gB_l lq_cJ9_min_7cf53 (p := 2) (o := 163) rfl) (gB_l lq_cJ9_min_7cf53 (p := 3) (o := 0) rfl) (gB_l lq_cJ9_min_7cf53 (p := 4) (o := 7) rfl) rfl
theorem dJ9_min_7cf53_5 : decode cJ9_min_7cf53 5 = .ok (.iload_n 0, 1) := dc_26 (gB_l lq_cJ9_min_7cf53 (p := 5) (o := 26) rfl)
theorem dJ9_min_7cf53_6 : decode cJ9_min_7cf53 6 = .ok (.goto 4, 3) := dc_167 (gB_l lq_cJ9_min_7cf53 (p := 6) (o := 167) rfl) (gB_l lq_cJ9_min_7cf53 (p := 7) (o := 0) rfl) (gB_l lq_cJ9_min_7cf53 (p := 8) (o := 4) rfl) rfl
theorem dJ9_min_7cf53_9 : decode cJ9_min_7cf53 9 = .ok (.iload_n 1, 1) := dc_27 (gB_l lq_cJ9_min_7cf53 (p := 9) (o := 27) rfl)
theorem dJ9_min_7cf53_10 : decode cJ9_min_7cf53 10 = .ok (.ireturn, 1) := dc_172 (gB_l lq_cJ9_min_7cf53 (p := 10) (o := 172) rfl)
abbrev r53_cL_law : List Nat := [43, 42, 29, 4, 96, 46, 182, 0, 187, 87, 44, 42, 29, 4, 96, 46, 182, 0, 190, 87, 167, 0, 3, 132, 3, 6, 167, 249, 88, 4, 172]
def a52_cL_law : List Nat := [42, 29, 4, 96, 46, 42, 29, 5, 96, 46, 182, 0, 183, 87, 44, 42, 29, 4, 96, 46, 42, 29, 5, 96, 46, 182, 0, 186, 87, 167, 0, 26]
abbrev r52_cL_law : List Nat := a52_cL_law ++ r53_cL_law
def a51_cL_law : List Nat := [46, 182, 0, 174, 87, 44, 42, 29, 4, 96, 46, 182, 0, 177, 87, 167, 0, 72, 43, 182, 0, 178, 87, 44, 182, 0, 182, 87, 167, 0, 59, 43]
abbrev r51_cL_law : List Nat := a51_cL_law ++ r52_cL_law
def a50_cL_law : List Nat := [182, 0, 170, 87, 44, 42, 29, 4, 96, 46, 42, 29, 5, 96, 46, 42, 29, 6, 96, 46, 182, 0, 173, 87, 167, 0, 95, 43, 42, 29, 4, 96]
abbrev r50_cL_law : List Nat := a50_cL_law ++ r51_cL_law
def a49_cL_law : List Nat := [29, 5, 96, 46, 42, 29, 6, 96, 46, 182, 0, 169, 87, 167, 0, 138, 43, 42, 29, 4, 96, 46, 42, 29, 5, 96, 46, 42, 29, 6, 96, 46]
abbrev r49_cL_law : List Nat := a49_cL_law ++ r50_cL_law
def a48_cL_law : List Nat := [165, 87, 167, 0, 181, 43, 42, 29, 4, 96, 46, 42, 29, 5, 96, 46, 42, 29, 6, 96, 46, 182, 0, 166, 87, 44, 42, 29, 4, 96, 46, 42]
abbrev r48_cL_law : List Nat := a48_cL_law ++ r49_cL_law
def a47_cL_law : List Nat := [42, 29, 7, 96, 46, 182, 0, 162, 87, 44, 42, 29, 4, 96, 46, 42, 29, 5, 96, 46, 42, 29, 6, 96, 46, 42, 29, 7, 96, 46, 182, 0]
abbrev r47_cL_law : List Nat := a47_cL_law ++ r48_cL_law
def a46_cL_law : List Nat := [29, 4, 96, 46, 42, 29, 5, 96, 46, 182, 0, 161, 87, 167, 0, 234, 43, 42, 29, 4, 96, 46, 42, 29, 5, 96, 46, 42, 29, 6, 96, 46]
abbrev r46_cL_law : List Nat := a46_cL_law ++ r47_cL_law
def a45_cL_law : List Nat := [4, 96, 46, 42, 29, 5, 96, 46, 182, 0, 157, 87, 167, 1, 11, 43, 42, 29, 4, 96, 46, 42, 29, 5, 96, 46, 182, 0, 158, 87, 44, 42]
abbrev r45_cL_law : List Nat := a45_cL_law ++ r46_cL_law
def a44_cL_law : List Nat := [46, 42, 29, 5, 96, 46, 182, 0, 153, 159, 1, 46, 3, 172, 43, 42, 29, 4, 96, 46, 42, 29, 5, 96, 46, 182, 0, 154, 87, 44, 42, 29]
abbrev r44_cL_law : List Nat := a44_cL_law ++ r45_cL_law
def a43_cL_law : List Nat := [46, 42, 29, 5, 96, 46, 182, 0, 149, 87, 167, 1, 77, 43, 42, 29, 4, 96, 46, 42, 29, 5, 96, 46, 182, 0, 150, 44, 42, 29, 4, 96]
abbrev r43_cL_law : List Nat := a43_cL_law ++ r44_cL_law
def a42_cL_law : List Nat := [42, 29, 5, 96, 46, 182, 0, 145, 87, 167, 1, 110, 43, 42, 29, 4, 96, 46, 42, 29, 5, 96, 46, 182, 0, 146, 87, 44, 42, 29, 4, 96]
abbrev r42_cL_law : List Nat := a42_cL_law ++ r43_cL_law
def a41_cL_law : List Nat := [29, 4, 96, 46, 182, 0, 141, 87, 167, 1, 143, 43, 42, 29, 4, 96, 46, 42, 29, 5, 96, 46, 182, 0, 142, 87, 44, 42, 29, 4, 96, 46]
abbrev r41_cL_law : List Nat := a41_cL_law ++ r42_cL_law
def a40_cL_law : List Nat := [4, 96, 46, 42, 29, 5, 96, 46, 42, 29, 6, 96, 46, 182, 0, 137, 87, 167, 1, 166, 43, 42, 29, 4, 96, 46, 182, 0, 138, 87, 44, 42]
abbrev r40_cL_law : List Nat := a40_cL_law ++ r41_cL_law
def a39_cL_law : List Nat := [96, 46, 182, 0, 133, 87, 167, 1, 209, 43, 42, 29, 4, 96, 46, 42, 29, 5, 96, 46, 42, 29, 6, 96, 46, 182, 0, 134, 87, 44, 42, 29]
abbrev r39_cL_law : List Nat := a39_cL_law ++ r40_cL_law
def a38_cL_law : List Nat := [29, 4, 96, 46, 42, 29, 5, 96, 46, 42, 29, 6, 96, 46, 182, 0, 130, 87, 44, 42, 29, 4, 96, 46, 42, 29, 5, 96, 46, 42, 29, 6]
abbrev r38_cL_law : List Nat := a38_cL_law ++ r39_cL_law
def a37_cL_law : List Nat := [125, 87, 44, 42, 29, 4, 96, 46, 42, 29, 5, 96, 46, 42, 29, 6, 96, 46, 42, 29, 7, 96, 46, 182, 0, 129, 87, 167, 1, 252, 43, 42]
abbrev r37_cL_law : List Nat := a37_cL_law ++ r38_cL_law
def a36_cL_law : List Nat := [96, 46, 182, 0, 124, 87, 167, 2, 49, 43, 42, 29, 4, 96, 46, 42, 29, 5, 96, 46, 42, 29, 6, 96, 46, 42, 29, 7, 96, 46, 182, 0]
abbrev r36_cL_law : List Nat := a36_cL_law ++ r37_cL_law
def a35_cL_law : List Nat := [46, 182, 0, 120, 87, 167, 2, 82, 43, 42, 29, 4, 96, 46, 42, 29, 5, 96, 46, 182, 0, 121, 87, 44, 42, 29, 4, 96, 46, 42, 29, 5]
abbrev r35_cL_law : List Nat := a35_cL_law ++ r36_cL_law
def a34_cL_law : List Nat := [4, 96, 46, 42, 29, 5, 96, 46, 42, 29, 6, 96, 46, 182, 0, 117, 87, 44, 42, 29, 4, 96, 46, 42, 29, 5, 96, 46, 42, 29, 6, 96]
abbrev r34_cL_law : List Nat := a34_cL_law ++ r35_cL_law
def a33_cL_law : List Nat := [0, 112, 87, 167, 2, 148, 43, 42, 29, 4, 96, 46, 182, 0, 113, 87, 44, 42, 29, 4, 96, 46, 182, 0, 116, 87, 167, 2, 125, 43, 42, 29]
abbrev r33_cL_law : List Nat := a33_cL_law ++ r34_cL_law
def a32_cL_law : List Nat := [46, 42, 29, 5, 96, 46, 42, 29, 6, 96, 46, 182, 0, 109, 87, 44, 42, 29, 4, 96, 46, 42, 29, 5, 96, 46, 42, 29, 6, 96, 46, 182]
abbrev r32_cL_law : List Nat := a32_cL_law ++ r33_cL_law
def a31_cL_law : List Nat := [182, 0, 105, 87, 44, 42, 29, 4, 96, 46, 42, 29, 5, 96, 46, 42, 29, 6, 96, 46, 182, 0, 108, 87, 167, 2, 191, 43, 42, 29, 4, 96]
abbrev r31_cL_law : List Nat := a31_cL_law ++ r32_cL_law
def a30_cL_law : List Nat := [0, 101, 87, 44, 42, 29, 4, 96, 46, 182, 0, 104, 87, 167, 2, 234, 43, 42, 29, 4, 96, 46, 42, 29, 5, 96, 46, 42, 29, 6, 96, 46]
abbrev r30_cL_law : List Nat := a30_cL_law ++ r31_cL_law
def a29_cL_law : List Nat := [97, 87, 44, 42, 29, 4, 96, 46, 42, 29, 5, 96, 46, 42, 29, 6, 96, 46, 182, 0, 100, 87, 167, 3, 1, 43, 42, 29, 4, 96, 46, 182]
abbrev r29_cL_law : List Nat := a29_cL_law ++ r30_cL_law
def a28_cL_law : List Nat := [96, 46, 42, 29, 5, 96, 46, 182, 0, 96, 87, 167, 3, 44, 43, 42, 29, 4, 96, 46, 42, 29, 5, 96, 46, 42, 29, 6, 96, 46, 182, 0]
abbrev r28_cL_law : List Nat := a28_cL_law ++ r29_cL_law
def a27_cL_law : List Nat := [46, 42, 29, 6, 96, 46, 182, 0, 92, 87, 167, 3, 77, 43, 42, 29, 4, 96, 46, 42, 29, 5, 96, 46, 182, 0, 93, 87, 44, 42, 29, 4]
abbrev r27_cL_law : List Nat := a27_cL_law ++ r28_cL_law
def a26_cL_law : List Nat := [3, 120, 43, 42, 29, 4, 96, 46, 42, 29, 5, 96, 46, 42, 29, 6, 96, 46, 182, 0, 89, 87, 44, 42, 29, 4, 96, 46, 42, 29, 5, 96]
abbrev r26_cL_law : List Nat := a26_cL_law ++ r27_cL_law
def a25_cL_law : List Nat := [153, 43, 42, 29, 4, 96, 46, 42, 29, 5, 96, 46, 182, 0, 85, 87, 44, 42, 29, 4, 96, 46, 42, 29, 5, 96, 46, 182, 0, 88, 87, 167]
abbrev r25_cL_law : List Nat := a25_cL_law ++ r26_cL_law
def a24_cL_law : List Nat := [46, 42, 29, 6, 96, 46, 182, 0, 81, 87, 44, 42, 29, 4, 96, 46, 42, 29, 5, 96, 46, 42, 29, 6, 96, 46, 182, 0, 84, 87, 167, 3]
abbrev r24_cL_law : List Nat := a24_cL_law ++ r25_cL_law
def a23_cL_law : List Nat := [182, 0, 77, 87, 44, 42, 29, 4, 96, 46, 42, 29, 5, 96, 46, 182, 0, 80, 87, 167, 3, 196, 43, 42, 29, 4, 96, 46, 42, 29, 5, 96]
abbrev r23_cL_law : List Nat := a23_cL_law ++ r24_cL_law
def a22_cL_law : List Nat := [29, 4, 96, 46, 182, 0, 73, 87, 44, 42, 29, 4, 96, 46, 182, 0, 76, 87, 167, 3, 229, 43, 42, 29, 4, 96, 46, 42, 29, 5, 96, 46]
abbrev r22_cL_law : List Nat := a22_cL_law ++ r23_cL_law
def a21_cL_law : List Nat := [4, 96, 46, 42, 29, 5, 96, 46, 182, 0, 69, 87, 44, 42, 29, 4, 96, 46, 42, 29, 5, 96, 46, 182, 0, 72, 87, 167, 3, 252, 43, 42]
abbrev r21_cL_law : List Nat := a21_cL_law ++ r22_cL_law
def a20_cL_law : List Nat := [96, 46, 182, 0, 65, 87, 44, 42, 29, 4, 96, 46, 42, 29, 5, 96, 46, 42, 29, 6, 96, 46, 182, 0, 68, 87, 167, 4, 29, 43, 42, 29]
abbrev r20_cL_law : List Nat := a20_cL_law ++ r21_cL_law
def a19_cL_law : List Nat := [44, 42, 29, 4, 96, 46, 42, 29, 5, 96, 46, 182, 0, 64, 87, 167, 4, 72, 43, 42, 29, 4, 96, 46, 42, 29, 5, 96, 46, 42, 29, 6]
abbrev r19_cL_law : List Nat := a19_cL_law ++ r20_cL_law
def a18_cL_law : List Nat := [42, 29, 4, 96, 46, 42, 29, 5, 96, 46, 182, 0, 60, 87, 167, 4, 105, 43, 42, 29, 4, 96, 46, 42, 29, 5, 96, 46, 182, 0, 61, 87]
abbrev r18_cL_law : List Nat := a18_cL_law ++ r19_cL_law
def a17_cL_law : List Nat := [29, 4, 96, 46, 42, 29, 5, 96, 46, 182, 0, 56, 87, 167, 4, 138, 43, 42, 29, 4, 96, 46, 42, 29, 5, 96, 46, 182, 0, 57, 87, 44]
abbrev r17_cL_law : List Nat := a17_cL_law ++ r18_cL_law
def a16_cL_law : List Nat := [5, 96, 46, 42, 29, 6, 96, 46, 182, 0, 52, 87, 167, 4, 171, 43, 42, 29, 4, 96, 46, 42, 29, 5, 96, 46, 182, 0, 53, 87, 44, 42]
abbrev r16_cL_law : List Nat := a16_cL_law ++ r17_cL_law
def a15_cL_law : List Nat := [87, 167, 4, 214, 43, 42, 29, 4, 96, 46, 42, 29, 5, 96, 46, 42, 29, 6, 96, 46, 182, 0, 49, 87, 44, 42, 29, 4, 96, 46, 42, 29]
abbrev r15_cL_law : List Nat := a15_cL_law ++ r16_cL_law
def a14_cL_law : List Nat := [29, 5, 96, 46, 42, 29, 6, 96, 46, 182, 0, 44, 87, 44, 42, 29, 4, 96, 46, 42, 29, 5, 96, 46, 42, 29, 6, 96, 46, 182, 0, 48]
abbrev r14_cL_law : List Nat := a14_cL_law ++ r15_cL_law
def a13_cL_law : List Nat := [5, 96, 46, 182, 0, 40, 87, 44, 42, 29, 4, 96, 46, 42, 29, 5, 96, 46, 182, 0, 43, 87, 167, 5, 1, 43, 42, 29, 4, 96, 46, 42]
abbrev r13_cL_law : List Nat := a13_cL_law ++ r14_cL_law
def a12_cL_law : List Nat := [96, 46, 182, 0, 35, 87, 44, 42, 29, 4, 96, 46, 42, 29, 5, 96, 46, 182, 0, 39, 87, 167, 5, 34, 43, 42, 29, 4, 96, 46, 42, 29]
abbrev r12_cL_law : List Nat := a12_cL_law ++ r13_cL_law
def a11_cL_law : List Nat := [43, 42, 29, 4, 96, 46, 182, 0, 31, 87, 44, 42, 29, 4, 96, 46, 182, 0, 34, 87, 167, 5, 67, 43, 42, 29, 4, 96, 46, 42, 29, 5]
abbrev r11_cL_law : List Nat := a11_cL_law ++ r12_cL_law
def a10_cL_law : List Nat := [96, 46, 182, 0, 26, 87, 167, 5, 113, 43, 42, 29, 4, 96, 46, 182, 0, 27, 87, 44, 42, 29, 4, 96, 46, 182, 0, 30, 87, 167, 5, 90]
abbrev r10_cL_law : List Nat := a10_cL_law ++ r11_cL_law
def a9_cL_law : List Nat := [46, 182, 0, 18, 87, 44, 42, 29, 4, 96, 46, 182, 0, 22, 87, 167, 5, 136, 43, 42, 29, 4, 96, 46, 182, 0, 23, 87, 44, 42, 29, 4]
abbrev r9_cL_law : List Nat := a9_cL_law ++ r10_cL_law
def a8_cL_law : List Nat := [42, 29, 5, 96, 46, 42, 29, 6, 96, 46, 42, 29, 7, 96, 46, 42, 29, 8, 96, 46, 182, 0, 17, 87, 167, 5, 159, 43, 42, 29, 4, 96]
abbrev r8_cL_law : List Nat := a8_cL_law ++ r9_cL_law
def a7_cL_law : List Nat := [96, 46, 42, 29, 5, 96, 46, 42, 29, 6, 96, 46, 42, 29, 7, 96, 46, 42, 29, 8, 96, 46, 182, 0, 13, 87, 44, 42, 29, 4, 96, 46]
abbrev r7_cL_law : List Nat := a7_cL_law ++ r8_cL_law
def a6_cL_law : List Nat := [0, 0, 5, 175, 0, 0, 5, 228, 0, 0, 6, 15, 0, 0, 6, 58, 0, 0, 6, 81, 0, 0, 6, 94, 0, 0, 6, 127, 43, 42, 29, 4]
abbrev r6_cL_law : List Nat := a6_cL_law ++ r7_cL_law
def a5_cL_law : List Nat := [0, 0, 4, 157, 0, 0, 4, 200, 0, 0, 4, 243, 0, 0, 5, 10, 0, 0, 5, 43, 0, 0, 5, 76, 0, 0, 5, 109, 0, 0, 5, 142]
abbrev r5_cL_law : List Nat := a5_cL_law ++ r6_cL_law
def a4_cL_law : List Nat := [0, 0, 3, 109, 0, 0, 3, 152, 0, 0, 3, 175, 0, 0, 3, 218, 0, 0, 4, 5, 0, 0, 4, 28, 0, 0, 4, 71, 0, 0, 4, 104]
abbrev r4_cL_law : List Nat := a4_cL_law ++ r5_cL_law
def a3_cL_law : List Nat := [0, 0, 2, 81, 0, 0, 2, 124, 0, 0, 2, 157, 0, 0, 2, 180, 0, 0, 2, 213, 0, 0, 3, 0, 0, 0, 3, 33, 0, 0, 3, 76]
abbrev r3_cL_law : List Nat := a3_cL_law ++ r4_cL_law
def a2_cL_law : List Nat := [0, 0, 1, 63, 0, 0, 1, 86, 0, 0, 1, 119, 0, 0, 1, 152, 0, 0, 1, 195, 0, 0, 1, 238, 0, 0, 2, 15, 0, 0, 2, 48]
abbrev r2_cL_law : List Nat := a2_cL_law ++ r3_cL_law
def a1_cL_law : List Nat := [126, 170, 0, 0, 0, 0, 6, 150, 0, 0, 0, 0, 0, 0, 0, 42, 0, 0, 0, 187, 0, 0, 0, 250, 0, 0, 1, 17, 0, 0, 1, 40]
abbrev r1_cL_law : List Nat := a1_cL_law ++ r2_cL_law
def a0_cL_law : List Nat := [187, 0, 7, 89, 183, 0, 9, 76, 187, 0, 10, 89, 183, 0, 12, 77, 3, 62, 29, 42, 190, 16, 6, 100, 163, 6, 165, 42, 29, 46, 16, 63]
abbrev r0_cL_law : List Nat := a0_cL_law ++ r1_cL_law
theorem lq_cL_law : (cL_law).data.toList.map UInt8.toNat = r0_cL_law := by decide +kernel
theorem q1_cL_law : ∀ i, (r0_cL_law)[32 + i]? = (r1_cL_law)[i]? := chn (A := a0_cL_law) (B := r1_cL_law) (n := 0) (k := 32) rfl (ch0 (R := r0_cL_law))
theorem q2_cL_law : ∀ i, (r0_cL_law)[64 + i]? = (r2_cL_law)[i]? := chn (A := a1_cL_law) (B := r2_cL_law) (n := 32) (k := 32) rfl q1_cL_law
theorem q3_cL_law : ∀ i, (r0_cL_law)[96 + i]? = (r3_cL_law)[i]? := chn (A := a2_cL_law) (B := r3_cL_law) (n := 64) (k := 32) rfl q2_cL_law
theorem q4_cL_law : ∀ i, (r0_cL_law)[128 + i]? = (r4_cL_law)[i]? := chn (A := a3_cL_law) (B := r4_cL_law) (n := 96) (k := 32) rfl q3_cL_law
theorem q5_cL_law : ∀ i, (r0_cL_law)[160 + i]? = (r5_cL_law)[i]? := chn (A := a4_cL_law) (B := r5_cL_law) (n := 128) (k := 32) rfl q4_cL_law
theorem q6_cL_law : ∀ i, (r0_cL_law)[192 + i]? = (r6_cL_law)[i]? := chn (A := a5_cL_law) (B := r6_cL_law) (n := 160) (k := 32) rfl q5_cL_law
theorem q7_cL_law : ∀ i, (r0_cL_law)[224 + i]? = (r7_cL_law)[i]? := chn (A := a6_cL_law) (B := r7_cL_law) (n := 192) (k := 32) rfl q6_cL_law
theorem q8_cL_law : ∀ i, (r0_cL_law)[256 + i]? = (r8_cL_law)[i]? := chn (A := a7_cL_law) (B := r8_cL_law) (n := 224) (k := 32) rfl q7_cL_law
theorem q9_cL_law : ∀ i, (r0_cL_law)[288 + i]? = (r9_cL_law)[i]? := chn (A := a8_cL_law) (B := r9_cL_law) (n := 256) (k := 32) rfl q8_cL_law
theorem q10_cL_law : ∀ i, (r0_cL_law)[320 + i]? = (r10_cL_law)[i]? := chn (A := a9_cL_law) (B := r10_cL_law) (n := 288) (k := 32) rfl q9_cL_law
theorem q11_cL_law : ∀ i, (r0_cL_law)[352 + i]? = (r11_cL_law)[i]? := chn (A := a10_cL_law) (B := r11_cL_law) (n := 320) (k := 32) rfl q10_cL_law
theorem q12_cL_law : ∀ i, (r0_cL_law)[384 + i]? = (r12_cL_law)[i]? := chn (A := a11_cL_law) (B := r12_cL_law) (n := 352) (k := 32) rfl q11_cL_law
theorem q13_cL_law : ∀ i, (r0_cL_law)[416 + i]? = (r13_cL_law)[i]? := chn (A := a12_cL_law) (B := r13_cL_law) (n := 384) (k := 32) rfl q12_cL_law
theorem q14_cL_law : ∀ i, (r0_cL_law)[448 + i]? = (r14_cL_law)[i]? := chn (A := a13_cL_law) (B := r14_cL_law) (n := 416) (k := 32) rfl q13_cL_law
theorem q15_cL_law : ∀ i, (r0_cL_law)[480 + i]? = (r15_cL_law)[i]? := chn (A := a14_cL_law) (B := r15_cL_law) (n := 448) (k := 32) rfl q14_cL_law
theorem q16_cL_law : ∀ i, (r0_cL_law)[512 + i]? = (r16_cL_law)[i]? := chn (A := a15_cL_law) (B := r16_cL_law) (n := 480) (k := 32) rfl q15_cL_law
theorem q17_cL_law : ∀ i, (r0_cL_law)[544 + i]? = (r17_cL_law)[i]? := chn (A := a16_cL_law) (B := r17_cL_law) (n := 512) (k := 32) rfl q16_cL_law
theorem q18_cL_law : ∀ i, (r0_cL_law)[576 + i]? = (r18_cL_law)[i]? := chn (A := a17_cL_law) (B := r18_cL_law) (n := 544) (k := 32) rfl q17_cL_law
theorem q19_cL_law : ∀ i, (r0_cL_law)[608 + i]? = (r19_cL_law)[i]? := chn (A := a18_cL_law) (B := r19_cL_law) (n := 576) (k := 32) rfl q18_cL_law
theorem q20_cL_law : ∀ i, (r0_cL_law)[640 + i]? = (r20_cL_law)[i]? := chn (A := a19_cL_law) (B := r20_cL_law) (n := 608) (k := 32) rfl q19_cL_law
theorem q21_cL_law : ∀ i, (r0_cL_law)[672 + i]? = (r21_cL_law)[i]? := chn (A := a20_cL_law) (B := r21_cL_law) (n := 640) (k := 32) rfl q20_cL_law
theorem q22_cL_law : ∀ i, (r0_cL_law)[704 + i]? = (r22_cL_law)[i]? := chn (A := a21_cL_law) (B := r22_cL_law) (n := 672) (k := 32) rfl q21_cL_law
theorem q23_cL_law : ∀ i, (r0_cL_law)[736 + i]? = (r23_cL_law)[i]? := chn (A := a22_cL_law) (B := r23_cL_law) (n := 704) (k := 32) rfl q22_cL_law
theorem q24_cL_law : ∀ i, (r0_cL_law)[768 + i]? = (r24_cL_law)[i]? := chn (A := a23_cL_law) (B := r24_cL_law) (n := 736) (k := 32) rfl q23_cL_law
theorem q25_cL_law : ∀ i, (r0_cL_law)[800 + i]? = (r25_cL_law)[i]? := chn (A := a24_cL_law) (B := r25_cL_law) (n := 768) (k := 32) rfl q24_cL_law
theorem q26_cL_law : ∀ i, (r0_cL_law)[832 + i]? = (r26_cL_law)[i]? := chn (A := a25_cL_law) (B := r26_cL_law) (n := 800) (k := 32) rfl q25_cL_law
theorem q27_cL_law : ∀ i, (r0_cL_law)[864 + i]? = (r27_cL_law)[i]? := chn (A := a26_cL_law) (B := r27_cL_law) (n := 832) (k := 32) rfl q26_cL_law
theorem q28_cL_law : ∀ i, (r0_cL_law)[896 + i]? = (r28_cL_law)[i]? := chn (A := a27_cL_law) (B := r28_cL_law) (n := 864) (k := 32) rfl q27_cL_law
theorem q29_cL_law : ∀ i, (r0_cL_law)[928 + i]? = (r29_cL_law)[i]? := chn (A := a28_cL_law) (B := r29_cL_law) (n := 896) (k := 32) rfl q28_cL_law
theorem q30_cL_law : ∀ i, (r0_cL_law)[960 + i]? = (r30_cL_law)[i]? := chn (A := a29_cL_law) (B := r30_cL_law) (n := 928) (k := 32) rfl q29_cL_law
theorem q31_cL_law : ∀ i, (r0_cL_law)[992 + i]? = (r31_cL_law)[i]? := chn (A := a30_cL_law) (B := r31_cL_law) (n := 960) (k := 32) rfl q30_cL_law
theorem q32_cL_law : ∀ i, (r0_cL_law)[1024 + i]? = (r32_cL_law)[i]? := chn (A := a31_cL_law) (B := r32_cL_law) (n := 992) (k := 32) rfl q31_cL_law
theorem q33_cL_law : ∀ i, (r0_cL_law)[1056 + i]? = (r33_cL_law)[i]? := chn (A := a32_cL_law) (B := r33_cL_law) (n := 1024) (k := 32) rfl q32_cL_law
theorem q34_cL_law : ∀ i, (r0_cL_law)[1088 + i]? = (r34_cL_law)[i]? := chn (A := a33_cL_law) (B := r34_cL_law) (n := 1056) (k := 32) rfl q33_cL_law
theorem q35_cL_law : ∀ i, (r0_cL_law)[1120 + i]? = (r35_cL_law)[i]? := chn (A := a34_cL_law) (B := r35_cL_law) (n := 1088) (k := 32) rfl q34_cL_law
theorem q36_cL_law : ∀ i, (r0_cL_law)[1152 + i]? = (r36_cL_law)[i]? := chn (A := a35_cL_law) (B := r36_cL_law) (n := 1120) (k := 32) rfl q35_cL_law
theorem q37_cL_law : ∀ i, (r0_cL_law)[1184 + i]? = (r37_cL_law)[i]? := chn (A := a36_cL_law) (B := r37_cL_law) (n := 1152) (k := 32) rfl q36_cL_law
theorem q38_cL_law : ∀ i, (r0_cL_law)[1216 + i]? = (r38_cL_law)[i]? := chn (A := a37_cL_law) (B := r38_cL_law) (n := 1184) (k := 32) rfl q37_cL_law
theorem q39_cL_law : ∀ i, (r0_cL_law)[1248 + i]? = (r39_cL_law)[i]? := chn (A := a38_cL_law) (B := r39_cL_law) (n := 1216) (k := 32) rfl q38_cL_law
theorem q40_cL_law : ∀ i, (r0_cL_law)[1280 + i]? = (r40_cL_law)[i]? := chn (A := a39_cL_law) (B := r40_cL_law) (n := 1248) (k := 32) rfl q39_cL_law
theorem q41_cL_law : ∀ i, (r0_cL_law)[1312 + i]? = (r41_cL_law)[i]? := chn (A := a40_cL_law) (B := r41_cL_law) (n := 1280) (k := 32) rfl q40_cL_law
theorem q42_cL_law : ∀ i, (r0_cL_law)[1344 + i]? = (r42_cL_law)[i]? := chn (A := a41_cL_law) (B := r42_cL_law) (n := 1312) (k := 32) rfl q41_cL_law
theorem q43_cL_law : ∀ i, (r0_cL_law)[1376 + i]? = (r43_cL_law)[i]? := chn (A := a42_cL_law) (B := r43_cL_law) (n := 1344) (k := 32) rfl q42_cL_law
theorem q44_cL_law : ∀ i, (r0_cL_law)[1408 + i]? = (r44_cL_law)[i]? := chn (A := a43_cL_law) (B := r44_cL_law) (n := 1376) (k := 32) rfl q43_cL_law
theorem q45_cL_law : ∀ i, (r0_cL_law)[1440 + i]? = (r45_cL_law)[i]? := chn (A := a44_cL_law) (B := r45_cL_law) (n := 1408) (k := 32) rfl q44_cL_law
theorem q46_cL_law : ∀ i, (r0_cL_law)[1472 + i]? = (r46_cL_law)[i]? := chn (A := a45_cL_law) (B := r46_cL_law) (n := 1440) (k := 32) rfl q45_cL_law
theorem q47_cL_law : ∀ i, (r0_cL_law)[1504 + i]? = (r47_cL_law)[i]? := chn (A := a46_cL_law) (B := r47_cL_law) (n := 1472) (k := 32) rfl q46_cL_law
theorem q48_cL_law : ∀ i, (r0_cL_law)[1536 + i]? = (r48_cL_law)[i]? := chn (A := a47_cL_law) (B := r48_cL_law) (n := 1504) (k := 32) rfl q47_cL_law
theorem q49_cL_law : ∀ i, (r0_cL_law)[1568 + i]? = (r49_cL_law)[i]? := chn (A := a48_cL_law) (B := r49_cL_law) (n := 1536) (k := 32) rfl q48_cL_law
theorem q50_cL_law : ∀ i, (r0_cL_law)[1600 + i]? = (r50_cL_law)[i]? := chn (A := a49_cL_law) (B := r50_cL_law) (n := 1568) (k := 32) rfl q49_cL_law
theorem q51_cL_law : ∀ i, (r0_cL_law)[1632 + i]? = (r51_cL_law)[i]? := chn (A := a50_cL_law) (B := r51_cL_law) (n := 1600) (k := 32) rfl q50_cL_law
theorem q52_cL_law : ∀ i, (r0_cL_law)[1664 + i]? = (r52_cL_law)[i]? := chn (A := a51_cL_law) (B := r52_cL_law) (n := 1632) (k := 32) rfl q51_cL_law
theorem q53_cL_law : ∀ i, (r0_cL_law)[1696 + i]? = (r53_cL_law)[i]? := chn (A := a52_cL_law) (B := r53_cL_law) (n := 1664) (k := 32) rfl q52_cL_law
theorem dL_law_0 : decode cL_law 0 = .ok (.new 7, 3) := dc_187 (gB_l lq_cL_law (p := 0) (o := 187) rfl) (gB_l lq_cL_law (p := 1) (o := 0) rfl) (gB_l lq_cL_law (p := 2) (o := 7) rfl) rfl
theorem dL_law_3 : decode cL_law 3 = .ok (.dup, 1) := dc_89 (gB_l lq_cL_law (p := 3) (o := 89) rfl)
theorem dL_law_4 : decode cL_law 4 = .ok (.invokespecial 9, 3) := dc_183 (gB_l lq_cL_law (p := 4) (o := 183) rfl) (gB_l lq_cL_law (p := 5) (o := 0) rfl) (gB_l lq_cL_law (p := 6) (o := 9) rfl) rfl
theorem dL_law_7 : decode cL_law 7 = .ok (.astore_n 1, 1) := dc_76 (gB_l lq_cL_law (p := 7) (o := 76) rfl)
theorem dL_law_8 : decode cL_law 8 = .ok (.new 10, 3) := dc_187 (gB_l lq_cL_law (p := 8) (o := 187) rfl) (gB_l lq_cL_law (p := 9) (o := 0) rfl) (gB_l lq_cL_law (p := 10) (o := 10) rfl) rfl
theorem dL_law_11 : decode cL_law 11 = .ok (.dup, 1) := dc_89 (gB_l lq_cL_law (p := 11) (o := 89) rfl)
theorem dL_law_12 : decode cL_law 12 = .ok (.invokespecial 12, 3) := dc_183 (gB_l lq_cL_law (p := 12) (o := 183) rfl) (gB_l lq_cL_law (p := 13) (o := 0) rfl) (gB_l lq_cL_law (p := 14) (o := 12) rfl) rfl
theorem dL_law_15 : decode cL_law 15 = .ok (.astore_n 2, 1) := dc_77 (gB_l lq_cL_law (p := 15) (o := 77) rfl)
theorem dL_law_16 : decode cL_law 16 = .ok (.iconst 0, 1) := dc_3 (gB_l lq_cL_law (p := 16) (o := 3) rfl)
theorem dL_law_17 : decode cL_law 17 = .ok (.istore_n 3, 1) := dc_62 (gB_l lq_cL_law (p := 17) (o := 62) rfl)
theorem dL_law_18 : decode cL_law 18 = .ok (.iload_n 3, 1) := dc_29 (gB_l lq_cL_law (p := 18) (o := 29) rfl)
theorem dL_law_19 : decode cL_law 19 = .ok (.aload_n 0, 1) := dc_42 (gB_l lq_cL_law (p := 19) (o := 42) rfl)
theorem dL_law_20 : decode cL_law 20 = .ok (.arraylength, 1) := dc_190 (gB_l lq_cL_law (p := 20) (o := 190) rfl)
theorem dL_law_21 : decode cL_law 21 = .ok (.bipush 6, 2) := dc_16 (gB_l lq_cL_law (p := 21) (o := 16) rfl) (gB_l lq_cL_law (p := 22) (o := 6) rfl) rfl
theorem dL_law_23 : decode cL_law 23 = .ok (.isub, 1) := dc_100 (gB_l lq_cL_law (p := 23) (o := 100) rfl)
theorem dL_law_24 : decode cL_law 24 = .ok (.if_icmp .gt 1701, 3) := dc_163 (gB_l lq_cL_law (p := 24) (o := 163) rfl) (gB_l lq_cL_law (p := 25) (o := 6) rfl) (gB_l lq_cL_law (p := 26) (o := 165) rfl) rfl
theorem dL_law_27 : decode cL_law 27 = .ok (.aload_n 0, 1) := dc_42 (gB_l lq_cL_law (p := 27) (o := 42) rfl)
theorem dL_law_28 : decode cL_law 28 = .ok (.iload_n 3, 1) := dc_29 (gB_l lq_cL_law (p := 28) (o := 29) rfl)
theorem dL_law_29 : decode cL_law 29 = .ok (.iaload, 1) := dc_46 (gB_l lq_cL_law (p := 29) (o := 46) rfl)
theorem dL_law_30 : decode cL_law 30 = .ok (.bipush 63, 2) := dc_16 (gB_l lq_cL_law (p := 30) (o := 16) rfl) (gB_l lq_cL_law (p := 31) (o := 63) rfl) rfl
theorem dL_law_32 : decode cL_law 32 = .ok (.iand, 1) := dc_126 (gB_c lq_cL_law q1_cL_law 0 (o := 126) rfl)
theorem dL_law_33 : decode cL_law 33 = .ok (.tableswitch 1686 0 42 #[187, 250, 273, 296, 319, 342, 375, 408, 451, 494, 527, 560, 593, 636, 669, 692, 725, 768, 801, 844, 877, 920, 943, 986, 1029, 1052, 1095, 1128, 1181, 1224, 1267, 1290, 1323, 1356, 1389, 1422, 1455, 1508, 1551, 1594, 1617, 1630, 1663], 187) := by decide +kernel
theorem dL_law_220 : decode cL_law 220 = .ok (.aload_n 1, 1) := dc_43 (gB_c lq_cL_law q6_cL_law 28 (o := 43) rfl)
theorem dL_law_221 : decode cL_law 221 = .ok (.aload_n 0, 1) := dc_42 (gB_c lq_cL_law q6_cL_law 29 (o := 42) rfl)
theorem dL_law_222 : decode cL_law 222 = .ok (.iload_n 3, 1) := dc_29 (gB_c lq_cL_law q6_cL_law 30 (o := 29) rfl)
theorem dL_law_223 : decode cL_law 223 = .ok (.iconst 1, 1) := dc_4 (gB_c lq_cL_law q6_cL_law 31 (o := 4) rfl)
theorem dL_law_224 : decode cL_law 224 = .ok (.iadd, 1) := dc_96 (gB_c lq_cL_law q7_cL_law 0 (o := 96) rfl)
theorem dL_law_225 : decode cL_law 225 = .ok (.iaload, 1) := dc_46 (gB_c lq_cL_law q7_cL_law 1 (o := 46) rfl)
theorem dL_law_226 : decode cL_law 226 = .ok (.aload_n 0, 1) := dc_42 (gB_c lq_cL_law q7_cL_law 2 (o := 42) rfl)
theorem dL_law_227 : decode cL_law 227 = .ok (.iload_n 3, 1) := dc_29 (gB_c lq_cL_law q7_cL_law 3 (o := 29) rfl)
theorem dL_law_228 : decode cL_law 228 = .ok (.iconst 2, 1) := dc_5 (gB_c lq_cL_law q7_cL_law 4 (o := 5) rfl)
theorem dL_law_229 : decode cL_law 229 = .ok (.iadd, 1) := dc_96 (gB_c lq_cL_law q7_cL_law 5 (o := 96) rfl)
theorem dL_law_230 : decode cL_law 230 = .ok (.iaload, 1) := dc_46 (gB_c lq_cL_law q7_cL_law 6 (o := 46) rfl)
theorem dL_law_231 : decode cL_law 231 = .ok (.aload_n 0, 1) := dc_42 (gB_c lq_cL_law q7_cL_law 7 (o := 42) rfl)
theorem dL_law_232 : decode cL_law 232 = .ok (.iload_n 3, 1) := dc_29 (gB_c lq_cL_law q7_cL_law 8 (o := 29) rfl)
theorem dL_law_233 : decode cL_law 233 = .ok (.iconst 3, 1) := dc_6 (gB_c lq_cL_law q7_cL_law 9 (o := 6) rfl)
theorem dL_law_234 : decode cL_law 234 = .ok (.iadd, 1) := dc_96 (gB_c lq_cL_law q7_cL_law 10 (o := 96) rfl)
theorem dL_law_235 : decode cL_law 235 = .ok (.iaload, 1) := dc_46 (gB_c lq_cL_law q7_cL_law 11 (o := 46) rfl)
theorem dL_law_236 : decode cL_law 236 = .ok (.aload_n 0, 1) := dc_42 (gB_c lq_cL_law q7_cL_law 12 (o := 42) rfl)
theorem dL_law_237 : decode cL_law 237 = .ok (.iload_n 3, 1) := dc_29 (gB_c lq_cL_law q7_cL_law 13 (o := 29) rfl)
theorem dL_law_238 : decode cL_law 238 = .ok (.iconst 4, 1) := dc_7 (gB_c lq_cL_law q7_cL_law 14 (o := 7) rfl)
theorem dL_law_239 : decode cL_law 239 = .ok (.iadd, 1) := dc_96 (gB_c lq_cL_law q7_cL_law 15 (o := 96) rfl)
theorem dL_law_240 : decode cL_law 240 = .ok (.iaload, 1) := dc_46 (gB_c lq_cL_law q7_cL_law 16 (o := 46) rfl)
theorem dL_law_241 : decode cL_law 241 = .ok (.aload_n 0, 1) := dc_42 (gB_c lq_cL_law q7_cL_law 17 (o := 42) rfl)
theorem dL_law_242 : decode cL_law 242 = .ok (.iload_n 3, 1) := dc_29 (gB_c lq_cL_law q7_cL_law 18 (o := 29) rfl)
theorem dL_law_243 : decode cL_law 243 = .ok (.iconst 5, 1) := dc_8 (gB_c lq_cL_law q7_cL_law 19 (o := 8) rfl)
theorem dL_law_244 : decode cL_law 244 = .ok (.iadd, 1) := dc_96 (gB_c lq_cL_law q7_cL_law 20 (o := 96) rfl)
theorem dL_law_245 : decode cL_law 245 = .ok (.iaload, 1) := dc_46 (gB_c lq_cL_law q7_cL_law 21 (o := 46) rfl)
theorem dL_law_246 : decode cL_law 246 = .ok (.invokevirtual 13, 3) := dc_182 (gB_c lq_cL_law q7_cL_law 22 (o := 182) rfl) (gB_c lq_cL_law q7_cL_law 23 (o := 0) rfl) (gB_c lq_cL_law q7_cL_law 24 (o := 13) rfl) rfl
theorem dL_law_249 : decode cL_law 249 = .ok (.pop, 1) := dc_87 (gB_c lq_cL_law q7_cL_law 25 (o := 87) rfl)
theorem dL_law_250 : decode cL_law 250 = .ok (.aload_n 2, 1) := dc_44 (gB_c lq_cL_law q7_cL_law 26 (o := 44) rfl)
theorem dL_law_251 : decode cL_law 251 = .ok (.aload_n 0, 1) := dc_42 (gB_c lq_cL_law q7_cL_law 27 (o := 42) rfl)
theorem dL_law_252 : decode cL_law 252 = .ok (.iload_n 3, 1) := dc_29 (gB_c lq_cL_law q7_cL_law 28 (o := 29) rfl)
theorem dL_law_253 : decode cL_law 253 = .ok (.iconst 1, 1) := dc_4 (gB_c lq_cL_law q7_cL_law 29 (o := 4) rfl)
theorem dL_law_254 : decode cL_law 254 = .ok (.iadd, 1) := dc_96 (gB_c lq_cL_law q7_cL_law 30 (o := 96) rfl)
theorem dL_law_255 : decode cL_law 255 = .ok (.iaload, 1) := dc_46 (gB_c lq_cL_law q7_cL_law 31 (o := 46) rfl)
theorem dL_law_256 : decode cL_law 256 = .ok (.aload_n 0, 1) := dc_42 (gB_c lq_cL_law q8_cL_law 0 (o := 42) rfl)
theorem dL_law_257 : decode cL_law 257 = .ok (.iload_n 3, 1) := dc_29 (gB_c lq_cL_law q8_cL_law 1 (o := 29) rfl)
theorem dL_law_258 : decode cL_law 258 = .ok (.iconst 2, 1) := dc_5 (gB_c lq_cL_law q8_cL_law 2 (o := 5) rfl)
theorem dL_law_259 : decode cL_law 259 = .ok (.iadd, 1) := dc_96 (gB_c lq_cL_law q8_cL_law 3 (o := 96) rfl)
theorem dL_law_260 : decode cL_law 260 = .ok (.iaload, 1) := dc_46 (gB_c lq_cL_law q8_cL_law 4 (o := 46) rfl)
theorem dL_law_261 : decode cL_law 261 = .ok (.aload_n 0, 1) := dc_42 (gB_c lq_cL_law q8_cL_law 5 (o := 42) rfl)
theorem dL_law_262 : decode cL_law 262 = .ok (.iload_n 3, 1) := dc_29 (gB_c lq_cL_law q8_cL_law 6 (o := 29) rfl)
theorem dL_law_263 : decode cL_law 263 = .ok (.iconst 3, 1) := dc_6 (gB_c lq_cL_law q8_cL_law 7 (o := 6) rfl)
theorem dL_law_264 : decode cL_law 264 = .ok (.iadd, 1) := dc_96 (gB_c lq_cL_law q8_cL_law 8 (o := 96) rfl)
theorem dL_law_265 : decode cL_law 265 = .ok (.iaload, 1) := dc_46 (gB_c lq_cL_law q8_cL_law 9 (o := 46) rfl)
theorem dL_law_266 : decode cL_law 266 = .ok (.aload_n 0, 1) := dc_42 (gB_c lq_cL_law q8_cL_law 10 (o := 42) rfl)
theorem dL_law_267 : decode cL_law 267 = .ok (.iload_n 3, 1) := dc_29 (gB_c lq_cL_law q8_cL_law 11 (o := 29) rfl)
theorem dL_law_268 : decode cL_law 268 = .ok (.iconst 4, 1) := dc_7 (gB_c lq_cL_law q8_cL_law 12 (o := 7) rfl)
theorem dL_law_269 : decode cL_law 269 = .ok (.iadd, 1) := dc_96 (gB_c lq_cL_law q8_cL_law 13 (o := 96) rfl)
theorem dL_law_270 : decode cL_law 270 = .ok (.iaload, 1) := dc_46 (gB_c lq_cL_law q8_cL_law 14 (o := 46) rfl)
theorem dL_law_271 : decode cL_law 271 = .ok (.aload_n 0, 1) := dc_42 (gB_c lq_cL_law q8_cL_law 15 (o := 42) rfl)
theorem dL_law_272 : decode cL_law 272 = .ok (.iload_n 3, 1) := dc_29 (gB_c lq_cL_law q8_cL_law 16 (o := 29) rfl)
theorem dL_law_273 : decode cL_law 273 = .ok (.iconst 5, 1) := dc_8 (gB_c lq_cL_law q8_cL_law 17 (o := 8) rfl)
theorem dL_law_274 : decode cL_law 274 = .ok (.iadd, 1) := dc_96 (gB_c lq_cL_law q8_cL_law 18 (o := 96) rfl)
theorem dL_law_275 : decode cL_law 275 = .ok (.iaload, 1) := dc_46 (gB_c lq_cL_law q8_cL_law 19 (o := 46) rfl)
theorem dL_law_276 : decode cL_law 276 = .ok (.invokevirtual 17, 3) := dc_182 (gB_c lq_cL_law q8_cL_law 20 (o := 182) rfl) (gB_c lq_cL_law q8_cL_law 21 (o := 0) rfl) (gB_c lq_cL_law q8_cL_law 22 (o := 17) rfl) rfl
theorem dL_law_279 : decode cL_law 279 = .ok (.pop, 1) := dc_87 (gB_c lq_cL_law q8_cL_law 23 (o := 87) rfl)
theorem dL_law_280 : decode cL_law 280 = .ok (.goto 1439, 3) := dc_167 (gB_c lq_cL_law q8_cL_law 24 (o := 167) rfl) (gB_c lq_cL_law q8_cL_law 25 (o := 5) rfl) (gB_c lq_cL_law q8_cL_law 26 (o := 159) rfl) rfl
theorem dL_law_283 : decode cL_law 283 = .ok (.aload_n 1, 1) := dc_43 (gB_c lq_cL_law q8_cL_law 27 (o := 43) rfl)
theorem dL_law_284 : decode cL_law 284 = .ok (.aload_n 0, 1) := dc_42 (gB_c lq_cL_law q8_cL_law 28 (o := 42) rfl)
theorem dL_law_285 : decode cL_law 285 = .ok (.iload_n 3, 1) := dc_29 (gB_c lq_cL_law q8_cL_law 29 (o := 29) rfl)
theorem dL_law_286 : decode cL_law 286 = .ok (.iconst 1, 1) := dc_4 (gB_c lq_cL_law q8_cL_law 30 (o := 4) rfl)
theorem dL_law_287 : decode cL_law 287 = .ok (.iadd, 1) := dc_96 (gB_c lq_cL_law q8_cL_law 31 (o := 96) rfl)
theorem dL_law_288 : decode cL_law 288 = .ok (.iaload, 1) := dc_46 (gB_c lq_cL_law q9_cL_law 0 (o := 46) rfl)
theorem dL_law_289 : decode cL_law 289 = .ok (.invokevirtual 18, 3) := dc_182 (gB_c lq_cL_law q9_cL_law 1 (o := 182) rfl) (gB_c lq_cL_law q9_cL_law 2 (o := 0) rfl) (gB_c lq_cL_law q9_cL_law 3 (o := 18) rfl) rfl
theorem dL_law_292 : decode cL_law 292 = .ok (.pop, 1) := dc_87 (gB_c lq_cL_law q9_cL_law 4 (o := 87) rfl)
theorem dL_law_293 : decode cL_law 293 = .ok (.aload_n 2, 1) := dc_44 (gB_c lq_cL_law q9_cL_law 5 (o := 44) rfl)
theorem dL_law_294 : decode cL_law 294 = .ok (.aload_n 0, 1) := dc_42 (gB_c lq_cL_law q9_cL_law 6 (o := 42) rfl)
theorem dL_law_295 : decode cL_law 295 = .ok (.iload_n 3, 1) := dc_29 (gB_c lq_cL_law q9_cL_law 7 (o := 29) rfl)
theorem dL_law_296 : decode cL_law 296 = .ok (.iconst 1, 1) := dc_4 (gB_c lq_cL_law q9_cL_law 8 (o := 4) rfl)
theorem dL_law_297 : decode cL_law 297 = .ok (.iadd, 1) := dc_96 (gB_c lq_cL_law q9_cL_law 9 (o := 96) rfl)
theorem dL_law_298 : decode cL_law 298 = .ok (.iaload, 1) := dc_46 (gB_c lq_cL_law q9_cL_law 10 (o := 46) rfl)
theorem dL_law_299 : decode cL_law 299 = .ok (.invokevirtual 22, 3) := dc_182 (gB_c lq_cL_law q9_cL_law 11 (o := 182) rfl) (gB_c lq_cL_law q9_cL_law 12 (o := 0) rfl) (gB_c lq_cL_law q9_cL_law 13 (o := 22) rfl) rfl
theorem dL_law_302 : decode cL_law 302 = .ok (.pop, 1) := dc_87 (gB_c lq_cL_law q9_cL_law 14 (o := 87) rfl)
theorem dL_law_303 : decode cL_law 303 = .ok (.goto 1416, 3) := dc_167 (gB_c lq_cL_law q9_cL_law 15 (o := 167) rfl) (gB_c lq_cL_law q9_cL_law 16 (o := 5) rfl) (gB_c lq_cL_law q9_cL_law 17 (o := 136) rfl) rfl
theorem dL_law_306 : decode cL_law 306 = .ok (.aload_n 1, 1) := dc_43 (gB_c lq_cL_law q9_cL_law 18 (o := 43) rfl)
theorem dL_law_307 : decode cL_law 307 = .ok (.aload_n 0, 1) := dc_42 (gB_c lq_cL_law q9_cL_law 19 (o := 42) rfl)
theorem dL_law_308 : decode cL_law 308 = .ok (.iload_n 3, 1) := dc_29 (gB_c lq_cL_law q9_cL_law 20 (o := 29) rfl)
theorem dL_law_309 : decode cL_law 309 = .ok (.iconst 1, 1) := dc_4 (gB_c lq_cL_law q9_cL_law 21 (o := 4) rfl)
theorem dL_law_310 : decode cL_law 310 = .ok (.iadd, 1) := dc_96 (gB_c lq_cL_law q9_cL_law 22 (o := 96) rfl)
theorem dL_law_311 : decode cL_law 311 = .ok (.iaload, 1) := dc_46 (gB_c lq_cL_law q9_cL_law 23 (o := 46) rfl)
theorem dL_law_312 : decode cL_law 312 = .ok (.invokevirtual 23, 3) := dc_182 (gB_c lq_cL_law q9_cL_law 24 (o := 182) rfl) (gB_c lq_cL_law q9_cL_law 25 (o := 0) rfl) (gB_c lq_cL_law q9_cL_law 26 (o := 23) rfl) rfl
theorem dL_law_315 : decode cL_law 315 = .ok (.pop, 1) := dc_87 (gB_c lq_cL_law q9_cL_law 27 (o := 87) rfl)
theorem dL_law_316 : decode cL_law 316 = .ok (.aload_n 2, 1) := dc_44 (gB_c lq_cL_law q9_cL_law 28 (o := 44) rfl)
theorem dL_law_317 : decode cL_law 317 = .ok (.aload_n 0, 1) := dc_42 (gB_c lq_cL_law q9_cL_law 29 (o := 42) rfl)
theorem dL_law_318 : decode cL_law 318 = .ok (.iload_n 3, 1) := dc_29 (gB_c lq_cL_law q9_cL_law 30 (o := 29) rfl)
theorem dL_law_319 : decode cL_law 319 = .ok (.iconst 1, 1) := dc_4 (gB_c lq_cL_law q9_cL_law 31 (o := 4) rfl)
theorem dL_law_320 : decode cL_law 320 = .ok (.iadd, 1) := dc_96 (gB_c lq_cL_law q10_cL_law 0 (o := 96) rfl)
theorem dL_law_321 : decode cL_law 321 = .ok (.iaload, 1) := dc_46 (gB_c lq_cL_law q10_cL_law 1 (o := 46) rfl)
theorem dL_law_322 : decode cL_law 322 = .ok (.invokevirtual 26, 3) := dc_182 (gB_c lq_cL_law q10_cL_law 2 (o := 182) rfl) (gB_c lq_cL_law q10_cL_law 3 (o := 0) rfl) (gB_c lq_cL_law q10_cL_law 4 (o := 26) rfl) rfl
theorem dL_law_325 : decode cL_law 325 = .ok (.pop, 1) := dc_87 (gB_c lq_cL_law q10_cL_law 5 (o := 87) rfl)
theorem dL_law_326 : decode cL_law 326 = .ok (.goto 1393, 3) := dc_167 (gB_c lq_cL_law q10_cL_law 6 (o := 167) rfl) (gB_c lq_cL_law q10_cL_law 7 (o := 5) rfl) (gB_c lq_cL_law q10_cL_law 8 (o := 113) rfl) rfl
theorem dL_law_329 : decode cL_law 329 = .ok (.aload_n 1, 1) := dc_43 (gB_c lq_cL_law q10_cL_law 9 (o := 43) rfl)
theorem dL_law_330 : decode cL_law 330 = .ok (.aload_n 0, 1) := dc_42 (gB_c lq_cL_law q10_cL_law 10 (o := 42) rfl)
theorem dL_law_331 : decode cL_law 331 = .ok (.iload_n 3, 1) := dc_29 (gB_c lq_cL_law q10_cL_law 11 (o := 29) rfl)
theorem dL_law_332 : decode cL_law 332 = .ok (.iconst 1, 1) := dc_4 (gB_c lq_cL_law q10_cL_law 12 (o := 4) rfl)
theorem dL_law_333 : decode cL_law 333 = .ok (.iadd, 1) := dc_96 (gB_c lq_cL_law q10_cL_law 13 (o := 96) rfl)
theorem dL_law_334 : decode cL_law 334 = .ok (.iaload, 1) := dc_46 (gB_c lq_cL_law q10_cL_law 14 (o := 46) rfl)
theorem dL_law_335 : decode cL_law 335 = .ok (.invokevirtual 27, 3) := dc_182 (gB_c lq_cL_law q10_cL_law 15 (o := 182) rfl) (gB_c lq_cL_law q10_cL_law 16 (o := 0) rfl) (gB_c lq_cL_law q10_cL_law 17 (o := 27) rfl) rfl
theorem dL_law_338 : decode cL_law 338 = .ok (.pop, 1) := dc_87 (gB_c lq_cL_law q10_cL_law 18 (o := 87) rfl)
theorem dL_law_339 : decode cL_law 339 = .ok (.aload_n 2, 1) := dc_44 (gB_c lq_cL_law q10_cL_law 19 (o := 44) rfl)
theorem dL_law_340 : decode cL_law 340 = .ok (.aload_n 0, 1) := dc_42 (gB_c lq_cL_law q10_cL_law 20 (o := 42) rfl)
theorem dL_law_341 : decode cL_law 341 = .ok (.iload_n 3, 1) := dc_29 (gB_c lq_cL_law q10_cL_law 21 (o := 29) rfl)
theorem dL_law_342 : decode cL_law 342 = .ok (.iconst 1, 1) := dc_4 (gB_c lq_cL_law q10_cL_law 22 (o := 4) rfl)
theorem dL_law_343 : decode cL_law 343 = .ok (.iadd, 1) := dc_96 (gB_c lq_cL_law q10_cL_law 23 (o := 96) rfl)
theorem dL_law_344 : decode cL_law 344 = .ok (.iaload, 1) := dc_46 (gB_c lq_cL_law q10_cL_law 24 (o := 46) rfl)
theorem dL_law_345 : decode cL_law 345 = .ok (.invokevirtual 30, 3) := dc_182 (gB_c lq_cL_law q10_cL_law 25 (o := 182) rfl) (gB_c lq_cL_law q10_cL_law 26 (o := 0) rfl) (gB_c lq_cL_law q10_cL_law 27 (o := 30) rfl) rfl
theorem dL_law_348 : decode cL_law 348 = .ok (.pop, 1) := dc_87 (gB_c lq_cL_law q10_cL_law 28 (o := 87) rfl)
theorem dL_law_349 : decode cL_law 349 = .ok (.goto 1370, 3) := dc_167 (gB_c lq_cL_law q10_cL_law 29 (o := 167) rfl) (gB_c lq_cL_law q10_cL_law 30 (o := 5) rfl) (gB_c lq_cL_law q10_cL_law 31 (o := 90) rfl) rfl
theorem dL_law_352 : decode cL_law 352 = .ok (.aload_n 1, 1) := dc_43 (gB_c lq_cL_law q11_cL_law 0 (o := 43) rfl)
theorem dL_law_353 : decode cL_law 353 = .ok (.aload_n 0, 1) := dc_42 (gB_c lq_cL_law q11_cL_law 1 (o := 42) rfl)
theorem dL_law_354 : decode cL_law 354 = .ok (.iload_n 3, 1) := dc_29 (gB_c lq_cL_law q11_cL_law 2 (o := 29) rfl)
theorem dL_law_355 : decode cL_law 355 = .ok (.iconst 1, 1) := dc_4 (gB_c lq_cL_law q11_cL_law 3 (o := 4) rfl)
theorem dL_law_356 : decode cL_law 356 = .ok (.iadd, 1) := dc_96 (gB_c lq_cL_law q11_cL_law 4 (o := 96) rfl)
theorem dL_law_357 : decode cL_law 357 = .ok (.iaload, 1) := dc_46 (gB_c lq_cL_law q11_cL_law 5 (o := 46) rfl)
theorem dL_law_358 : decode cL_law 358 = .ok (.invokevirtual 31, 3) := dc_182 (gB_c lq_cL_law q11_cL_law 6 (o := 182) rfl) (gB_c lq_cL_law q11_cL_law 7 (o := 0) rfl) (gB_c lq_cL_law q11_cL_law 8 (o := 31) rfl) rfl
theorem dL_law_361 : decode cL_law 361 = .ok (.pop, 1) := dc_87 (gB_c lq_cL_law q11_cL_law 9 (o := 87) rfl)
theorem dL_law_362 : decode cL_law 362 = .ok (.aload_n 2, 1) := dc_44 (gB_c lq_cL_law q11_cL_law 10 (o := 44) rfl)
theorem dL_law_363 : decode cL_law 363 = .ok (.aload_n 0, 1) := dc_42 (gB_c lq_cL_law q11_cL_law 11 (o := 42) rfl)
theorem dL_law_364 : decode cL_law 364 = .ok (.iload_n 3, 1) := dc_29 (gB_c lq_cL_law q11_cL_law 12 (o := 29) rfl)
theorem dL_law_365 : decode cL_law 365 = .ok (.iconst 1, 1) := dc_4 (gB_c lq_cL_law q11_cL_law 13 (o := 4) rfl)
theorem dL_law_366 : decode cL_law 366 = .ok (.iadd, 1) := dc_96 (gB_c lq_cL_law q11_cL_law 14 (o := 96) rfl)
theorem dL_law_367 : decode cL_law 367 = .ok (.iaload, 1) := dc_46 (gB_c lq_cL_law q11_cL_law 15 (o := 46) rfl)
theorem dL_law_368 : decode cL_law 368 = .ok (.invokevirtual 34, 3) := dc_182 (gB_c lq_cL_law q11_cL_law 16 (o := 182) rfl) (gB_c lq_cL_law q11_cL_law 17 (o := 0) rfl) (gB_c lq_cL_law q11_cL_law 18 (o := 34) rfl) rfl
theorem dL_law_371 : decode cL_law 371 = .ok (.pop, 1) := dc_87 (gB_c lq_cL_law q11_cL_law 19 (o := 87) rfl)
theorem dL_law_372 : decode cL_law 372 = .ok (.goto 1347, 3) := dc_167 (gB_c lq_cL_law q11_cL_law 20 (o := 167) rfl) (gB_c lq_cL_law q11_cL_law 21 (o := 5) rfl) (gB_c lq_cL_law q11_cL_law 22 (o := 67) rfl) rfl
theorem dL_law_375 : decode cL_law 375 = .ok (.aload_n 1, 1) := dc_43 (gB_c lq_cL_law q11_cL_law 23 (o := 43) rfl)
theorem dL_law_376 : decode cL_law 376 = .ok (.aload_n 0, 1) := dc_42 (gB_c lq_cL_law q11_cL_law 24 (o := 42) rfl)
theorem dL_law_377 : decode cL_law 377 = .ok (.iload_n 3, 1) := dc_29 (gB_c lq_cL_law q11_cL_law 25 (o := 29) rfl)
theorem dL_law_378 : decode cL_law 378 = .ok (.iconst 1, 1) := dc_4 (gB_c lq_cL_law q11_cL_law 26 (o := 4) rfl)
theorem dL_law_379 : decode cL_law 379 = .ok (.iadd, 1) := dc_96 (gB_c lq_cL_law q11_cL_law 27 (o := 96) rfl)
theorem dL_law_380 : decode cL_law 380 = .ok (.iaload, 1) := dc_46 (gB_c lq_cL_law q11_cL_law 28 (o := 46) rfl)
theorem dL_law_381 : decode cL_law 381 = .ok (.aload_n 0, 1) := dc_42 (gB_c lq_cL_law q11_cL_law 29 (o := 42) rfl)
theorem dL_law_382 : decode cL_law 382 = .ok (.iload_n 3, 1) := dc_29 (gB_c lq_cL_law q11_cL_law 30 (o := 29) rfl)
theorem dL_law_383 : decode cL_law 383 = .ok (.iconst 2, 1) := dc_5 (gB_c lq_cL_law q11_cL_law 31 (o := 5) rfl)
theorem dL_law_384 : decode cL_law 384 = .ok (.iadd, 1) := dc_96 (gB_c lq_cL_law q12_cL_law 0 (o := 96) rfl)
theorem dL_law_385 : decode cL_law 385 = .ok (.iaload, 1) := dc_46 (gB_c lq_cL_law q12_cL_law 1 (o := 46) rfl)
theorem dL_law_386 : decode cL_law 386 = .ok (.invokevirtual 35, 3) := dc_182 (gB_c lq_cL_law q12_cL_law 2 (o := 182) rfl) (gB_c lq_cL_law q12_cL_law 3 (o := 0) rfl) (gB_c lq_cL_law q12_cL_law 4 (o := 35) rfl) rfl
theorem dL_law_389 : decode cL_law 389 = .ok (.pop, 1) := dc_87 (gB_c lq_cL_law q12_cL_law 5 (o := 87) rfl)
theorem dL_law_390 : decode cL_law 390 = .ok (.aload_n 2, 1) := dc_44 (gB_c lq_cL_law q12_cL_law 6 (o := 44) rfl)
theorem dL_law_391 : decode cL_law 391 = .ok (.aload_n 0, 1) := dc_42 (gB_c lq_cL_law q12_cL_law 7 (o := 42) rfl)
theorem dL_law_392 : decode cL_law 392 = .ok (.iload_n 3, 1) := dc_29 (gB_c lq_cL_law q12_cL_law 8 (o := 29) rfl)
theorem dL_law_393 : decode cL_law 393 = .ok (.iconst 1, 1) := dc_4 (gB_c lq_cL_law q12_cL_law 9 (o := 4) rfl)
theorem dL_law_394 : decode cL_law 394 = .ok (.iadd, 1) := dc_96 (gB_c lq_cL_law q12_cL_law 10 (o := 96) rfl)
theorem dL_law_395 : decode cL_law 395 = .ok (.iaload, 1) := dc_46 (gB_c lq_cL_law q12_cL_law 11 (o := 46) rfl)
theorem dL_law_396 : decode cL_law 396 = .ok (.aload_n 0, 1) := dc_42 (gB_c lq_cL_law q12_cL_law 12 (o := 42) rfl)
theorem dL_law_397 : decode cL_law 397 = .ok (.iload_n 3, 1) := dc_29 (gB_c lq_cL_law q12_cL_law 13 (o := 29) rfl)
theorem dL_law_398 : decode cL_law 398 = .ok (.iconst 2, 1) := dc_5 (gB_c lq_cL_law q12_cL_law 14 (o := 5) rfl)
theorem dL_law_399 : decode cL_law 399 = .ok (.iadd, 1) := dc_96 (gB_c lq_cL_law q12_cL_law 15 (o := 96) rfl)
theorem dL_law_400 : decode cL_law 400 = .ok (.iaload, 1) := dc_46 (gB_c lq_cL_law q12_cL_law 16 (o := 46) rfl)
theorem dL_law_401 : decode cL_law 401 = .ok (.invokevirtual 39, 3) := dc_182 (gB_c lq_cL_law q12_cL_law 17 (o := 182) rfl) (gB_c lq_cL_law q12_cL_law 18 (o := 0) rfl) (gB_c lq_cL_law q12_cL_law 19 (o := 39) rfl) rfl
theorem dL_law_404 : decode cL_law 404 = .ok (.pop, 1) := dc_87 (gB_c lq_cL_law q12_cL_law 20 (o := 87) rfl)
theorem dL_law_405 : decode cL_law 405 = .ok (.goto 1314, 3) := dc_167 (gB_c lq_cL_law q12_cL_law 21 (o := 167) rfl) (gB_c lq_cL_law q12_cL_law 22 (o := 5) rfl) (gB_c lq_cL_law q12_cL_law 23 (o := 34) rfl) rfl
theorem dL_law_408 : decode cL_law 408 = .ok (.aload_n 1, 1) := dc_43 (gB_c lq_cL_law q12_cL_law 24 (o := 43) rfl)
theorem dL_law_409 : decode cL_law 409 = .ok (.aload_n 0, 1) := dc_42 (gB_c lq_cL_law q12_cL_law 25 (o := 42) rfl)
theorem dL_law_410 : decode cL_law 410 = .ok (.iload_n 3, 1) := dc_29 (gB_c lq_cL_law q12_cL_law 26 (o := 29) rfl)
theorem dL_law_411 : decode cL_law 411 = .ok (.iconst 1, 1) := dc_4 (gB_c lq_cL_law q12_cL_law 27 (o := 4) rfl)
theorem dL_law_412 : decode cL_law 412 = .ok (.iadd, 1) := dc_96 (gB_c lq_cL_law q12_cL_law 28 (o := 96) rfl)
theorem dL_law_413 : decode cL_law 413 = .ok (.iaload, 1) := dc_46 (gB_c lq_cL_law q12_cL_law 29 (o := 46) rfl)
theorem dL_law_414 : decode cL_law 414 = .ok (.aload_n 0, 1) := dc_42 (gB_c lq_cL_law q12_cL_law 30 (o := 42) rfl)
theorem dL_law_415 : decode cL_law 415 = .ok (.iload_n 3, 1) := dc_29 (gB_c lq_cL_law q12_cL_law 31 (o := 29) rfl)
theorem dL_law_416 : decode cL_law 416 = .ok (.iconst 2, 1) := dc_5 (gB_c lq_cL_law q13_cL_law 0 (o := 5) rfl)
theorem dL_law_417 : decode cL_law 417 = .ok (.iadd, 1) := dc_96 (gB_c lq_cL_law q13_cL_law 1 (o := 96) rfl)
theorem dL_law_418 : decode cL_law 418 = .ok (.iaload, 1) := dc_46 (gB_c lq_cL_law q13_cL_law 2 (o := 46) rfl)
theorem dL_law_419 : decode cL_law 419 = .ok (.invokevirtual 40, 3) := dc_182 (gB_c lq_cL_law q13_cL_law 3 (o := 182) rfl) (gB_c lq_cL_law q13_cL_law 4 (o := 0) rfl) (gB_c lq_cL_law q13_cL_law 5 (o := 40) rfl) rfl
theorem dL_law_422 : decode cL_law 422 = .ok (.pop, 1) := dc_87 (gB_c lq_cL_law q13_cL_law 6 (o := 87) rfl)
theorem dL_law_423 : decode cL_law 423 = .ok (.aload_n 2, 1) := dc_44 (gB_c lq_cL_law q13_cL_law 7 (o := 44) rfl)
theorem dL_law_424 : decode cL_law 424 = .ok (.aload_n 0, 1) := dc_42 (gB_c lq_cL_law q13_cL_law 8 (o := 42) rfl)
theorem dL_law_425 : decode cL_law 425 = .ok (.iload_n 3, 1) := dc_29 (gB_c lq_cL_law q13_cL_law 9 (o := 29) rfl)
theorem dL_law_426 : decode cL_law 426 = .ok (.iconst 1, 1) := dc_4 (gB_c lq_cL_law q13_cL_law 10 (o := 4) rfl)
theorem dL_law_427 : decode cL_law 427 = .ok (.iadd, 1) := dc_96 (gB_c lq_cL_law q13_cL_law 11 (o := 96) rfl)
theorem dL_law_428 : decode cL_law 428 = .ok (.iaload, 1) := dc_46 (gB_c lq_cL_law q13_cL_law 12 (o := 46) rfl)
theorem dL_law_429 : decode cL_law 429 = .ok (.aload_n 0, 1) := dc_42 (gB_c lq_cL_law q13_cL_law 13 (o := 42) rfl)
theorem dL_law_430 : decode cL_law 430 = .ok (.iload_n 3, 1) := dc_29 (gB_c lq_cL_law q13_cL_law 14 (o := 29) rfl)
theorem dL_law_431 : decode cL_law 431 = .ok (.iconst 2, 1) := dc_5 (gB_c lq_cL_law q13_cL_law 15 (o := 5) rfl)
theorem dL_law_432 : decode cL_law 432 = .ok (.iadd, 1) := dc_96 (gB_c lq_cL_law q13_cL_law 16 (o := 96) rfl)
theorem dL_law_433 : decode cL_law 433 = .ok (.iaload, 1) := dc_46 (gB_c lq_cL_law q13_cL_law 17 (o := 46) rfl)
theorem dL_law_434 : decode cL_law 434 = .ok (.invokevirtual 43, 3) := dc_182 (gB_c lq_cL_law q13_cL_law 18 (o := 182) rfl) (gB_c lq_cL_law q13_cL_law 19 (o := 0) rfl) (gB_c lq_cL_law q13_cL_law 20 (o := 43) rfl) rfl
theorem dL_law_437 : decode cL_law 437 = .ok (.pop, 1) := dc_87 (gB_c lq_cL_law q13_cL_law 21 (o := 87) rfl)
theorem dL_law_438 : decode cL_law 438 = .ok (.goto 1281, 3) := dc_167 (gB_c lq_cL_law q13_cL_law 22 (o := 167) rfl) (gB_c lq_cL_law q13_cL_law 23 (o := 5) rfl) (gB_c lq_cL_law q13_cL_law 24 (o := 1) rfl) rfl
theorem dL_law_441 : decode cL_law 441 = .ok (.aload_n 1, 1) := dc_43 (gB_c lq_cL_law q13_cL_law 25 (o := 43) rfl)
theorem dL_law_442 : decode cL_law 442 = .ok (.aload_n 0, 1) := dc_42 (gB_c lq_cL_law q13_cL_law 26 (o := 42) rfl)
theorem dL_law_443 : decode cL_law 443 = .ok (.iload_n 3, 1) := dc_29 (gB_c lq_cL_law q13_cL_law 27 (o := 29) rfl)
theorem dL_law_444 : decode cL_law 444 = .ok (.iconst 1, 1) := dc_4 (gB_c lq_cL_law q13_cL_law 28 (o := 4) rfl)
theorem dL_law_445 : decode cL_law 445 = .ok (.iadd, 1) := dc_96 (gB_c lq_cL_law q13_cL_law 29 (o := 96) rfl)
theorem dL_law_446 : decode cL_law 446 = .ok (.iaload, 1) := dc_46 (gB_c lq_cL_law q13_cL_law 30 (o := 46) rfl)
theorem dL_law_447 : decode cL_law 447 = .ok (.aload_n 0, 1) := dc_42 (gB_c lq_cL_law q13_cL_law 31 (o := 42) rfl)
theorem dL_law_448 : decode cL_law 448 = .ok (.iload_n 3, 1) := dc_29 (gB_c lq_cL_law q14_cL_law 0 (o := 29) rfl)
theorem dL_law_449 : decode cL_law 449 = .ok (.iconst 2, 1) := dc_5 (gB_c lq_cL_law q14_cL_law 1 (o := 5) rfl)
theorem dL_law_450 : decode cL_law 450 = .ok (.iadd, 1) := dc_96 (gB_c lq_cL_law q14_cL_law 2 (o := 96) rfl)
theorem dL_law_451 : decode cL_law 451 = .ok (.iaload, 1) := dc_46 (gB_c lq_cL_law q14_cL_law 3 (o := 46) rfl)
theorem dL_law_452 : decode cL_law 452 = .ok (.aload_n 0, 1) := dc_42 (gB_c lq_cL_law q14_cL_law 4 (o := 42) rfl)
theorem dL_law_453 : decode cL_law 453 = .ok (.iload_n 3, 1) := dc_29 (gB_c lq_cL_law q14_cL_law 5 (o := 29) rfl)
theorem dL_law_454 : decode cL_law 454 = .ok (.iconst 3, 1) := dc_6 (gB_c lq_cL_law q14_cL_law 6 (o := 6) rfl)
theorem dL_law_455 : decode cL_law 455 = .ok (.iadd, 1) := dc_96 (gB_c lq_cL_law q14_cL_law 7 (o := 96) rfl)
theorem dL_law_456 : decode cL_law 456 = .ok (.iaload, 1) := dc_46 (gB_c lq_cL_law q14_cL_law 8 (o := 46) rfl)
theorem dL_law_457 : decode cL_law 457 = .ok (.invokevirtual 44, 3) := dc_182 (gB_c lq_cL_law q14_cL_law 9 (o := 182) rfl) (gB_c lq_cL_law q14_cL_law 10 (o := 0) rfl) (gB_c lq_cL_law q14_cL_law 11 (o := 44) rfl) rfl
theorem dL_law_460 : decode cL_law 460 = .ok (.pop, 1) := dc_87 (gB_c lq_cL_law q14_cL_law 12 (o := 87) rfl)
theorem dL_law_461 : decode cL_law 461 = .ok (.aload_n 2, 1) := dc_44 (gB_c lq_cL_law q14_cL_law 13 (o := 44) rfl)
theorem dL_law_462 : decode cL_law 462 = .ok (.aload_n 0, 1) := dc_42 (gB_c lq_cL_law q14_cL_law 14 (o := 42) rfl)
theorem dL_law_463 : decode cL_law 463 = .ok (.iload_n 3, 1) := dc_29 (gB_c lq_cL_law q14_cL_law 15 (o := 29) rfl)
theorem dL_law_464 : decode cL_law 464 = .ok (.iconst 1, 1) := dc_4 (gB_c lq_cL_law q14_cL_law 16 (o := 4) rfl)
theorem dL_law_465 : decode cL_law 465 = .ok (.iadd, 1) := dc_96 (gB_c lq_cL_law q14_cL_law 17 (o := 96) rfl)
theorem dL_law_466 : decode cL_law 466 = .ok (.iaload, 1) := dc_46 (gB_c lq_cL_law q14_cL_law 18 (o := 46) rfl)
theorem dL_law_467 : decode cL_law 467 = .ok (.aload_n 0, 1) := dc_42 (gB_c lq_cL_law q14_cL_law 19 (o := 42) rfl)
theorem dL_law_468 : decode cL_law 468 = .ok (.iload_n 3, 1) := dc_29 (gB_c lq_cL_law q14_cL_law 20 (o := 29) rfl)
theorem dL_law_469 : decode cL_law 469 = .ok (.iconst 2, 1) := dc_5 (gB_c lq_cL_law q14_cL_law 21 (o := 5) rfl)
theorem dL_law_470 : decode cL_law 470 = .ok (.iadd, 1) := dc_96 (gB_c lq_cL_law q14_cL_law 22 (o := 96) rfl)
theorem dL_law_471 : decode cL_law 471 = .ok (.iaload, 1) := dc_46 (gB_c lq_cL_law q14_cL_law 23 (o := 46) rfl)
theorem dL_law_472 : decode cL_law 472 = .ok (.aload_n 0, 1) := dc_42 (gB_c lq_cL_law q14_cL_law 24 (o := 42) rfl)
theorem dL_law_473 : decode cL_law 473 = .ok (.iload_n 3, 1) := dc_29 (gB_c lq_cL_law q14_cL_law 25 (o := 29) rfl)
theorem dL_law_474 : decode cL_law 474 = .ok (.iconst 3, 1) := dc_6 (gB_c lq_cL_law q14_cL_law 26 (o := 6) rfl)
theorem dL_law_475 : decode cL_law 475 = .ok (.iadd, 1) := dc_96 (gB_c lq_cL_law q14_cL_law 27 (o := 96) rfl)
theorem dL_law_476 : decode cL_law 476 = .ok (.iaload, 1) := dc_46 (gB_c lq_cL_law q14_cL_law 28 (o := 46) rfl)
theorem dL_law_477 : decode cL_law 477 = .ok (.invokevirtual 48, 3) := dc_182 (gB_c lq_cL_law q14_cL_law 29 (o := 182) rfl) (gB_c lq_cL_law q14_cL_law 30 (o := 0) rfl) (gB_c lq_cL_law q14_cL_law 31 (o := 48) rfl) rfl
theorem dL_law_480 : decode cL_law 480 = .ok (.pop, 1) := dc_87 (gB_c lq_cL_law q15_cL_law 0 (o := 87) rfl)
theorem dL_law_481 : decode cL_law 481 = .ok (.goto 1238, 3) := dc_167 (gB_c lq_cL_law q15_cL_law 1 (o := 167) rfl) (gB_c lq_cL_law q15_cL_law 2 (o := 4) rfl) (gB_c lq_cL_law q15_cL_law 3 (o := 214) rfl) rfl
theorem dL_law_484 : decode cL_law 484 = .ok (.aload_n 1, 1) := dc_43 (gB_c lq_cL_law q15_cL_law 4 (o := 43) rfl)
theorem dL_law_485 : decode cL_law 485 = .ok (.aload_n 0, 1) := dc_42 (gB_c lq_cL_law q15_cL_law 5 (o := 42) rfl)
theorem dL_law_486 : decode cL_law 486 = .ok (.iload_n 3, 1) := dc_29 (gB_c lq_cL_law q15_cL_law 6 (o := 29) rfl)
theorem dL_law_487 : decode cL_law 487 = .ok (.iconst 1, 1) := dc_4 (gB_c lq_cL_law q15_cL_law 7 (o := 4) rfl)
theorem dL_law_488 : decode cL_law 488 = .ok (.iadd, 1) := dc_96 (gB_c lq_cL_law q15_cL_law 8 (o := 96) rfl)
theorem dL_law_489 : decode cL_law 489 = .ok (.iaload, 1) := dc_46 (gB_c lq_cL_law q15_cL_law 9 (o := 46) rfl)
theorem dL_law_490 : decode cL_law 490 = .ok (.aload_n 0, 1) := dc_42 (gB_c lq_cL_law q15_cL_law 10 (o := 42) rfl)
theorem dL_law_491 : decode cL_law 491 = .ok (.iload_n 3, 1) := dc_29 (gB_c lq_cL_law q15_cL_law 11 (o := 29) rfl)
theorem dL_law_492 : decode cL_law 492 = .ok (.iconst 2, 1) := dc_5 (gB_c lq_cL_law q15_cL_law 12 (o := 5) rfl)
theorem dL_law_493 : decode cL_law 493 = .ok (.iadd, 1) := dc_96 (gB_c lq_cL_law q15_cL_law 13 (o := 96) rfl)
theorem dL_law_494 : decode cL_law 494 = .ok (.iaload, 1) := dc_46 (gB_c lq_cL_law q15_cL_law 14 (o := 46) rfl)
theorem dL_law_495 : decode cL_law 495 = .ok (.aload_n 0, 1) := dc_42 (gB_c lq_cL_law q15_cL_law 15 (o := 42) rfl)
theorem dL_law_496 : decode cL_law 496 = .ok (.iload_n 3, 1) := dc_29 (gB_c lq_cL_law q15_cL_law 16 (o := 29) rfl)
theorem dL_law_497 : decode cL_law 497 = .ok (.iconst 3, 1) := dc_6 (gB_c lq_cL_law q15_cL_law 17 (o := 6) rfl)
theorem dL_law_498 : decode cL_law 498 = .ok (.iadd, 1) := dc_96 (gB_c lq_cL_law q15_cL_law 18 (o := 96) rfl)
theorem dL_law_499 : decode cL_law 499 = .ok (.iaload, 1) := dc_46 (gB_c lq_cL_law q15_cL_law 19 (o := 46) rfl)
theorem dL_law_500 : decode cL_law 500 = .ok (.invokevirtual 49, 3) := dc_182 (gB_c lq_cL_law q15_cL_law 20 (o := 182) rfl) (gB_c lq_cL_law q15_cL_law 21 (o := 0) rfl) (gB_c lq_cL_law q15_cL_law 22 (o := 49) rfl) rfl
theorem dL_law_503 : decode cL_law 503 = .ok (.pop, 1) := dc_87 (gB_c lq_cL_law q15_cL_law 23 (o := 87) rfl)
theorem dL_law_504 : decode cL_law 504 = .ok (.aload_n 2, 1) := dc_44 (gB_c lq_cL_law q15_cL_law 24 (o := 44) rfl)
theorem dL_law_505 : decode cL_law 505 = .ok (.aload_n 0, 1) := dc_42 (gB_c lq_cL_law q15_cL_law 25 (o := 42) rfl)
theorem dL_law_506 : decode cL_law 506 = .ok (.iload_n 3, 1) := dc_29 (gB_c lq_cL_law q15_cL_law 26 (o := 29) rfl)
theorem dL_law_507 : decode cL_law 507 = .ok (.iconst 1, 1) := dc_4 (gB_c lq_cL_law q15_cL_law 27 (o := 4) rfl)
theorem dL_law_508 : decode cL_law 508 = .ok (.iadd, 1) := dc_96 (gB_c lq_cL_law q15_cL_law 28 (o := 96) rfl)
theorem dL_law_509 : decode cL_law 509 = .ok (.iaload, 1) := dc_46 (gB_c lq_cL_law q15_cL_law 29 (o := 46) rfl)
theorem dL_law_510 : decode cL_law 510 = .ok (.aload_n 0, 1) := dc_42 (gB_c lq_cL_law q15_cL_law 30 (o := 42) rfl)
theorem dL_law_511 : decode cL_law 511 = .ok (.iload_n 3, 1) := dc_29 (gB_c lq_cL_law q15_cL_law 31 (o := 29) rfl)
theorem dL_law_512 : decode cL_law 512 = .ok (.iconst 2, 1) := dc_5 (gB_c lq_cL_law q16_cL_law 0 (o := 5) rfl)
theorem dL_law_513 : decode cL_law 513 = .ok (.iadd, 1) := dc_96 (gB_c lq_cL_law q16_cL_law 1 (o := 96) rfl)
theorem dL_law_514 : decode cL_law 514 = .ok (.iaload, 1) := dc_46 (gB_c lq_cL_law q16_cL_law 2 (o := 46) rfl)
theorem dL_law_515 : decode cL_law 515 = .ok (.aload_n 0, 1) := dc_42 (gB_c lq_cL_law q16_cL_law 3 (o := 42) rfl)
theorem dL_law_516 : decode cL_law 516 = .ok (.iload_n 3, 1) := dc_29 (gB_c lq_cL_law q16_cL_law 4 (o := 29) rfl)
theorem dL_law_517 : decode cL_law 517 = .ok (.iconst 3, 1) := dc_6 (gB_c lq_cL_law q16_cL_law 5 (o := 6) rfl)
theorem dL_law_518 : decode cL_law 518 = .ok (.iadd, 1) := dc_96 (gB_c lq_cL_law q16_cL_law 6 (o := 96) rfl)
theorem dL_law_519 : decode cL_law 519 = .ok (.iaload, 1) := dc_46 (gB_c lq_cL_law q16_cL_law 7 (o := 46) rfl)
theorem dL_law_520 : decode cL_law 520 = .ok (.invokevirtual 52, 3) := dc_182 (gB_c lq_cL_law q16_cL_law 8 (o := 182) rfl) (gB_c lq_cL_law q16_cL_law 9 (o := 0) rfl) (gB_c lq_cL_law q16_cL_law 10 (o := 52) rfl) rfl
theorem dL_law_523 : decode cL_law 523 = .ok (.pop, 1) := dc_87 (gB_c lq_cL_law q16_cL_law 11 (o := 87) rfl)
theorem dL_law_524 : decode cL_law 524 = .ok (.goto 1195, 3) := dc_167 (gB_c lq_cL_law q16_cL_law 12 (o := 167) rfl) (gB_c lq_cL_law q16_cL_law 13 (o := 4) rfl) (gB_c lq_cL_law q16_cL_law 14 (o := 171) rfl) rfl
theorem dL_law_527 : decode cL_law 527 = .ok (.aload_n 1, 1) := dc_43 (gB_c lq_cL_law q16_cL_law 15 (o := 43) rfl)
theorem dL_law_528 : decode cL_law 528 = .ok (.aload_n 0, 1) := dc_42 (gB_c lq_cL_law q16_cL_law 16 (o := 42) rfl)
theorem dL_law_529 : decode cL_law 529 = .ok (.iload_n 3, 1) := dc_29 (gB_c lq_cL_law q16_cL_law 17 (o := 29) rfl)
theorem dL_law_530 : decode cL_law 530 = .ok (.iconst 1, 1) := dc_4 (gB_c lq_cL_law q16_cL_law 18 (o := 4) rfl)
theorem dL_law_531 : decode cL_law 531 = .ok (.iadd, 1) := dc_96 (gB_c lq_cL_law q16_cL_law 19 (o := 96) rfl)
theorem dL_law_532 : decode cL_law 532 = .ok (.iaload, 1) := dc_46 (gB_c lq_cL_law q16_cL_law 20 (o := 46) rfl)
theorem dL_law_533 : decode cL_law 533 = .ok (.aload_n 0, 1) := dc_42 (gB_c lq_cL_law q16_cL_law 21 (o := 42) rfl)
theorem dL_law_534 : decode cL_law 534 = .ok (.iload_n 3, 1) := dc_29 (gB_c lq_cL_law q16_cL_law 22 (o := 29) rfl)
theorem dL_law_535 : decode cL_law 535 = .ok (.iconst 2, 1) := dc_5 (gB_c lq_cL_law q16_cL_law 23 (o := 5) rfl)
theorem dL_law_536 : decode cL_law 536 = .ok (.iadd, 1) := dc_96 (gB_c lq_cL_law q16_cL_law 24 (o := 96) rfl)
theorem dL_law_537 : decode cL_law 537 = .ok (.iaload, 1) := dc_46 (gB_c lq_cL_law q16_cL_law 25 (o := 46) rfl)
theorem dL_law_538 : decode cL_law 538 = .ok (.invokevirtual 53, 3) := dc_182 (gB_c lq_cL_law q16_cL_law 26 (o := 182) rfl) (gB_c lq_cL_law q16_cL_law 27 (o := 0) rfl) (gB_c lq_cL_law q16_cL_law 28 (o := 53) rfl) rfl
theorem dL_law_541 : decode cL_law 541 = .ok (.pop, 1) := dc_87 (gB_c lq_cL_law q16_cL_law 29 (o := 87) rfl)
theorem dL_law_542 : decode cL_law 542 = .ok (.aload_n 2, 1) := dc_44 (gB_c lq_cL_law q16_cL_law 30 (o := 44) rfl)
theorem dL_law_543 : decode cL_law 543 = .ok (.aload_n 0, 1) := dc_42 (gB_c lq_cL_law q16_cL_law 31 (o := 42) rfl)
theorem dL_law_544 : decode cL_law 544 = .ok (.iload_n 3, 1) := dc_29 (gB_c lq_cL_law q17_cL_law 0 (o := 29) rfl)
theorem dL_law_545 : decode cL_law 545 = .ok (.iconst 1, 1) := dc_4 (gB_c lq_cL_law q17_cL_law 1 (o := 4) rfl)
theorem dL_law_546 : decode cL_law 546 = .ok (.iadd, 1) := dc_96 (gB_c lq_cL_law q17_cL_law 2 (o := 96) rfl)
theorem dL_law_547 : decode cL_law 547 = .ok (.iaload, 1) := dc_46 (gB_c lq_cL_law q17_cL_law 3 (o := 46) rfl)
theorem dL_law_548 : decode cL_law 548 = .ok (.aload_n 0, 1) := dc_42 (gB_c lq_cL_law q17_cL_law 4 (o := 42) rfl)
theorem dL_law_549 : decode cL_law 549 = .ok (.iload_n 3, 1) := dc_29 (gB_c lq_cL_law q17_cL_law 5 (o := 29) rfl)
theorem dL_law_550 : decode cL_law 550 = .ok (.iconst 2, 1) := dc_5 (gB_c lq_cL_law q17_cL_law 6 (o := 5) rfl)
theorem dL_law_551 : decode cL_law 551 = .ok (.iadd, 1) := dc_96 (gB_c lq_cL_law q17_cL_law 7 (o := 96) rfl)
theorem dL_law_552 : decode cL_law 552 = .ok (.iaload, 1) := dc_46 (gB_c lq_cL_law q17_cL_law 8 (o := 46) rfl)
theorem dL_law_553 : decode cL_law 553 = .ok (.invokevirtual 56, 3) := dc_182 (gB_c lq_cL_law q17_cL_law 9 (o := 182) rfl) (gB_c lq_cL_law q17_cL_law 10 (o := 0) rfl) (gB_c lq_cL_law q17_cL_law 11 (o := 56) rfl) rfl
theorem dL_law_556 : decode cL_law 556 = .ok (.pop, 1) := dc_87 (gB_c lq_cL_law q17_cL_law 12 (o := 87) rfl)
theorem dL_law_557 : decode cL_law 557 = .ok (.goto 1162, 3) := dc_167 (gB_c lq_cL_law q17_cL_law 13 (o := 167) rfl) (gB_c lq_cL_law q17_cL_law 14 (o := 4) rfl) (gB_c lq_cL_law q17_cL_law 15 (o := 138) rfl) rfl
theorem dL_law_560 : decode cL_law 560 = .ok (.aload_n 1, 1) := dc_43 (gB_c lq_cL_law q17_cL_law 16 (o := 43) rfl)
theorem dL_law_561 : decode cL_law 561 = .ok (.aload_n 0, 1) := dc_42 (gB_c lq_cL_law q17_cL_law 17 (o := 42) rfl)
theorem dL_law_562 : decode cL_law 562 = .ok (.iload_n 3, 1) := dc_29 (gB_c lq_cL_law q17_cL_law 18 (o := 29) rfl)
theorem dL_law_563 : decode cL_law 563 = .ok (.iconst 1, 1) := dc_4 (gB_c lq_cL_law q17_cL_law 19 (o := 4) rfl)
theorem dL_law_564 : decode cL_law 564 = .ok (.iadd, 1) := dc_96 (gB_c lq_cL_law q17_cL_law 20 (o := 96) rfl)
theorem dL_law_565 : decode cL_law 565 = .ok (.iaload, 1) := dc_46 (gB_c lq_cL_law q17_cL_law 21 (o := 46) rfl)
theorem dL_law_566 : decode cL_law 566 = .ok (.aload_n 0, 1) := dc_42 (gB_c lq_cL_law q17_cL_law 22 (o := 42) rfl)
theorem dL_law_567 : decode cL_law 567 = .ok (.iload_n 3, 1) := dc_29 (gB_c lq_cL_law q17_cL_law 23 (o := 29) rfl)
theorem dL_law_568 : decode cL_law 568 = .ok (.iconst 2, 1) := dc_5 (gB_c lq_cL_law q17_cL_law 24 (o := 5) rfl)
theorem dL_law_569 : decode cL_law 569 = .ok (.iadd, 1) := dc_96 (gB_c lq_cL_law q17_cL_law 25 (o := 96) rfl)
theorem dL_law_570 : decode cL_law 570 = .ok (.iaload, 1) := dc_46 (gB_c lq_cL_law q17_cL_law 26 (o := 46) rfl)
theorem dL_law_571 : decode cL_law 571 = .ok (.invokevirtual 57, 3) := dc_182 (gB_c lq_cL_law q17_cL_law 27 (o := 182) rfl) (gB_c lq_cL_law q17_cL_law 28 (o := 0) rfl) (gB_c lq_cL_law q17_cL_law 29 (o := 57) rfl) rfl
theorem dL_law_574 : decode cL_law 574 = .ok (.pop, 1) := dc_87 (gB_c lq_cL_law q17_cL_law 30 (o := 87) rfl)
theorem dL_law_575 : decode cL_law 575 = .ok (.aload_n 2, 1) := dc_44 (gB_c lq_cL_law q17_cL_law 31 (o := 44) rfl)
theorem dL_law_576 : decode cL_law 576 = .ok (.aload_n 0, 1) := dc_42 (gB_c lq_cL_law q18_cL_law 0 (o := 42) rfl)
theorem dL_law_577 : decode cL_law 577 = .ok (.iload_n 3, 1) := dc_29 (gB_c lq_cL_law q18_cL_law 1 (o := 29) rfl)
theorem dL_law_578 : decode cL_law 578 = .ok (.iconst 1, 1) := dc_4 (gB_c lq_cL_law q18_cL_law 2 (o := 4) rfl)
theorem dL_law_579 : decode cL_law 579 = .ok (.iadd, 1) := dc_96 (gB_c lq_cL_law q18_cL_law 3 (o := 96) rfl)
theorem dL_law_580 : decode cL_law 580 = .ok (.iaload, 1) := dc_46 (gB_c lq_cL_law q18_cL_law 4 (o := 46) rfl)
theorem dL_law_581 : decode cL_law 581 = .ok (.aload_n 0, 1) := dc_42 (gB_c lq_cL_law q18_cL_law 5 (o := 42) rfl)
theorem dL_law_582 : decode cL_law 582 = .ok (.iload_n 3, 1) := dc_29 (gB_c lq_cL_law q18_cL_law 6 (o := 29) rfl)
theorem dL_law_583 : decode cL_law 583 = .ok (.iconst 2, 1) := dc_5 (gB_c lq_cL_law q18_cL_law 7 (o := 5) rfl)
theorem dL_law_584 : decode cL_law 584 = .ok (.iadd, 1) := dc_96 (gB_c lq_cL_law q18_cL_law 8 (o := 96) rfl)
theorem dL_law_585 : decode cL_law 585 = .ok (.iaload, 1) := dc_46 (gB_c lq_cL_law q18_cL_law 9 (o := 46) rfl)
theorem dL_law_586 : decode cL_law 586 = .ok (.invokevirtual 60, 3) := dc_182 (gB_c lq_cL_law q18_cL_law 10 (o := 182) rfl) (gB_c lq_cL_law q18_cL_law 11 (o := 0) rfl) (gB_c lq_cL_law q18_cL_law 12 (o := 60) rfl) rfl
theorem dL_law_589 : decode cL_law 589 = .ok (.pop, 1) := dc_87 (gB_c lq_cL_law q18_cL_law 13 (o := 87) rfl)
theorem dL_law_590 : decode cL_law 590 = .ok (.goto 1129, 3) := dc_167 (gB_c lq_cL_law q18_cL_law 14 (o := 167) rfl) (gB_c lq_cL_law q18_cL_law 15 (o := 4) rfl) (gB_c lq_cL_law q18_cL_law 16 (o := 105) rfl) rfl
theorem dL_law_593 : decode cL_law 593 = .ok (.aload_n 1, 1) := dc_43 (gB_c lq_cL_law q18_cL_law 17 (o := 43) rfl)
theorem dL_law_594 : decode cL_law 594 = .ok (.aload_n 0, 1) := dc_42 (gB_c lq_cL_law q18_cL_law 18 (o := 42) rfl)
theorem dL_law_595 : decode cL_law 595 = .ok (.iload_n 3, 1) := dc_29 (gB_c lq_cL_law q18_cL_law 19 (o := 29) rfl)
theorem dL_law_596 : decode cL_law 596 = .ok (.iconst 1, 1) := dc_4 (gB_c lq_cL_law q18_cL_law 20 (o := 4) rfl)
theorem dL_law_597 : decode cL_law 597 = .ok (.iadd, 1) := dc_96 (gB_c lq_cL_law q18_cL_law 21 (o := 96) rfl)
theorem dL_law_598 : decode cL_law 598 = .ok (.iaload, 1) := dc_46 (gB_c lq_cL_law q18_cL_law 22 (o := 46) rfl)
theorem dL_law_599 : decode cL_law 599 = .ok (.aload_n 0, 1) := dc_42 (gB_c lq_cL_law q18_cL_law 23 (o := 42) rfl)
theorem dL_law_600 : decode cL_law 600 = .ok (.iload_n 3, 1) := dc_29 (gB_c lq_cL_law q18_cL_law 24 (o := 29) rfl)
theorem dL_law_601 : decode cL_law 601 = .ok (.iconst 2, 1) := dc_5 (gB_c lq_cL_law q18_cL_law 25 (o := 5) rfl)
theorem dL_law_602 : decode cL_law 602 = .ok (.iadd, 1) := dc_96 (gB_c lq_cL_law q18_cL_law 26 (o := 96) rfl)
theorem dL_law_603 : decode cL_law 603 = .ok (.iaload, 1) := dc_46 (gB_c lq_cL_law q18_cL_law 27 (o := 46) rfl)
theorem dL_law_604 : decode cL_law 604 = .ok (.invokevirtual 61, 3) := dc_182 (gB_c lq_cL_law q18_cL_law 28 (o := 182) rfl) (gB_c lq_cL_law q18_cL_law 29 (o := 0) rfl) (gB_c lq_cL_law q18_cL_law 30 (o := 61) rfl) rfl
theorem dL_law_607 : decode cL_law 607 = .ok (.pop, 1) := dc_87 (gB_c lq_cL_law q18_cL_law 31 (o := 87) rfl)
theorem dL_law_608 : decode cL_law 608 = .ok (.aload_n 2, 1) := dc_44 (gB_c lq_cL_law q19_cL_law 0 (o := 44) rfl)
theorem dL_law_609 : decode cL_law 609 = .ok (.aload_n 0, 1) := dc_42 (gB_c lq_cL_law q19_cL_law 1 (o := 42) rfl)
theorem dL_law_610 : decode cL_law 610 = .ok (.iload_n 3, 1) := dc_29 (gB_c lq_cL_law q19_cL_law 2 (o := 29) rfl)
theorem dL_law_611 : decode cL_law 611 = .ok (.iconst 1, 1) := dc_4 (gB_c lq_cL_law q19_cL_law 3 (o := 4) rfl)
theorem dL_law_612 : decode cL_law 612 = .ok (.iadd, 1) := dc_96 (gB_c lq_cL_law q19_cL_law 4 (o := 96) rfl)
theorem dL_law_613 : decode cL_law 613 = .ok (.iaload, 1) := dc_46 (gB_c lq_cL_law q19_cL_law 5 (o := 46) rfl)
theorem dL_law_614 : decode cL_law 614 = .ok (.aload_n 0, 1) := dc_42 (gB_c lq_cL_law q19_cL_law 6 (o := 42) rfl)
theorem dL_law_615 : decode cL_law 615 = .ok (.iload_n 3, 1) := dc_29 (gB_c lq_cL_law q19_cL_law 7 (o := 29) rfl)
theorem dL_law_616 : decode cL_law 616 = .ok (.iconst 2, 1) := dc_5 (gB_c lq_cL_law q19_cL_law 8 (o := 5) rfl)
theorem dL_law_617 : decode cL_law 617 = .ok (.iadd, 1) := dc_96 (gB_c lq_cL_law q19_cL_law 9 (o := 96) rfl)
theorem dL_law_618 : decode cL_law 618 = .ok (.iaload, 1) := dc_46 (gB_c lq_cL_law q19_cL_law 10 (o := 46) rfl)
theorem dL_law_619 : decode cL_law 619 = .ok (.invokevirtual 64, 3) := dc_182 (gB_c lq_cL_law q19_cL_law 11 (o := 182) rfl) (gB_c lq_cL_law q19_cL_law 12 (o := 0) rfl) (gB_c lq_cL_law q19_cL_law 13 (o := 64) rfl) rfl
theorem dL_law_622 : decode cL_law 622 = .ok (.pop, 1) := dc_87 (gB_c lq_cL_law q19_cL_law 14 (o := 87) rfl)
theorem dL_law_623 : decode cL_law 623 = .ok (.goto 1096, 3) := dc_167 (gB_c lq_cL_law q19_cL_law 15 (o := 167) rfl) (gB_c lq_cL_law q19_cL_law 16 (o := 4) rfl) (gB_c lq_cL_law q19_cL_law 17 (o := 72) rfl) rfl
theorem dL_law_626 : decode cL_law 626 = .ok (.aload_n 1, 1) := dc_43 (gB_c lq_cL_law q19_cL_law 18 (o := 43) rfl)
theorem dL_law_627 : decode cL_law 627 = .ok (.aload_n 0, 1) := dc_42 (gB_c lq_cL_law q19_cL_law 19 (o := 42) rfl)
theorem dL_law_628 : decode cL_law 628 = .ok (.iload_n 3, 1) := dc_29 (gB_c lq_cL_law q19_cL_law 20 (o := 29) rfl)
theorem dL_law_629 : decode cL_law 629 = .ok (.iconst 1, 1) := dc_4 (gB_c lq_cL_law q19_cL_law 21 (o := 4) rfl)
theorem dL_law_630 : decode cL_law 630 = .ok (.iadd, 1) := dc_96 (gB_c lq_cL_law q19_cL_law 22 (o := 96) rfl)
theorem dL_law_631 : decode cL_law 631 = .ok (.iaload, 1) := dc_46 (gB_c lq_cL_law q19_cL_law 23 (o := 46) rfl)
theorem dL_law_632 : decode cL_law 632 = .ok (.aload_n 0, 1) := dc_42 (gB_c lq_cL_law q19_cL_law 24 (o := 42) rfl)
theorem dL_law_633 : decode cL_law 633 = .ok (.iload_n 3, 1) := dc_29 (gB_c lq_cL_law q19_cL_law 25 (o := 29) rfl)
theorem dL_law_634 : decode cL_law 634 = .ok (.iconst 2, 1) := dc_5 (gB_c lq_cL_law q19_cL_law 26 (o := 5) rfl)
theorem dL_law_635 : decode cL_law 635 = .ok (.iadd, 1) := dc_96 (gB_c lq_cL_law q19_cL_law 27 (o := 96) rfl)
theorem dL_law_636 : decode cL_law 636 = .ok (.iaload, 1) := dc_46 (gB_c lq_cL_law q19_cL_law 28 (o := 46) rfl)
theorem dL_law_637 : decode cL_law 637 = .ok (.aload_n 0, 1) := dc_42 (gB_c lq_cL_law q19_cL_law 29 (o := 42) rfl)
theorem dL_law_638 : decode cL_law 638 = .ok (.iload_n 3, 1) := dc_29 (gB_c lq_cL_law q19_cL_law 30 (o := 29) rfl)
theorem dL_law_639 : decode cL_law 639 = .ok (.iconst 3, 1) := dc_6 (gB_c lq_cL_law q19_cL_law 31 (o := 6) rfl)
theorem dL_law_640 : decode cL_law 640 = .ok (.iadd, 1) := dc_96 (gB_c lq_cL_law q20_cL_law 0 (o := 96) rfl)
theorem dL_law_641 : decode cL_law 641 = .ok (.iaload, 1) := dc_46 (gB_c lq_cL_law q20_cL_law 1 (o := 46) rfl)
theorem dL_law_642 : decode cL_law 642 = .ok (.invokevirtual 65, 3) := dc_182 (gB_c lq_cL_law q20_cL_law 2 (o := 182) rfl) (gB_c lq_cL_law q20_cL_law 3 (o := 0) rfl) (gB_c lq_cL_law q20_cL_law 4 (o := 65) rfl) rfl
theorem dL_law_645 : decode cL_law 645 = .ok (.pop, 1) := dc_87 (gB_c lq_cL_law q20_cL_law 5 (o := 87) rfl)
theorem dL_law_646 : decode cL_law 646 = .ok (.aload_n 2, 1) := dc_44 (gB_c lq_cL_law q20_cL_law 6 (o := 44) rfl)
theorem dL_law_647 : decode cL_law 647 = .ok (.aload_n 0, 1) := dc_42 (gB_c lq_cL_law q20_cL_law 7 (o := 42) rfl)
theorem dL_law_648 : decode cL_law 648 = .ok (.iload_n 3, 1) := dc_29 (gB_c lq_cL_law q20_cL_law 8 (o := 29) rfl)
theorem dL_law_649 : decode cL_law 649 = .ok (.iconst 1, 1) := dc_4 (gB_c lq_cL_law q20_cL_law 9 (o := 4) rfl)
theorem dL_law_650 : decode cL_law 650 = .ok (.iadd, 1) := dc_96 (gB_c lq_cL_law q20_cL_law 10 (o := 96) rfl)
theorem dL_law_651 : decode cL_law 651 = .ok (.iaload, 1) := dc_46 (gB_c lq_cL_law q20_cL_law 11 (o := 46) rfl)
theorem dL_law_652 : decode cL_law 652 = .ok (.aload_n 0, 1) := dc_42 (gB_c lq_cL_law q20_cL_law 12 (o := 42) rfl)
theorem dL_law_653 : decode cL_law 653 = .ok (.iload_n 3, 1) := dc_29 (gB_c lq_cL_law q20_cL_law 13 (o := 29) rfl)
theorem dL_law_654 : decode cL_law 654 = .ok (.iconst 2, 1) := dc_5 (gB_c lq_cL_law q20_cL_law 14 (o := 5) rfl)
theorem dL_law_655 : decode cL_law 655 = .ok (.iadd, 1) := dc_96 (gB_c lq_cL_law q20_cL_law 15 (o := 96) rfl)
theorem dL_law_656 : decode cL_law 656 = .ok (.iaload, 1) := dc_46 (gB_c lq_cL_law q20_cL_law 16 (o := 46) rfl)
theorem dL_law_657 : decode cL_law 657 = .ok (.aload_n 0, 1) := dc_42 (gB_c lq_cL_law q20_cL_law 17 (o := 42) rfl)
theorem dL_law_658 : decode cL_law 658 = .ok (.iload_n 3, 1) := dc_29 (gB_c lq_cL_law q20_cL_law 18 (o := 29) rfl)
theorem dL_law_659 : decode cL_law 659 = .ok (.iconst 3, 1) := dc_6 (gB_c lq_cL_law q20_cL_law 19 (o := 6) rfl)
theorem dL_law_660 : decode cL_law 660 = .ok (.iadd, 1) := dc_96 (gB_c lq_cL_law q20_cL_law 20 (o := 96) rfl)
theorem dL_law_661 : decode cL_law 661 = .ok (.iaload, 1) := dc_46 (gB_c lq_cL_law q20_cL_law 21 (o := 46) rfl)
theorem dL_law_662 : decode cL_law 662 = .ok (.invokevirtual 68, 3) := dc_182 (gB_c lq_cL_law q20_cL_law 22 (o := 182) rfl) (gB_c lq_cL_law q20_cL_law 23 (o := 0) rfl) (gB_c lq_cL_law q20_cL_law 24 (o := 68) rfl) rfl
theorem dL_law_665 : decode cL_law 665 = .ok (.pop, 1) := dc_87 (gB_c lq_cL_law q20_cL_law 25 (o := 87) rfl)
theorem dL_law_666 : decode cL_law 666 = .ok (.goto 1053, 3) := dc_167 (gB_c lq_cL_law q20_cL_law 26 (o := 167) rfl) (gB_c lq_cL_law q20_cL_law 27 (o := 4) rfl) (gB_c lq_cL_law q20_cL_law 28 (o := 29) rfl) rfl
theorem dL_law_669 : decode cL_law 669 = .ok (.aload_n 1, 1) := dc_43 (gB_c lq_cL_law q20_cL_law 29 (o := 43) rfl)
theorem dL_law_670 : decode cL_law 670 = .ok (.aload_n 0, 1) := dc_42 (gB_c lq_cL_law q20_cL_law 30 (o := 42) rfl)
theorem dL_law_671 : decode cL_law 671 = .ok (.iload_n 3, 1) := dc_29 (gB_c lq_cL_law q20_cL_law 31 (o := 29) rfl)
theorem dL_law_672 : decode cL_law 672 = .ok (.iconst 1, 1) := dc_4 (gB_c lq_cL_law q21_cL_law 0 (o := 4) rfl)
theorem dL_law_673 : decode cL_law 673 = .ok (.iadd, 1) := dc_96 (gB_c lq_cL_law q21_cL_law 1 (o := 96) rfl)
theorem dL_law_674 : decode cL_law 674 = .ok (.iaload, 1) := dc_46 (gB_c lq_cL_law q21_cL_law 2 (o := 46) rfl)
theorem dL_law_675 : decode cL_law 675 = .ok (.aload_n 0, 1) := dc_42 (gB_c lq_cL_law q21_cL_law 3 (o := 42) rfl)
theorem dL_law_676 : decode cL_law 676 = .ok (.iload_n 3, 1) := dc_29 (gB_c lq_cL_law q21_cL_law 4 (o := 29) rfl)
theorem dL_law_677 : decode cL_law 677 = .ok (.iconst 2, 1) := dc_5 (gB_c lq_cL_law q21_cL_law 5 (o := 5) rfl)
theorem dL_law_678 : decode cL_law 678 = .ok (.iadd, 1) := dc_96 (gB_c lq_cL_law q21_cL_law 6 (o := 96) rfl)
theorem dL_law_679 : decode cL_law 679 = .ok (.iaload, 1) := dc_46 (gB_c lq_cL_law q21_cL_law 7 (o := 46) rfl)
theorem dL_law_680 : decode cL_law 680 = .ok (.invokevirtual 69, 3) := dc_182 (gB_c lq_cL_law q21_cL_law 8 (o := 182) rfl) (gB_c lq_cL_law q21_cL_law 9 (o := 0) rfl) (gB_c lq_cL_law q21_cL_law 10 (o := 69) rfl) rfl
theorem dL_law_683 : decode cL_law 683 = .ok (.pop, 1) := dc_87 (gB_c lq_cL_law q21_cL_law 11 (o := 87) rfl)
theorem dL_law_684 : decode cL_law 684 = .ok (.aload_n 2, 1) := dc_44 (gB_c lq_cL_law q21_cL_law 12 (o := 44) rfl)
theorem dL_law_685 : decode cL_law 685 = .ok (.aload_n 0, 1) := dc_42 (gB_c lq_cL_law q21_cL_law 13 (o := 42) rfl)
theorem dL_law_686 : decode cL_law 686 = .ok (.iload_n 3, 1) := dc_29 (gB_c lq_cL_law q21_cL_law 14 (o := 29) rfl)
theorem dL_law_687 : decode cL_law 687 = .ok (.iconst 1, 1) := dc_4 (gB_c lq_cL_law q21_cL_law 15 (o := 4) rfl)
theorem dL_law_688 : decode cL_law 688 = .ok (.iadd, 1) := dc_96 (gB_c lq_cL_law q21_cL_law 16 (o := 96) rfl)
theorem dL_law_689 : decode cL_law 689 = .ok (.iaload, 1) := dc_46 (gB_c lq_cL_law q21_cL_law 17 (o := 46) rfl)
theorem dL_law_690 : decode cL_law 690 = .ok (.aload_n 0, 1) := dc_42 (gB_c lq_cL_law q21_cL_law 18 (o := 42) rfl)
theorem dL_law_691 : decode cL_law 691 = .ok (.iload_n 3, 1) := dc_29 (gB_c lq_cL_law q21_cL_law 19 (o := 29) rfl)
theorem dL_law_692 : decode cL_law 692 = .ok (.iconst 2, 1) := dc_5 (gB_c lq_cL_law q21_cL_law 20 (o := 5) rfl)
theorem dL_law_693 : decode cL_law 693 = .ok (.iadd, 1) := dc_96 (gB_c lq_cL_law q21_cL_law 21 (o := 96) rfl)
theorem dL_law_694 : decode cL_law 694 = .ok (.iaload, 1) := dc_46 (gB_c lq_cL_law q21_cL_law 22 (o := 46) rfl)
theorem dL_law_695 : decode cL_law 695 = .ok (.invokevirtual 72, 3) := dc_182 (gB_c lq_cL_law q21_cL_law 23 (o := 182) rfl) (gB_c lq_cL_law q21_cL_law 24 (o := 0) rfl) (gB_c lq_cL_law q21_cL_law 25 (o := 72) rfl) rfl
theorem dL_law_698 : decode cL_law 698 = .ok (.pop, 1) := dc_87 (gB_c lq_cL_law q21_cL_law 26 (o := 87) rfl)
theorem dL_law_699 : decode cL_law 699 = .ok (.goto 1020, 3) := dc_167 (gB_c lq_cL_law q21_cL_law 27 (o := 167) rfl) (gB_c lq_cL_law q21_cL_law 28 (o := 3) rfl) (gB_c lq_cL_law q21_cL_law 29 (o := 252) rfl) rfl
theorem dL_law_702 : decode cL_law 702 = .ok (.aload_n 1, 1) := dc_43 (gB_c lq_cL_law q21_cL_law 30 (o := 43) rfl)
theorem dL_law_703 : decode cL_law 703 = .ok (.aload_n 0, 1) := dc_42 (gB_c lq_cL_law q21_cL_law 31 (o := 42) rfl)
theorem dL_law_704 : decode cL_law 704 = .ok (.iload_n 3, 1) := dc_29 (gB_c lq_cL_law q22_cL_law 0 (o := 29) rfl)
theorem dL_law_705 : decode cL_law 705 = .ok (.iconst 1, 1) := dc_4 (gB_c lq_cL_law q22_cL_law 1 (o := 4) rfl)
theorem dL_law_706 : decode cL_law 706 = .ok (.iadd, 1) := dc_96 (gB_c lq_cL_law q22_cL_law 2 (o := 96) rfl)
theorem dL_law_707 : decode cL_law 707 = .ok (.iaload, 1) := dc_46 (gB_c lq_cL_law q22_cL_law 3 (o := 46) rfl)
theorem dL_law_708 : decode cL_law 708 = .ok (.invokevirtual 73, 3) := dc_182 (gB_c lq_cL_law q22_cL_law 4 (o := 182) rfl) (gB_c lq_cL_law q22_cL_law 5 (o := 0) rfl) (gB_c lq_cL_law q22_cL_law 6 (o := 73) rfl) rfl
theorem dL_law_711 : decode cL_law 711 = .ok (.pop, 1) := dc_87 (gB_c lq_cL_law q22_cL_law 7 (o := 87) rfl)
theorem dL_law_712 : decode cL_law 712 = .ok (.aload_n 2, 1) := dc_44 (gB_c lq_cL_law q22_cL_law 8 (o := 44) rfl)
theorem dL_law_713 : decode cL_law 713 = .ok (.aload_n 0, 1) := dc_42 (gB_c lq_cL_law q22_cL_law 9 (o := 42) rfl)
theorem dL_law_714 : decode cL_law 714 = .ok (.iload_n 3, 1) := dc_29 (gB_c lq_cL_law q22_cL_law 10 (o := 29) rfl)
theorem dL_law_715 : decode cL_law 715 = .ok (.iconst 1, 1) := dc_4 (gB_c lq_cL_law q22_cL_law 11 (o := 4) rfl)
theorem dL_law_716 : decode cL_law 716 = .ok (.iadd, 1) := dc_96 (gB_c lq_cL_law q22_cL_law 12 (o := 96) rfl)
theorem dL_law_717 : decode cL_law 717 = .ok (.iaload, 1) := dc_46 (gB_c lq_cL_law q22_cL_law 13 (o := 46) rfl)
theorem dL_law_718 : decode cL_law 718 = .ok (.invokevirtual 76, 3) := dc_182 (gB_c lq_cL_law q22_cL_law 14 (o := 182) rfl) (gB_c lq_cL_law q22_cL_law 15 (o := 0) rfl) (gB_c lq_cL_law q22_cL_law 16 (o := 76) rfl) rfl
theorem dL_law_721 : decode cL_law 721 = .ok (.pop, 1) := dc_87 (gB_c lq_cL_law q22_cL_law 17 (o := 87) rfl)
theorem dL_law_722 : decode cL_law 722 = .ok (.goto 997, 3) := dc_167 (gB_c lq_cL_law q22_cL_law 18 (o := 167) rfl) (gB_c lq_cL_law q22_cL_law 19 (o := 3) rfl) (gB_c lq_cL_law q22_cL_law 20 (o := 229) rfl) rfl
theorem dL_law_725 : decode cL_law 725 = .ok (.aload_n 1, 1) := dc_43 (gB_c lq_cL_law q22_cL_law 21 (o := 43) rfl)
theorem dL_law_726 : decode cL_law 726 = .ok (.aload_n 0, 1) := dc_42 (gB_c lq_cL_law q22_cL_law 22 (o := 42) rfl)
theorem dL_law_727 : decode cL_law 727 = .ok (.iload_n 3, 1) := dc_29 (gB_c lq_cL_law q22_cL_law 23 (o := 29) rfl)
theorem dL_law_728 : decode cL_law 728 = .ok (.iconst 1, 1) := dc_4 (gB_c lq_cL_law q22_cL_law 24 (o := 4) rfl)
theorem dL_law_729 : decode cL_law 729 = .ok (.iadd, 1) := dc_96 (gB_c lq_cL_law q22_cL_law 25 (o := 96) rfl)
theorem dL_law_730 : decode cL_law 730 = .ok (.iaload, 1) := dc_46 (gB_c lq_cL_law q22_cL_law 26 (o := 46) rfl)
theorem dL_law_731 : decode cL_law 731 = .ok (.aload_n 0, 1) := dc_42 (gB_c lq_cL_law q22_cL_law 27 (o := 42) rfl)
theorem dL_law_732 : decode cL_law 732 = .ok (.iload_n 3, 1) := dc_29 (gB_c lq_cL_law q22_cL_law 28 (o := 29) rfl)
theorem dL_law_733 : decode cL_law 733 = .ok (.iconst 2, 1) := dc_5 (gB_c lq_cL_law q22_cL_law 29 (o := 5) rfl)
theorem dL_law_734 : decode cL_law 734 = .ok (.iadd, 1) := dc_96 (gB_c lq_cL_law q22_cL_law 30 (o := 96) rfl)
theorem dL_law_735 : decode cL_law 735 = .ok (.iaload, 1) := dc_46 (gB_c lq_cL_law q22_cL_law 31 (o := 46) rfl)
theorem dL_law_736 : decode cL_law 736 = .ok (.invokevirtual 77, 3) := dc_182 (gB_c lq_cL_law q23_cL_law 0 (o := 182) rfl) (gB_c lq_cL_law q23_cL_law 1 (o := 0) rfl) (gB_c lq_cL_law q23_cL_law 2 (o := 77) rfl) rfl
theorem dL_law_739 : decode cL_law 739 = .ok (.pop, 1) := dc_87 (gB_c lq_cL_law q23_cL_law 3 (o := 87) rfl)
theorem dL_law_740 : decode cL_law 740 = .ok (.aload_n 2, 1) := dc_44 (gB_c lq_cL_law q23_cL_law 4 (o := 44) rfl)
theorem dL_law_741 : decode cL_law 741 = .ok (.aload_n 0, 1) := dc_42 (gB_c lq_cL_law q23_cL_law 5 (o := 42) rfl)
theorem dL_law_742 : decode cL_law 742 = .ok (.iload_n 3, 1) := dc_29 (gB_c lq_cL_law q23_cL_law 6 (o := 29) rfl)
theorem dL_law_743 : decode cL_law 743 = .ok (.iconst 1, 1) := dc_4 (gB_c lq_cL_law q23_cL_law 7 (o := 4) rfl)
theorem dL_law_744 : decode cL_law 744 = .ok (.iadd, 1) := dc_96 (gB_c lq_cL_law q23_cL_law 8 (o := 96) rfl)
theorem dL_law_745 : decode cL_law 745 = .ok (.iaload, 1) := dc_46 (gB_c lq_cL_law q23_cL_law 9 (o := 46) rfl)
theorem dL_law_746 : decode cL_law 746 = .ok (.aload_n 0, 1) := dc_42 (gB_c lq_cL_law q23_cL_law 10 (o := 42) rfl)
theorem dL_law_747 : decode cL_law 747 = .ok (.iload_n 3, 1) := dc_29 (gB_c lq_cL_law q23_cL_law 11 (o := 29) rfl)
theorem dL_law_748 : decode cL_law 748 = .ok (.iconst 2, 1) := dc_5 (gB_c lq_cL_law q23_cL_law 12 (o := 5) rfl)
theorem dL_law_749 : decode cL_law 749 = .ok (.iadd, 1) := dc_96 (gB_c lq_cL_law q23_cL_law 13 (o := 96) rfl)
theorem dL_law_750 : decode cL_law 750 = .ok (.iaload, 1) := dc_46 (gB_c lq_cL_law q23_cL_law 14 (o := 46) rfl)
theorem dL_law_751 : decode cL_law 751 = .ok (.invokevirtual 80, 3) := dc_182 (gB_c lq_cL_law q23_cL_law 15 (o := 182) rfl) (gB_c lq_cL_law q23_cL_law 16 (o := 0) rfl) (gB_c lq_cL_law q23_cL_law 17 (o := 80) rfl) rfl
theorem dL_law_754 : decode cL_law 754 = .ok (.pop, 1) := dc_87 (gB_c lq_cL_law q23_cL_law 18 (o := 87) rfl)
theorem dL_law_755 : decode cL_law 755 = .ok (.goto 964, 3) := dc_167 (gB_c lq_cL_law q23_cL_law 19 (o := 167) rfl) (gB_c lq_cL_law q23_cL_law 20 (o := 3) rfl) (gB_c lq_cL_law q23_cL_law 21 (o := 196) rfl) rfl
theorem dL_law_758 : decode cL_law 758 = .ok (.aload_n 1, 1) := dc_43 (gB_c lq_cL_law q23_cL_law 22 (o := 43) rfl)
theorem dL_law_759 : decode cL_law 759 = .ok (.aload_n 0, 1) := dc_42 (gB_c lq_cL_law q23_cL_law 23 (o := 42) rfl)
theorem dL_law_760 : decode cL_law 760 = .ok (.iload_n 3, 1) := dc_29 (gB_c lq_cL_law q23_cL_law 24 (o := 29) rfl)
theorem dL_law_761 : decode cL_law 761 = .ok (.iconst 1, 1) := dc_4 (gB_c lq_cL_law q23_cL_law 25 (o := 4) rfl)
theorem dL_law_762 : decode cL_law 762 = .ok (.iadd, 1) := dc_96 (gB_c lq_cL_law q23_cL_law 26 (o := 96) rfl)
theorem dL_law_763 : decode cL_law 763 = .ok (.iaload, 1) := dc_46 (gB_c lq_cL_law q23_cL_law 27 (o := 46) rfl)
theorem dL_law_764 : decode cL_law 764 = .ok (.aload_n 0, 1) := dc_42 (gB_c lq_cL_law q23_cL_law 28 (o := 42) rfl)
theorem dL_law_765 : decode cL_law 765 = .ok (.iload_n 3, 1) := dc_29 (gB_c lq_cL_law q23_cL_law 29 (o := 29) rfl)
theorem dL_law_766 : decode cL_law 766 = .ok (.iconst 2, 1) := dc_5 (gB_c lq_cL_law q23_cL_law 30 (o := 5) rfl)
theorem dL_law_767 : decode cL_law 767 = .ok (.iadd, 1) := dc_96 (gB_c lq_cL_law q23_cL_law 31 (o := 96) rfl)
theorem dL_law_768 : decode cL_law 768 = .ok (.iaload, 1) := dc_46 (gB_c lq_cL_law q24_cL_law 0 (o := 46) rfl)
theorem dL_law_769 : decode cL_law 769 = .ok (.aload_n 0, 1) := dc_42 (gB_c lq_cL_law q24_cL_law 1 (o := 42) rfl)
theorem dL_law_770 : decode cL_law 770 = .ok (.iload_n 3, 1) := dc_29 (gB_c lq_cL_law q24_cL_law 2 (o := 29) rfl)
theorem dL_law_771 : decode cL_law 771 = .ok (.iconst 3, 1) := dc_6 (gB_c lq_cL_law q24_cL_law 3 (o := 6) rfl)
theorem dL_law_772 : decode cL_law 772 = .ok (.iadd, 1) := dc_96 (gB_c lq_cL_law q24_cL_law 4 (o := 96) rfl)
theorem dL_law_773 : decode cL_law 773 = .ok (.iaload, 1) := dc_46 (gB_c lq_cL_law q24_cL_law 5 (o := 46) rfl)
theorem dL_law_774 : decode cL_law 774 = .ok (.invokevirtual 81, 3) := dc_182 (gB_c lq_cL_law q24_cL_law 6 (o := 182) rfl) (gB_c lq_cL_law q24_cL_law 7 (o := 0) rfl) (gB_c lq_cL_law q24_cL_law 8 (o := 81) rfl) rfl
theorem dL_law_777 : decode cL_law 777 = .ok (.pop, 1) := dc_87 (gB_c lq_cL_law q24_cL_law 9 (o := 87) rfl)
theorem dL_law_778 : decode cL_law 778 = .ok (.aload_n 2, 1) := dc_44 (gB_c lq_cL_law q24_cL_law 10 (o := 44) rfl)
theorem dL_law_779 : decode cL_law 779 = .ok (.aload_n 0, 1) := dc_42 (gB_c lq_cL_law q24_cL_law 11 (o := 42) rfl)
theorem dL_law_780 : decode cL_law 780 = .ok (.iload_n 3, 1) := dc_29 (gB_c lq_cL_law q24_cL_law 12 (o := 29) rfl)
theorem dL_law_781 : decode cL_law 781 = .ok (.iconst 1, 1) := dc_4 (gB_c lq_cL_law q24_cL_law 13 (o := 4) rfl)
theorem dL_law_782 : decode cL_law 782 = .ok (.iadd, 1) := dc_96 (gB_c lq_cL_law q24_cL_law 14 (o := 96) rfl)
theorem dL_law_783 : decode cL_law 783 = .ok (.iaload, 1) := dc_46 (gB_c lq_cL_law q24_cL_law 15 (o := 46) rfl)
theorem dL_law_784 : decode cL_law 784 = .ok (.aload_n 0, 1) := dc_42 (gB_c lq_cL_law q24_cL_law 16 (o := 42) rfl)
theorem dL_law_785 : decode cL_law 785 = .ok (.iload_n 3, 1) := dc_29 (gB_c lq_cL_law q24_cL_law 17 (o := 29) rfl)
theorem dL_law_786 : decode cL_law 786 = .ok (.iconst 2, 1) := dc_5 (gB_c lq_cL_law q24_cL_law 18 (o := 5) rfl)
theorem dL_law_787 : decode cL_law 787 = .ok (.iadd, 1) := dc_96 (gB_c lq_cL_law q24_cL_law 19 (o := 96) rfl)
theorem dL_law_788 : decode cL_law 788 = .ok (.iaload, 1) := dc_46 (gB_c lq_cL_law q24_cL_law 20 (o := 46) rfl)
theorem dL_law_789 : decode cL_law 789 = .ok (.aload_n 0, 1) := dc_42 (gB_c lq_cL_law q24_cL_law 21 (o := 42) rfl)
theorem dL_law_790 : decode cL_law 790 = .ok (.iload_n 3, 1) := dc_29 (gB_c lq_cL_law q24_cL_law 22 (o := 29) rfl)
theorem dL_law_791 : decode cL_law 791 = .ok (.iconst 3, 1) := dc_6 (gB_c lq_cL_law q24_cL_law 23 (o := 6) rfl)
theorem dL_law_792 : decode cL_law 792 = .ok (.iadd, 1) := dc_96 (gB_c lq_cL_law q24_cL_law 24 (o := 96) rfl)
theorem dL_law_793 : decode cL_law 793 = .ok (.iaload, 1) := dc_46 (gB_c lq_cL_law q24_cL_law 25 (o := 46) rfl)
theorem dL_law_794 : decode cL_law 794 = .ok (.invokevirtual 84, 3) := dc_182 (gB_c lq_cL_law q24_cL_law 26 (o := 182) rfl) (gB_c lq_cL_law q24_cL_law 27 (o := 0) rfl) (gB_c lq_cL_law q24_cL_law 28 (o := 84) rfl) rfl
theorem dL_law_797 : decode cL_law 797 = .ok (.pop, 1) := dc_87 (gB_c lq_cL_law q24_cL_law 29 (o := 87) rfl)
theorem dL_law_798 : decode cL_law 798 = .ok (.goto 921, 3) := dc_167 (gB_c lq_cL_law q24_cL_law 30 (o := 167) rfl) (gB_c lq_cL_law q24_cL_law 31 (o := 3) rfl) (gB_c lq_cL_law q25_cL_law 0 (o := 153) rfl) rfl
theorem dL_law_801 : decode cL_law 801 = .ok (.aload_n 1, 1) := dc_43 (gB_c lq_cL_law q25_cL_law 1 (o := 43) rfl)
theorem dL_law_802 : decode cL_law 802 = .ok (.aload_n 0, 1) := dc_42 (gB_c lq_cL_law q25_cL_law 2 (o := 42) rfl)
theorem dL_law_803 : decode cL_law 803 = .ok (.iload_n 3, 1) := dc_29 (gB_c lq_cL_law q25_cL_law 3 (o := 29) rfl)
theorem dL_law_804 : decode cL_law 804 = .ok (.iconst 1, 1) := dc_4 (gB_c lq_cL_law q25_cL_law 4 (o := 4) rfl)
theorem dL_law_805 : decode cL_law 805 = .ok (.iadd, 1) := dc_96 (gB_c lq_cL_law q25_cL_law 5 (o := 96) rfl)
theorem dL_law_806 : decode cL_law 806 = .ok (.iaload, 1) := dc_46 (gB_c lq_cL_law q25_cL_law 6 (o := 46) rfl)
theorem dL_law_807 : decode cL_law 807 = .ok (.aload_n 0, 1) := dc_42 (gB_c lq_cL_law q25_cL_law 7 (o := 42) rfl)
theorem dL_law_808 : decode cL_law 808 = .ok (.iload_n 3, 1) := dc_29 (gB_c lq_cL_law q25_cL_law 8 (o := 29) rfl)
theorem dL_law_809 : decode cL_law 809 = .ok (.iconst 2, 1) := dc_5 (gB_c lq_cL_law q25_cL_law 9 (o := 5) rfl)
theorem dL_law_810 : decode cL_law 810 = .ok (.iadd, 1) := dc_96 (gB_c lq_cL_law q25_cL_law 10 (o := 96) rfl)
theorem dL_law_811 : decode cL_law 811 = .ok (.iaload, 1) := dc_46 (gB_c lq_cL_law q25_cL_law 11 (o := 46) rfl)
theorem dL_law_812 : decode cL_law 812 = .ok (.invokevirtual 85, 3) := dc_182 (gB_c lq_cL_law q25_cL_law 12 (o := 182) rfl) (gB_c lq_cL_law q25_cL_law 13 (o := 0) rfl) (gB_c lq_cL_law q25_cL_law 14 (o := 85) rfl) rfl
theorem dL_law_815 : decode cL_law 815 = .ok (.pop, 1) := dc_87 (gB_c lq_cL_law q25_cL_law 15 (o := 87) rfl)
theorem dL_law_816 : decode cL_law 816 = .ok (.aload_n 2, 1) := dc_44 (gB_c lq_cL_law q25_cL_law 16 (o := 44) rfl)
theorem dL_law_817 : decode cL_law 817 = .ok (.aload_n 0, 1) := dc_42 (gB_c lq_cL_law q25_cL_law 17 (o := 42) rfl)
theorem dL_law_818 : decode cL_law 818 = .ok (.iload_n 3, 1) := dc_29 (gB_c lq_cL_law q25_cL_law 18 (o := 29) rfl)
theorem dL_law_819 : decode cL_law 819 = .ok (.iconst 1, 1) := dc_4 (gB_c lq_cL_law q25_cL_law 19 (o := 4) rfl)
theorem dL_law_820 : decode cL_law 820 = .ok (.iadd, 1) := dc_96 (gB_c lq_cL_law q25_cL_law 20 (o := 96) rfl)
theorem dL_law_821 : decode cL_law 821 = .ok (.iaload, 1) := dc_46 (gB_c lq_cL_law q25_cL_law 21 (o := 46) rfl)
theorem dL_law_822 : decode cL_law 822 = .ok (.aload_n 0, 1) := dc_42 (gB_c lq_cL_law q25_cL_law 22 (o := 42) rfl)
theorem dL_law_823 : decode cL_law 823 = .ok (.iload_n 3, 1) := dc_29 (gB_c lq_cL_law q25_cL_law 23 (o := 29) rfl)
theorem dL_law_824 : decode cL_law 824 = .ok (.iconst 2, 1) := dc_5 (gB_c lq_cL_law q25_cL_law 24 (o := 5) rfl)
theorem dL_law_825 : decode cL_law 825 = .ok (.iadd, 1) := dc_96 (gB_c lq_cL_law q25_cL_law 25 (o := 96) rfl)
theorem dL_law_826 : decode cL_law 826 = .ok (.iaload, 1) := dc_46 (gB_c lq_cL_law q25_cL_law 26 (o := 46) rfl)
theorem dL_law_827 : decode cL_law 827 = .ok (.invokevirtual 88, 3) := dc_182 (gB_c lq_cL_law q25_cL_law 27 (o := 182) rfl) (gB_c lq_cL_law q25_cL_law 28 (o := 0) rfl) (gB_c lq_cL_law q25_cL_law 29 (o := 88) rfl) rfl
theorem dL_law_830 : decode cL_law 830 = .ok (.pop, 1) := dc_87 (gB_c lq_cL_law q25_cL_law 30 (o := 87) rfl)
theorem dL_law_831 : decode cL_law 831 = .ok (.goto 888, 3) := dc_167 (gB_c lq_cL_law q25_cL_law 31 (o := 167) rfl) (gB_c lq_cL_law q26_cL_law 0 (o := 3) rfl) (gB_c lq_cL_law q26_cL_law 1 (o := 120) rfl) rfl
theorem dL_law_834 : decode cL_law 834 = .ok (.aload_n 1, 1) := dc_43 (gB_c lq_cL_law q26_cL_law 2 (o := 43) rfl)
theorem dL_law_835 : decode cL_law 835 = .ok (.aload_n 0, 1) := dc_42 (gB_c lq_cL_law q26_cL_law 3 (o := 42) rfl)
theorem dL_law_836 : decode cL_law 836 = .ok (.iload_n 3, 1) := dc_29 (gB_c lq_cL_law q26_cL_law 4 (o := 29) rfl)
theorem dL_law_837 : decode cL_law 837 = .ok (.iconst 1, 1) := dc_4 (gB_c lq_cL_law q26_cL_law 5 (o := 4) rfl)
theorem dL_law_838 : decode cL_law 838 = .ok (.iadd, 1) := dc_96 (gB_c lq_cL_law q26_cL_law 6 (o := 96) rfl)
theorem dL_law_839 : decode cL_law 839 = .ok (.iaload, 1) := dc_46 (gB_c lq_cL_law q26_cL_law 7 (o := 46) rfl)
theorem dL_law_840 : decode cL_law 840 = .ok (.aload_n 0, 1) := dc_42 (gB_c lq_cL_law q26_cL_law 8 (o := 42) rfl)
theorem dL_law_841 : decode cL_law 841 = .ok (.iload_n 3, 1) := dc_29 (gB_c lq_cL_law q26_cL_law 9 (o := 29) rfl)
theorem dL_law_842 : decode cL_law 842 = .ok (.iconst 2, 1) := dc_5 (gB_c lq_cL_law q26_cL_law 10 (o := 5) rfl)
theorem dL_law_843 : decode cL_law 843 = .ok (.iadd, 1) := dc_96 (gB_c lq_cL_law q26_cL_law 11 (o := 96) rfl)
theorem dL_law_844 : decode cL_law 844 = .ok (.iaload, 1) := dc_46 (gB_c lq_cL_law q26_cL_law 12 (o := 46) rfl)
theorem dL_law_845 : decode cL_law 845 = .ok (.aload_n 0, 1) := dc_42 (gB_c lq_cL_law q26_cL_law 13 (o := 42) rfl)
theorem dL_law_846 : decode cL_law 846 = .ok (.iload_n 3, 1) := dc_29 (gB_c lq_cL_law q26_cL_law 14 (o := 29) rfl)
theorem dL_law_847 : decode cL_law 847 = .ok (.iconst 3, 1) := dc_6 (gB_c lq_cL_law q26_cL_law 15 (o := 6) rfl)
theorem dL_law_848 : decode cL_law 848 = .ok (.iadd, 1) := dc_96 (gB_c lq_cL_law q26_cL_law 16 (o := 96) rfl)
theorem dL_law_849 : decode cL_law 849 = .ok (.iaload, 1) := dc_46 (gB_c lq_cL_law q26_cL_law 17 (o := 46) rfl)
theorem dL_law_850 : decode cL_law 850 = .ok (.invokevirtual 89, 3) := dc_182 (gB_c lq_cL_law q26_cL_law 18 (o := 182) rfl) (gB_c lq_cL_law q26_cL_law 19 (o := 0) rfl) (gB_c lq_cL_law q26_cL_law 20 (o := 89) rfl) rfl
theorem dL_law_853 : decode cL_law 853 = .ok (.pop, 1) := dc_87 (gB_c lq_cL_law q26_cL_law 21 (o := 87) rfl)
theorem dL_law_854 : decode cL_law 854 = .ok (.aload_n 2, 1) := dc_44 (gB_c lq_cL_law q26_cL_law 22 (o := 44) rfl)
theorem dL_law_855 : decode cL_law 855 = .ok (.aload_n 0, 1) := dc_42 (gB_c lq_cL_law q26_cL_law 23 (o := 42) rfl)
theorem dL_law_856 : decode cL_law 856 = .ok (.iload_n 3, 1) := dc_29 (gB_c lq_cL_law q26_cL_law 24 (o := 29) rfl)
theorem dL_law_857 : decode cL_law 857 = .ok (.iconst 1, 1) := dc_4 (gB_c lq_cL_law q26_cL_law 25 (o := 4) rfl)
theorem dL_law_858 : decode cL_law 858 = .ok (.iadd, 1) := dc_96 (gB_c lq_cL_law q26_cL_law 26 (o := 96) rfl)
theorem dL_law_859 : decode cL_law 859 = .ok (.iaload, 1) := dc_46 (gB_c lq_cL_law q26_cL_law 27 (o := 46) rfl)
theorem dL_law_860 : decode cL_law 860 = .ok (.aload_n 0, 1) := dc_42 (gB_c lq_cL_law q26_cL_law 28 (o := 42) rfl)
theorem dL_law_861 : decode cL_law 861 = .ok (.iload_n 3, 1) := dc_29 (gB_c lq_cL_law q26_cL_law 29 (o := 29) rfl)
theorem dL_law_862 : decode cL_law 862 = .ok (.iconst 2, 1) := dc_5 (gB_c lq_cL_law q26_cL_law 30 (o := 5) rfl)
theorem dL_law_863 : decode cL_law 863 = .ok (.iadd, 1) := dc_96 (gB_c lq_cL_law q26_cL_law 31 (o := 96) rfl)
theorem dL_law_864 : decode cL_law 864 = .ok (.iaload, 1) := dc_46 (gB_c lq_cL_law q27_cL_law 0 (o := 46) rfl)
theorem dL_law_865 : decode cL_law 865 = .ok (.aload_n 0, 1) := dc_42 (gB_c lq_cL_law q27_cL_law 1 (o := 42) rfl)
theorem dL_law_866 : decode cL_law 866 = .ok (.iload_n 3, 1) := dc_29 (gB_c lq_cL_law q27_cL_law 2 (o := 29) rfl)
theorem dL_law_867 : decode cL_law 867 = .ok (.iconst 3, 1) := dc_6 (gB_c lq_cL_law q27_cL_law 3 (o := 6) rfl)
theorem dL_law_868 : decode cL_law 868 = .ok (.iadd, 1) := dc_96 (gB_c lq_cL_law q27_cL_law 4 (o := 96) rfl)
theorem dL_law_869 : decode cL_law 869 = .ok (.iaload, 1) := dc_46 (gB_c lq_cL_law q27_cL_law 5 (o := 46) rfl)
theorem dL_law_870 : decode cL_law 870 = .ok (.invokevirtual 92, 3) := dc_182 (gB_c lq_cL_law q27_cL_law 6 (o := 182) rfl) (gB_c lq_cL_law q27_cL_law 7 (o := 0) rfl) (gB_c lq_cL_law q27_cL_law 8 (o := 92) rfl) rfl
theorem dL_law_873 : decode cL_law 873 = .ok (.pop, 1) := dc_87 (gB_c lq_cL_law q27_cL_law 9 (o := 87) rfl)
theorem dL_law_874 : decode cL_law 874 = .ok (.goto 845, 3) := dc_167 (gB_c lq_cL_law q27_cL_law 10 (o := 167) rfl) (gB_c lq_cL_law q27_cL_law 11 (o := 3) rfl) (gB_c lq_cL_law q27_cL_law 12 (o := 77) rfl) rfl
theorem dL_law_877 : decode cL_law 877 = .ok (.aload_n 1, 1) := dc_43 (gB_c lq_cL_law q27_cL_law 13 (o := 43) rfl)
theorem dL_law_878 : decode cL_law 878 = .ok (.aload_n 0, 1) := dc_42 (gB_c lq_cL_law q27_cL_law 14 (o := 42) rfl)
theorem dL_law_879 : decode cL_law 879 = .ok (.iload_n 3, 1) := dc_29 (gB_c lq_cL_law q27_cL_law 15 (o := 29) rfl)
theorem dL_law_880 : decode cL_law 880 = .ok (.iconst 1, 1) := dc_4 (gB_c lq_cL_law q27_cL_law 16 (o := 4) rfl)
theorem dL_law_881 : decode cL_law 881 = .ok (.iadd, 1) := dc_96 (gB_c lq_cL_law q27_cL_law 17 (o := 96) rfl)
theorem dL_law_882 : decode cL_law 882 = .ok (.iaload, 1) := dc_46 (gB_c lq_cL_law q27_cL_law 18 (o := 46) rfl)
theorem dL_law_883 : decode cL_law 883 = .ok (.aload_n 0, 1) := dc_42 (gB_c lq_cL_law q27_cL_law 19 (o := 42) rfl)
theorem dL_law_884 : decode cL_law 884 = .ok (.iload_n 3, 1) := dc_29 (gB_c lq_cL_law q27_cL_law 20 (o := 29) rfl)
theorem dL_law_885 : decode cL_law 885 = .ok (.iconst 2, 1) := dc_5 (gB_c lq_cL_law q27_cL_law 21 (o := 5) rfl)
theorem dL_law_886 : decode cL_law 886 = .ok (.iadd, 1) := dc_96 (gB_c lq_cL_law q27_cL_law 22 (o := 96) rfl)
theorem dL_law_887 : decode cL_law 887 = .ok (.iaload, 1) := dc_46 (gB_c lq_cL_law q27_cL_law 23 (o := 46) rfl)
theorem dL_law_888 : decode cL_law 888 = .ok (.invokevirtual 93, 3) := dc_182 (gB_c lq_cL_law q27_cL_law 24 (o := 182) rfl) (gB_c lq_cL_law q27_cL_law 25 (o := 0) rfl) (gB_c lq_cL_law q27_cL_law 26 (o := 93) rfl) rfl
theorem dL_law_891 : decode cL_law 891 = .ok (.pop, 1) := dc_87 (gB_c lq_cL_law q27_cL_law 27 (o := 87) rfl)
theorem dL_law_892 : decode cL_law 892 = .ok (.aload_n 2, 1) := dc_44 (gB_c lq_cL_law q27_cL_law 28 (o := 44) rfl)
theorem dL_law_893 : decode cL_law 893 = .ok (.aload_n 0, 1) := dc_42 (gB_c lq_cL_law q27_cL_law 29 (o := 42) rfl)
theorem dL_law_894 : decode cL_law 894 = .ok (.iload_n 3, 1) := dc_29 (gB_c lq_cL_law q27_cL_law 30 (o := 29) rfl)
theorem dL_law_895 : decode cL_law 895 = .ok (.iconst 1, 1) := dc_4 (gB_c lq_cL_law q27_cL_law 31 (o := 4) rfl)
theorem dL_law_896 : decode cL_law 896 = .ok (.iadd, 1) := dc_96 (gB_c lq_cL_law q28_cL_law 0 (o := 96) rfl)
theorem dL_law_897 : decode cL_law 897 = .ok (.iaload, 1) := dc_46 (gB_c lq_cL_law q28_cL_law 1 (o := 46) rfl)
theorem dL_law_898 : decode cL_law 898 = .ok (.aload_n 0, 1) := dc_42 (gB_c lq_cL_law q28_cL_law 2 (o := 42) rfl)
theorem dL_law_899 : decode cL_law 899 = .ok (.iload_n 3, 1) := dc_29 (gB_c lq_cL_law q28_cL_law 3 (o := 29) rfl)
theorem dL_law_900 : decode cL_law 900 = .ok (.iconst 2, 1) := dc_5 (gB_c lq_cL_law q28_cL_law 4 (o := 5) rfl)
theorem dL_law_901 : decode cL_law 901 = .ok (.iadd, 1) := dc_96 (gB_c lq_cL_law q28_cL_law 5 (o := 96) rfl)
theorem dL_law_902 : decode cL_law 902 = .ok (.iaload, 1) := dc_46 (gB_c lq_cL_law q28_cL_law 6 (o := 46) rfl)
theorem dL_law_903 : decode cL_law 903 = .ok (.invokevirtual 96, 3) := dc_182 (gB_c lq_cL_law q28_cL_law 7 (o := 182) rfl) (gB_c lq_cL_law q28_cL_law 8 (o := 0) rfl) (gB_c lq_cL_law q28_cL_law 9 (o := 96) rfl) rfl
theorem dL_law_906 : decode cL_law 906 = .ok (.pop, 1) := dc_87 (gB_c lq_cL_law q28_cL_law 10 (o := 87) rfl)
theorem dL_law_907 : decode cL_law 907 = .ok (.goto 812, 3) := dc_167 (gB_c lq_cL_law q28_cL_law 11 (o := 167) rfl) (gB_c lq_cL_law q28_cL_law 12 (o := 3) rfl) (gB_c lq_cL_law q28_cL_law 13 (o := 44) rfl) rfl
theorem dL_law_910 : decode cL_law 910 = .ok (.aload_n 1, 1) := dc_43 (gB_c lq_cL_law q28_cL_law 14 (o := 43) rfl)
theorem dL_law_911 : decode cL_law 911 = .ok (.aload_n 0, 1) := dc_42 (gB_c lq_cL_law q28_cL_law 15 (o := 42) rfl)
theorem dL_law_912 : decode cL_law 912 = .ok (.iload_n 3, 1) := dc_29 (gB_c lq_cL_law q28_cL_law 16 (o := 29) rfl)
theorem dL_law_913 : decode cL_law 913 = .ok (.iconst 1, 1) := dc_4 (gB_c lq_cL_law q28_cL_law 17 (o := 4) rfl)
theorem dL_law_914 : decode cL_law 914 = .ok (.iadd, 1) := dc_96 (gB_c lq_cL_law q28_cL_law 18 (o := 96) rfl)
theorem dL_law_915 : decode cL_law 915 = .ok (.iaload, 1) := dc_46 (gB_c lq_cL_law q28_cL_law 19 (o := 46) rfl)
theorem dL_law_916 : decode cL_law 916 = .ok (.aload_n 0, 1) := dc_42 (gB_c lq_cL_law q28_cL_law 20 (o := 42) rfl)
theorem dL_law_917 : decode cL_law 917 = .ok (.iload_n 3, 1) := dc_29 (gB_c lq_cL_law q28_cL_law 21 (o := 29) rfl)
theorem dL_law_918 : decode cL_law 918 = .ok (.iconst 2, 1) := dc_5 (gB_c lq_cL_law q28_cL_law 22 (o := 5) rfl)
theorem dL_law_919 : decode cL_law 919 = .ok (.iadd, 1) := dc_96 (gB_c lq_cL_law q28_cL_law 23 (o := 96) rfl)
theorem dL_law_920 : decode cL_law 920 = .ok (.iaload, 1) := dc_46 (gB_c lq_cL_law q28_cL_law 24 (o := 46) rfl)
theorem dL_law_921 : decode cL_law 921 = .ok (.aload_n 0, 1) := dc_42 (gB_c lq_cL_law q28_cL_law 25 (o := 42) rfl)
theorem dL_law_922 : decode cL_law 922 = .ok (.iload_n 3, 1) := dc_29 (gB_c lq_cL_law q28_cL_law 26 (o := 29) rfl)
theorem dL_law_923 : decode cL_law 923 = .ok (.iconst 3, 1) := dc_6 (gB_c lq_cL_law q28_cL_law 27 (o := 6) rfl)
theorem dL_law_924 : decode cL_law 924 = .ok (.iadd, 1) := dc_96 (gB_c lq_cL_law q28_cL_law 28 (o := 96) rfl)
theorem dL_law_925 : decode cL_law 925 = .ok (.iaload, 1) := dc_46 (gB_c lq_cL_law q28_cL_law 29 (o := 46) rfl)
theorem dL_law_926 : decode cL_law 926 = .ok (.invokevirtual 97, 3) := dc_182 (gB_c lq_cL_law q28_cL_law 30 (o := 182) rfl) (gB_c lq_cL_law q28_cL_law 31 (o := 0) rfl) (gB_c lq_cL_law q29_cL_law 0 (o := 97) rfl) rfl
theorem dL_law_929 : decode cL_law 929 = .ok (.pop, 1) := dc_87 (gB_c lq_cL_law q29_cL_law 1 (o := 87) rfl)
theorem dL_law_930 : decode cL_law 930 = .ok (.aload_n 2, 1) := dc_44 (gB_c lq_cL_law q29_cL_law 2 (o := 44) rfl)
theorem dL_law_931 : decode cL_law 931 = .ok (.aload_n 0, 1) := dc_42 (gB_c lq_cL_law q29_cL_law 3 (o := 42) rfl)
theorem dL_law_932 : decode cL_law 932 = .ok (.iload_n 3, 1) := dc_29 (gB_c lq_cL_law q29_cL_law 4 (o := 29) rfl)
theorem dL_law_933 : decode cL_law 933 = .ok (.iconst 1, 1) := dc_4 (gB_c lq_cL_law q29_cL_law 5 (o := 4) rfl)
theorem dL_law_934 : decode cL_law 934 = .ok (.iadd, 1) := dc_96 (gB_c lq_cL_law q29_cL_law 6 (o := 96) rfl)
theorem dL_law_935 : decode cL_law 935 = .ok (.iaload, 1) := dc_46 (gB_c lq_cL_law q29_cL_law 7 (o := 46) rfl)
theorem dL_law_936 : decode cL_law 936 = .ok (.aload_n 0, 1) := dc_42 (gB_c lq_cL_law q29_cL_law 8 (o := 42) rfl)
theorem dL_law_937 : decode cL_law 937 = .ok (.iload_n 3, 1) := dc_29 (gB_c lq_cL_law q29_cL_law 9 (o := 29) rfl)
theorem dL_law_938 : decode cL_law 938 = .ok (.iconst 2, 1) := dc_5 (gB_c lq_cL_law q29_cL_law 10 (o := 5) rfl)
theorem dL_law_939 : decode cL_law 939 = .ok (.iadd, 1) := dc_96 (gB_c lq_cL_law q29_cL_law 11 (o := 96) rfl)
theorem dL_law_940 : decode cL_law 940 = .ok (.iaload, 1) := dc_46 (gB_c lq_cL_law q29_cL_law 12 (o := 46) rfl)
theorem dL_law_941 : decode cL_law 941 = .ok (.aload_n 0, 1) := dc_42 (gB_c lq_cL_law q29_cL_law 13 (o := 42) rfl)
theorem dL_law_942 : decode cL_law 942 = .ok (.iload_n 3, 1) := dc_29 (gB_c lq_cL_law q29_cL_law 14 (o := 29) rfl)
theorem dL_law_943 : decode cL_law 943 = .ok (.iconst 3, 1) := dc_6 (gB_c lq_cL_law q29_cL_law 15 (o := 6) rfl)
theorem dL_law_944 : decode cL_law 944 = .ok (.iadd, 1) := dc_96 (gB_c lq_cL_law q29_cL_law 16 (o := 96) rfl)
theorem dL_law_945 : decode cL_law 945 = .ok (.iaload, 1) := dc_46 (gB_c lq_cL_law q29_cL_law 17 (o := 46) rfl)
theorem dL_law_946 : decode cL_law 946 = .ok (.invokevirtual 100, 3) := dc_182 (gB_c lq_cL_law q29_cL_law 18 (o := 182) rfl) (gB_c lq_cL_law q29_cL_law 19 (o := 0) rfl) (gB_c lq_cL_law q29_cL_law 20 (o := 100) rfl) rfl
theorem dL_law_949 : decode cL_law 949 = .ok (.pop, 1) := dc_87 (gB_c lq_cL_law q29_cL_law 21 (o := 87) rfl)
theorem dL_law_950 : decode cL_law 950 = .ok (.goto 769, 3) := dc_167 (gB_c lq_cL_law q29_cL_law 22 (o := 167) rfl) (gB_c lq_cL_law q29_cL_law 23 (o := 3) rfl) (gB_c lq_cL_law q29_cL_law 24 (o := 1) rfl) rfl
theorem dL_law_953 : decode cL_law 953 = .ok (.aload_n 1, 1) := dc_43 (gB_c lq_cL_law q29_cL_law 25 (o := 43) rfl)
theorem dL_law_954 : decode cL_law 954 = .ok (.aload_n 0, 1) := dc_42 (gB_c lq_cL_law q29_cL_law 26 (o := 42) rfl)
theorem dL_law_955 : decode cL_law 955 = .ok (.iload_n 3, 1) := dc_29 (gB_c lq_cL_law q29_cL_law 27 (o := 29) rfl)
theorem dL_law_956 : decode cL_law 956 = .ok (.iconst 1, 1) := dc_4 (gB_c lq_cL_law q29_cL_law 28 (o := 4) rfl)
theorem dL_law_957 : decode cL_law 957 = .ok (.iadd, 1) := dc_96 (gB_c lq_cL_law q29_cL_law 29 (o := 96) rfl)
theorem dL_law_958 : decode cL_law 958 = .ok (.iaload, 1) := dc_46 (gB_c lq_cL_law q29_cL_law 30 (o := 46) rfl)
theorem dL_law_959 : decode cL_law 959 = .ok (.invokevirtual 101, 3) := dc_182 (gB_c lq_cL_law q29_cL_law 31 (o := 182) rfl) (gB_c lq_cL_law q30_cL_law 0 (o := 0) rfl) (gB_c lq_cL_law q30_cL_law 1 (o := 101) rfl) rfl
theorem dL_law_962 : decode cL_law 962 = .ok (.pop, 1) := dc_87 (gB_c lq_cL_law q30_cL_law 2 (o := 87) rfl)
theorem dL_law_963 : decode cL_law 963 = .ok (.aload_n 2, 1) := dc_44 (gB_c lq_cL_law q30_cL_law 3 (o := 44) rfl)
theorem dL_law_964 : decode cL_law 964 = .ok (.aload_n 0, 1) := dc_42 (gB_c lq_cL_law q30_cL_law 4 (o := 42) rfl)
theorem dL_law_965 : decode cL_law 965 = .ok (.iload_n 3, 1) := dc_29 (gB_c lq_cL_law q30_cL_law 5 (o := 29) rfl)
theorem dL_law_966 : decode cL_law 966 = .ok (.iconst 1, 1) := dc_4 (gB_c lq_cL_law q30_cL_law 6 (o := 4) rfl)
theorem dL_law_967 : decode cL_law 967 = .ok (.iadd, 1) := dc_96 (gB_c lq_cL_law q30_cL_law 7 (o := 96) rfl)
theorem dL_law_968 : decode cL_law 968 = .ok (.iaload, 1) := dc_46 (gB_c lq_cL_law q30_cL_law 8 (o := 46) rfl)
theorem dL_law_969 : decode cL_law 969 = .ok (.invokevirtual 104, 3) := dc_182 (gB_c lq_cL_law q30_cL_law 9 (o := 182) rfl) (gB_c lq_cL_law q30_cL_law 10 (o := 0) rfl) (gB_c lq_cL_law q30_cL_law 11 (o := 104) rfl) rfl
theorem dL_law_972 : decode cL_law 972 = .ok (.pop, 1) := dc_87 (gB_c lq_cL_law q30_cL_law 12 (o := 87) rfl)
theorem dL_law_973 : decode cL_law 973 = .ok (.goto 746, 3) := dc_167 (gB_c lq_cL_law q30_cL_law 13 (o := 167) rfl) (gB_c lq_cL_law q30_cL_law 14 (o := 2) rfl) (gB_c lq_cL_law q30_cL_law 15 (o := 234) rfl) rfl
theorem dL_law_976 : decode cL_law 976 = .ok (.aload_n 1, 1) := dc_43 (gB_c lq_cL_law q30_cL_law 16 (o := 43) rfl)
theorem dL_law_977 : decode cL_law 977 = .ok (.aload_n 0, 1) := dc_42 (gB_c lq_cL_law q30_cL_law 17 (o := 42) rfl)
theorem dL_law_978 : decode cL_law 978 = .ok (.iload_n 3, 1) := dc_29 (gB_c lq_cL_law q30_cL_law 18 (o := 29) rfl)
theorem dL_law_979 : decode cL_law 979 = .ok (.iconst 1, 1) := dc_4 (gB_c lq_cL_law q30_cL_law 19 (o := 4) rfl)
theorem dL_law_980 : decode cL_law 980 = .ok (.iadd, 1) := dc_96 (gB_c lq_cL_law q30_cL_law 20 (o := 96) rfl)
theorem dL_law_981 : decode cL_law 981 = .ok (.iaload, 1) := dc_46 (gB_c lq_cL_law q30_cL_law 21 (o := 46) rfl)
theorem dL_law_982 : decode cL_law 982 = .ok (.aload_n 0, 1) := dc_42 (gB_c lq_cL_law q30_cL_law 22 (o := 42) rfl)
theorem dL_law_983 : decode cL_law 983 = .ok (.iload_n 3, 1) := dc_29 (gB_c lq_cL_law q30_cL_law 23 (o := 29) rfl)
theorem dL_law_984 : decode cL_law 984 = .ok (.iconst 2, 1) := dc_5 (gB_c lq_cL_law q30_cL_law 24 (o := 5) rfl)
theorem dL_law_985 : decode cL_law 985 = .ok (.iadd, 1) := dc_96 (gB_c lq_cL_law q30_cL_law 25 (o := 96) rfl)
theorem dL_law_986 : decode cL_law 986 = .ok (.iaload, 1) := dc_46 (gB_c lq_cL_law q30_cL_law 26 (o := 46) rfl)
theorem dL_law_987 : decode cL_law 987 = .ok (.aload_n 0, 1) := dc_42 (gB_c lq_cL_law q30_cL_law 27 (o := 42) rfl)
theorem dL_law_988 : decode cL_law 988 = .ok (.iload_n 3, 1) := dc_29 (gB_c lq_cL_law q30_cL_law 28 (o := 29) rfl)
theorem dL_law_989 : decode cL_law 989 = .ok (.iconst 3, 1) := dc_6 (gB_c lq_cL_law q30_cL_law 29 (o := 6) rfl)
theorem dL_law_990 : decode cL_law 990 = .ok (.iadd, 1) := dc_96 (gB_c lq_cL_law q30_cL_law 30 (o := 96) rfl)
theorem dL_law_991 : decode cL_law 991 = .ok (.iaload, 1) := dc_46 (gB_c lq_cL_law q30_cL_law 31 (o := 46) rfl)
theorem dL_law_992 : decode cL_law 992 = .ok (.invokevirtual 105, 3) := dc_182 (gB_c lq_cL_law q31_cL_law 0 (o := 182) rfl) (gB_c lq_cL_law q31_cL_law 1 (o := 0) rfl) (gB_c lq_cL_law q31_cL_law 2 (o := 105) rfl) rfl
theorem dL_law_995 : decode cL_law 995 = .ok (.pop, 1) := dc_87 (gB_c lq_cL_law q31_cL_law 3 (o := 87) rfl)
theorem dL_law_996 : decode cL_law 996 = .ok (.aload_n 2, 1) := dc_44 (gB_c lq_cL_law q31_cL_law 4 (o := 44) rfl)
theorem dL_law_997 : decode cL_law 997 = .ok (.aload_n 0, 1) := dc_42 (gB_c lq_cL_law q31_cL_law 5 (o := 42) rfl)
theorem dL_law_998 : decode cL_law 998 = .ok (.iload_n 3, 1) := dc_29 (gB_c lq_cL_law q31_cL_law 6 (o := 29) rfl)
theorem dL_law_999 : decode cL_law 999 = .ok (.iconst 1, 1) := dc_4 (gB_c lq_cL_law q31_cL_law 7 (o := 4) rfl)
theorem dL_law_1000 : decode cL_law 1000 = .ok (.iadd, 1) := dc_96 (gB_c lq_cL_law q31_cL_law 8 (o := 96) rfl)
theorem dL_law_1001 : decode cL_law 1001 = .ok (.iaload, 1) := dc_46 (gB_c lq_cL_law q31_cL_law 9 (o := 46) rfl)
theorem dL_law_1002 : decode cL_law 1002 = .ok (.aload_n 0, 1) := dc_42 (gB_c lq_cL_law q31_cL_law 10 (o := 42) rfl)
theorem dL_law_1003 : decode cL_law 1003 = .ok (.iload_n 3, 1) := dc_29 (gB_c lq_cL_law q31_cL_law 11 (o := 29) rfl)
theorem dL_law_1004 : decode cL_law 1004 = .ok (.iconst 2, 1) := dc_5 (gB_c lq_cL_law q31_cL_law 12 (o := 5) rfl)
theorem dL_law_1005 : decode cL_law 1005 = .ok (.iadd, 1) := dc_96 (gB_c lq_cL_law q31_cL_law 13 (o := 96) rfl)
theorem dL_law_1006 : decode cL_law 1006 = .ok (.iaload, 1) := dc_46 (gB_c lq_cL_law q31_cL_law 14 (o := 46) rfl)
theorem dL_law_1007 : decode cL_law 1007 = .ok (.aload_n 0, 1) := dc_42 (gB_c lq_cL_law q31_cL_law 15 (o := 42) rfl)
theorem dL_law_1008 : decode cL_law 1008 = .ok (.iload_n 3, 1) := dc_29 (gB_c lq_cL_law q31_cL_law 16 (o := 29) rfl)
theorem dL_law_1009 : decode cL_law 1009 = .ok (.iconst 3, 1) := dc_6 (gB_c lq_cL_law q31_cL_law 17 (o := 6) rfl)
theorem dL_law_1010 : decode cL_law 1010 = .ok (.iadd, 1) := dc_96 (gB_c lq_cL_law q31_cL_law 18 (o := 96) rfl)
theorem dL_law_1011 : decode cL_law 1011 = .ok (.iaload, 1) := dc_46 (gB_c lq_cL_law q31_cL_law 19 (o := 46) rfl)
theorem dL_law_1012 : decode cL_law 1012 = .ok (.invokevirtual 108, 3) := dc_182 (gB_c lq_cL_law q31_cL_law 20 (o := 182) rfl) (gB_c lq_cL_law q31_cL_law 21 (o := 0) rfl) (gB_c lq_cL_law q31_cL_law 22 (o := 108) rfl) rfl
theorem dL_law_1015 : decode cL_law 1015 = .ok (.pop, 1) := dc_87 (gB_c lq_cL_law q31_cL_law 23 (o := 87) rfl)
theorem dL_law_1016 : decode cL_law 1016 = .ok (.goto 703, 3) := dc_167 (gB_c lq_cL_law q31_cL_law 24 (o := 167) rfl) (gB_c lq_cL_law q31_cL_law 25 (o := 2) rfl) (gB_c lq_cL_law q31_cL_law 26 (o := 191) rfl) rfl
theorem dL_law_1019 : decode cL_law 1019 = .ok (.aload_n 1, 1) := dc_43 (gB_c lq_cL_law q31_cL_law 27 (o := 43) rfl)
theorem dL_law_1020 : decode cL_law 1020 = .ok (.aload_n 0, 1) := dc_42 (gB_c lq_cL_law q31_cL_law 28 (o := 42) rfl)
theorem dL_law_1021 : decode cL_law 1021 = .ok (.iload_n 3, 1) := dc_29 (gB_c lq_cL_law q31_cL_law 29 (o := 29) rfl)
theorem dL_law_1022 : decode cL_law 1022 = .ok (.iconst 1, 1) := dc_4 (gB_c lq_cL_law q31_cL_law 30 (o := 4) rfl)
theorem dL_law_1023 : decode cL_law 1023 = .ok (.iadd, 1) := dc_96 (gB_c lq_cL_law q31_cL_law 31 (o := 96) rfl)
theorem dL_law_1024 : decode cL_law 1024 = .ok (.iaload, 1) := dc_46 (gB_c lq_cL_law q32_cL_law 0 (o := 46) rfl)
theorem dL_law_1025 : decode cL_law 1025 = .ok (.aload_n 0, 1) := dc_42 (gB_c lq_cL_law q32_cL_law 1 (o := 42) rfl)
theorem dL_law_1026 : decode cL_law 1026 = .ok (.iload_n 3, 1) := dc_29 (gB_c lq_cL_law q32_cL_law 2 (o := 29) rfl)
theorem dL_law_1027 : decode cL_law 1027 = .ok (.iconst 2, 1) := dc_5 (gB_c lq_cL_law q32_cL_law 3 (o := 5) rfl)
theorem dL_law_1028 : decode cL_law 1028 = .ok (.iadd, 1) := dc_96 (gB_c lq_cL_law q32_cL_law 4 (o := 96) rfl)
theorem dL_law_1029 : decode cL_law 1029 = .ok (.iaload, 1) := dc_46 (gB_c lq_cL_law q32_cL_law 5 (o := 46) rfl)
theorem dL_law_1030 : decode cL_law 1030 = .ok (.aload_n 0, 1) := dc_42 (gB_c lq_cL_law q32_cL_law 6 (o := 42) rfl)
theorem dL_law_1031 : decode cL_law 1031 = .ok (.iload_n 3, 1) := dc_29 (gB_c lq_cL_law q32_cL_law 7 (o := 29) rfl)
theorem dL_law_1032 : decode cL_law 1032 = .ok (.iconst 3, 1) := dc_6 (gB_c lq_cL_law q32_cL_law 8 (o := 6) rfl)
theorem dL_law_1033 : decode cL_law 1033 = .ok (.iadd, 1) := dc_96 (gB_c lq_cL_law q32_cL_law 9 (o := 96) rfl)
theorem dL_law_1034 : decode cL_law 1034 = .ok (.iaload, 1) := dc_46 (gB_c lq_cL_law q32_cL_law 10 (o := 46) rfl)
theorem dL_law_1035 : decode cL_law 1035 = .ok (.invokevirtual 109, 3) := dc_182 (gB_c lq_cL_law q32_cL_law 11 (o := 182) rfl) (gB_c lq_cL_law q32_cL_law 12 (o := 0) rfl) (gB_c lq_cL_law q32_cL_law 13 (o := 109) rfl) rfl
theorem dL_law_1038 : decode cL_law 1038 = .ok (.pop, 1) := dc_87 (gB_c lq_cL_law q32_cL_law 14 (o := 87) rfl)
theorem dL_law_1039 : decode cL_law 1039 = .ok (.aload_n 2, 1) := dc_44 (gB_c lq_cL_law q32_cL_law 15 (o := 44) rfl)
theorem dL_law_1040 : decode cL_law 1040 = .ok (.aload_n 0, 1) := dc_42 (gB_c lq_cL_law q32_cL_law 16 (o := 42) rfl)
theorem dL_law_1041 : decode cL_law 1041 = .ok (.iload_n 3, 1) := dc_29 (gB_c lq_cL_law q32_cL_law 17 (o := 29) rfl)
theorem dL_law_1042 : decode cL_law 1042 = .ok (.iconst 1, 1) := dc_4 (gB_c lq_cL_law q32_cL_law 18 (o := 4) rfl)
theorem dL_law_1043 : decode cL_law 1043 = .ok (.iadd, 1) := dc_96 (gB_c lq_cL_law q32_cL_law 19 (o := 96) rfl)
theorem dL_law_1044 : decode cL_law 1044 = .ok (.iaload, 1) := dc_46 (gB_c lq_cL_law q32_cL_law 20 (o := 46) rfl)
theorem dL_law_1045 : decode cL_law 1045 = .ok (.aload_n 0, 1) := dc_42 (gB_c lq_cL_law q32_cL_law 21 (o := 42) rfl)
theorem dL_law_1046 : decode cL_law 1046 = .ok (.iload_n 3, 1) := dc_29 (gB_c lq_cL_law q32_cL_law 22 (o := 29) rfl)
theorem dL_law_1047 : decode cL_law 1047 = .ok (.iconst 2, 1) := dc_5 (gB_c lq_cL_law q32_cL_law 23 (o := 5) rfl)
theorem dL_law_1048 : decode cL_law 1048 = .ok (.iadd, 1) := dc_96 (gB_c lq_cL_law q32_cL_law 24 (o := 96) rfl)
theorem dL_law_1049 : decode cL_law 1049 = .ok (.iaload, 1) := dc_46 (gB_c lq_cL_law q32_cL_law 25 (o := 46) rfl)
theorem dL_law_1050 : decode cL_law 1050 = .ok (.aload_n 0, 1) := dc_42 (gB_c lq_cL_law q32_cL_law 26 (o := 42) rfl)
theorem dL_law_1051 : decode cL_law 1051 = .ok (.iload_n 3, 1) := dc_29 (gB_c lq_cL_law q32_cL_law 27 (o := 29) rfl)
theorem dL_law_1052 : decode cL_law 1052 = .ok (.iconst 3, 1) := dc_6 (gB_c lq_cL_law q32_cL_law 28 (o := 6) rfl)
theorem dL_law_1053 : decode cL_law 1053 = .ok (.iadd, 1) := dc_96 (gB_c lq_cL_law q32_cL_law 29 (o := 96) rfl)
theorem dL_law_1054 : decode cL_law 1054 = .ok (.iaload, 1) := dc_46 (gB_c lq_cL_law q32_cL_law 30 (o := 46) rfl)
theorem dL_law_1055 : decode cL_law 1055 = .ok (.invokevirtual 112, 3) := dc_182 (gB_c lq_cL_law q32_cL_law 31 (o := 182) rfl) (gB_c lq_cL_law q33_cL_law 0 (o := 0) rfl) (gB_c lq_cL_law q33_cL_law 1 (o := 112) rfl) rfl
theorem dL_law_1058 : decode cL_law 1058 = .ok (.pop, 1) := dc_87 (gB_c lq_cL_law q33_cL_law 2 (o := 87) rfl)
theorem dL_law_1059 : decode cL_law 1059 = .ok (.goto 660, 3) := dc_167 (gB_c lq_cL_law q33_cL_law 3 (o := 167) rfl) (gB_c lq_cL_law q33_cL_law 4 (o := 2) rfl) (gB_c lq_cL_law q33_cL_law 5 (o := 148) rfl) rfl
theorem dL_law_1062 : decode cL_law 1062 = .ok (.aload_n 1, 1) := dc_43 (gB_c lq_cL_law q33_cL_law 6 (o := 43) rfl)
theorem dL_law_1063 : decode cL_law 1063 = .ok (.aload_n 0, 1) := dc_42 (gB_c lq_cL_law q33_cL_law 7 (o := 42) rfl)
theorem dL_law_1064 : decode cL_law 1064 = .ok (.iload_n 3, 1) := dc_29 (gB_c lq_cL_law q33_cL_law 8 (o := 29) rfl)
theorem dL_law_1065 : decode cL_law 1065 = .ok (.iconst 1, 1) := dc_4 (gB_c lq_cL_law q33_cL_law 9 (o := 4) rfl)
theorem dL_law_1066 : decode cL_law 1066 = .ok (.iadd, 1) := dc_96 (gB_c lq_cL_law q33_cL_law 10 (o := 96) rfl)
theorem dL_law_1067 : decode cL_law 1067 = .ok (.iaload, 1) := dc_46 (gB_c lq_cL_law q33_cL_law 11 (o := 46) rfl)
theorem dL_law_1068 : decode cL_law 1068 = .ok (.invokevirtual 113, 3) := dc_182 (gB_c lq_cL_law q33_cL_law 12 (o := 182) rfl) (gB_c lq_cL_law q33_cL_law 13 (o := 0) rfl) (gB_c lq_cL_law q33_cL_law 14 (o := 113) rfl) rfl
theorem dL_law_1071 : decode cL_law 1071 = .ok (.pop, 1) := dc_87 (gB_c lq_cL_law q33_cL_law 15 (o := 87) rfl)
theorem dL_law_1072 : decode cL_law 1072 = .ok (.aload_n 2, 1) := dc_44 (gB_c lq_cL_law q33_cL_law 16 (o := 44) rfl)
theorem dL_law_1073 : decode cL_law 1073 = .ok (.aload_n 0, 1) := dc_42 (gB_c lq_cL_law q33_cL_law 17 (o := 42) rfl)
theorem dL_law_1074 : decode cL_law 1074 = .ok (.iload_n 3, 1) := dc_29 (gB_c lq_cL_law q33_cL_law 18 (o := 29) rfl)
theorem dL_law_1075 : decode cL_law 1075 = .ok (.iconst 1, 1) := dc_4 (gB_c lq_cL_law q33_cL_law 19 (o := 4) rfl)
theorem dL_law_1076 : decode cL_law 1076 = .ok (.iadd, 1) := dc_96 (gB_c lq_cL_law q33_cL_law 20 (o := 96) rfl)
theorem dL_law_1077 : decode cL_law 1077 = .ok (.iaload, 1) := dc_46 (gB_c lq_cL_law q33_cL_law 21 (o := 46) rfl)
theorem dL_law_1078 : decode cL_law 1078 = .ok (.invokevirtual 116, 3) := dc_182 (gB_c lq_cL_law q33_cL_law 22 (o := 182) rfl) (gB_c lq_cL_law q33_cL_law 23 (o := 0) rfl) (gB_c lq_cL_law q33_cL_law 24 (o := 116) rfl) rfl
theorem dL_law_1081 : decode cL_law 1081 = .ok (.pop, 1) := dc_87 (gB_c lq_cL_law q33_cL_law 25 (o := 87) rfl)
theorem dL_law_1082 : decode cL_law 1082 = .ok (.goto 637, 3) := dc_167 (gB_c lq_cL_law q33_cL_law 26 (o := 167) rfl) (gB_c lq_cL_law q33_cL_law 27 (o := 2) rfl) (gB_c lq_cL_law q33_cL_law 28 (o := 125) rfl) rfl
theorem dL_law_1085 : decode cL_law 1085 = .ok (.aload_n 1, 1) := dc_43 (gB_c lq_cL_law q33_cL_law 29 (o := 43) rfl)
theorem dL_law_1086 : decode cL_law 1086 = .ok (.aload_n 0, 1) := dc_42 (gB_c lq_cL_law q33_cL_law 30 (o := 42) rfl)
theorem dL_law_1087 : decode cL_law 1087 = .ok (.iload_n 3, 1) := dc_29 (gB_c lq_cL_law q33_cL_law 31 (o := 29) rfl)
theorem dL_law_1088 : decode cL_law 1088 = .ok (.iconst 1, 1) := dc_4 (gB_c lq_cL_law q34_cL_law 0 (o := 4) rfl)
theorem dL_law_1089 : decode cL_law 1089 = .ok (.iadd, 1) := dc_96 (gB_c lq_cL_law q34_cL_law 1 (o := 96) rfl)
theorem dL_law_1090 : decode cL_law 1090 = .ok (.iaload, 1) := dc_46 (gB_c lq_cL_law q34_cL_law 2 (o := 46) rfl)
theorem dL_law_1091 : decode cL_law 1091 = .ok (.aload_n 0, 1) := dc_42 (gB_c lq_cL_law q34_cL_law 3 (o := 42) rfl)
theorem dL_law_1092 : decode cL_law 1092 = .ok (.iload_n 3, 1) := dc_29 (gB_c lq_cL_law q34_cL_law 4 (o := 29) rfl)
theorem dL_law_1093 : decode cL_law 1093 = .ok (.iconst 2, 1) := dc_5 (gB_c lq_cL_law q34_cL_law 5 (o := 5) rfl)
theorem dL_law_1094 : decode cL_law 1094 = .ok (.iadd, 1) := dc_96 (gB_c lq_cL_law q34_cL_law 6 (o := 96) rfl)
theorem dL_law_1095 : decode cL_law 1095 = .ok (.iaload, 1) := dc_46 (gB_c lq_cL_law q34_cL_law 7 (o := 46) rfl)
theorem dL_law_1096 : decode cL_law 1096 = .ok (.aload_n 0, 1) := dc_42 (gB_c lq_cL_law q34_cL_law 8 (o := 42) rfl)
theorem dL_law_1097 : decode cL_law 1097 = .ok (.iload_n 3, 1) := dc_29 (gB_c lq_cL_law q34_cL_law 9 (o := 29) rfl)
theorem dL_law_1098 : decode cL_law 1098 = .ok (.iconst 3, 1) := dc_6 (gB_c lq_cL_law q34_cL_law 10 (o := 6) rfl)
theorem dL_law_1099 : decode cL_law 1099 = .ok (.iadd, 1) := dc_96 (gB_c lq_cL_law q34_cL_law 11 (o := 96) rfl)
theorem dL_law_1100 : decode cL_law 1100 = .ok (.iaload, 1) := dc_46 (gB_c lq_cL_law q34_cL_law 12 (o := 46) rfl)
theorem dL_law_1101 : decode cL_law 1101 = .ok (.invokevirtual 117, 3) := dc_182 (gB_c lq_cL_law q34_cL_law 13 (o := 182) rfl) (gB_c lq_cL_law q34_cL_law 14 (o := 0) rfl) (gB_c lq_cL_law q34_cL_law 15 (o := 117) rfl) rfl
theorem dL_law_1104 : decode cL_law 1104 = .ok (.pop, 1) := dc_87 (gB_c lq_cL_law q34_cL_law 16 (o := 87) rfl)
theorem dL_law_1105 : decode cL_law 1105 = .ok (.aload_n 2, 1) := dc_44 (gB_c lq_cL_law q34_cL_law 17 (o := 44) rfl)
theorem dL_law_1106 : decode cL_law 1106 = .ok (.aload_n 0, 1) := dc_42 (gB_c lq_cL_law q34_cL_law 18 (o := 42) rfl)
theorem dL_law_1107 : decode cL_law 1107 = .ok (.iload_n 3, 1) := dc_29 (gB_c lq_cL_law q34_cL_law 19 (o := 29) rfl)
theorem dL_law_1108 : decode cL_law 1108 = .ok (.iconst 1, 1) := dc_4 (gB_c lq_cL_law q34_cL_law 20 (o := 4) rfl)
theorem dL_law_1109 : decode cL_law 1109 = .ok (.iadd, 1) := dc_96 (gB_c lq_cL_law q34_cL_law 21 (o := 96) rfl)
theorem dL_law_1110 : decode cL_law 1110 = .ok (.iaload, 1) := dc_46 (gB_c lq_cL_law q34_cL_law 22 (o := 46) rfl)
theorem dL_law_1111 : decode cL_law 1111 = .ok (.aload_n 0, 1) := dc_42 (gB_c lq_cL_law q34_cL_law 23 (o := 42) rfl)
theorem dL_law_1112 : decode cL_law 1112 = .ok (.iload_n 3, 1) := dc_29 (gB_c lq_cL_law q34_cL_law 24 (o := 29) rfl)
theorem dL_law_1113 : decode cL_law 1113 = .ok (.iconst 2, 1) := dc_5 (gB_c lq_cL_law q34_cL_law 25 (o := 5) rfl)
theorem dL_law_1114 : decode cL_law 1114 = .ok (.iadd, 1) := dc_96 (gB_c lq_cL_law q34_cL_law 26 (o := 96) rfl)
theorem dL_law_1115 : decode cL_law 1115 = .ok (.iaload, 1) := dc_46 (gB_c lq_cL_law q34_cL_law 27 (o := 46) rfl)
theorem dL_law_1116 : decode cL_law 1116 = .ok (.aload_n 0, 1) := dc_42 (gB_c lq_cL_law q34_cL_law 28 (o := 42) rfl)
theorem dL_law_1117 : decode cL_law 1117 = .ok (.iload_n 3, 1) := dc_29 (gB_c lq_cL_law q34_cL_law 29 (o := 29) rfl)
theorem dL_law_1118 : decode cL_law 1118 = .ok (.iconst 3, 1) := dc_6 (gB_c lq_cL_law q34_cL_law 30 (o := 6) rfl)
theorem dL_law_1119 : decode cL_law 1119 = .ok (.iadd, 1) := dc_96 (gB_c lq_cL_law q34_cL_law 31 (o := 96) rfl)
theorem dL_law_1120 : decode cL_law 1120 = .ok (.iaload, 1) := dc_46 (gB_c lq_cL_law q35_cL_law 0 (o := 46) rfl)
theorem dL_law_1121 : decode cL_law 1121 = .ok (.invokevirtual 120, 3) := dc_182 (gB_c lq_cL_law q35_cL_law 1 (o := 182) rfl) (gB_c lq_cL_law q35_cL_law 2 (o := 0) rfl) (gB_c lq_cL_law q35_cL_law 3 (o := 120) rfl) rfl
theorem dL_law_1124 : decode cL_law 1124 = .ok (.pop, 1) := dc_87 (gB_c lq_cL_law q35_cL_law 4 (o := 87) rfl)
theorem dL_law_1125 : decode cL_law 1125 = .ok (.goto 594, 3) := dc_167 (gB_c lq_cL_law q35_cL_law 5 (o := 167) rfl) (gB_c lq_cL_law q35_cL_law 6 (o := 2) rfl) (gB_c lq_cL_law q35_cL_law 7 (o := 82) rfl) rfl
theorem dL_law_1128 : decode cL_law 1128 = .ok (.aload_n 1, 1) := dc_43 (gB_c lq_cL_law q35_cL_law 8 (o := 43) rfl)
theorem dL_law_1129 : decode cL_law 1129 = .ok (.aload_n 0, 1) := dc_42 (gB_c lq_cL_law q35_cL_law 9 (o := 42) rfl)
theorem dL_law_1130 : decode cL_law 1130 = .ok (.iload_n 3, 1) := dc_29 (gB_c lq_cL_law q35_cL_law 10 (o := 29) rfl)
theorem dL_law_1131 : decode cL_law 1131 = .ok (.iconst 1, 1) := dc_4 (gB_c lq_cL_law q35_cL_law 11 (o := 4) rfl)
theorem dL_law_1132 : decode cL_law 1132 = .ok (.iadd, 1) := dc_96 (gB_c lq_cL_law q35_cL_law 12 (o := 96) rfl)
theorem dL_law_1133 : decode cL_law 1133 = .ok (.iaload, 1) := dc_46 (gB_c lq_cL_law q35_cL_law 13 (o := 46) rfl)
theorem dL_law_1134 : decode cL_law 1134 = .ok (.aload_n 0, 1) := dc_42 (gB_c lq_cL_law q35_cL_law 14 (o := 42) rfl)
theorem dL_law_1135 : decode cL_law 1135 = .ok (.iload_n 3, 1) := dc_29 (gB_c lq_cL_law q35_cL_law 15 (o := 29) rfl)
theorem dL_law_1136 : decode cL_law 1136 = .ok (.iconst 2, 1) := dc_5 (gB_c lq_cL_law q35_cL_law 16 (o := 5) rfl)
theorem dL_law_1137 : decode cL_law 1137 = .ok (.iadd, 1) := dc_96 (gB_c lq_cL_law q35_cL_law 17 (o := 96) rfl)
theorem dL_law_1138 : decode cL_law 1138 = .ok (.iaload, 1) := dc_46 (gB_c lq_cL_law q35_cL_law 18 (o := 46) rfl)
theorem dL_law_1139 : decode cL_law 1139 = .ok (.invokevirtual 121, 3) := dc_182 (gB_c lq_cL_law q35_cL_law 19 (o := 182) rfl) (gB_c lq_cL_law q35_cL_law 20 (o := 0) rfl) (gB_c lq_cL_law q35_cL_law 21 (o := 121) rfl) rfl
theorem dL_law_1142 : decode cL_law 1142 = .ok (.pop, 1) := dc_87 (gB_c lq_cL_law q35_cL_law 22 (o := 87) rfl)
theorem dL_law_1143 : decode cL_law 1143 = .ok (.aload_n 2, 1) := dc_44 (gB_c lq_cL_law q35_cL_law 23 (o := 44) rfl)
theorem dL_law_1144 : decode cL_law 1144 = .ok (.aload_n 0, 1) := dc_42 (gB_c lq_cL_law q35_cL_law 24 (o := 42) rfl)
theorem dL_law_1145 : decode cL_law 1145 = .ok (.iload_n 3, 1) := dc_29 (gB_c lq_cL_law q35_cL_law 25 (o := 29) rfl)
theorem dL_law_1146 : decode cL_law 1146 = .ok (.iconst 1, 1) := dc_4 (gB_c lq_cL_law q35_cL_law 26 (o := 4) rfl)
theorem dL_law_1147 : decode cL_law 1147 = .ok (.iadd, 1) := dc_96 (gB_c lq_cL_law q35_cL_law 27 (o := 96) rfl)
theorem dL_law_1148 : decode cL_law 1148 = .ok (.iaload, 1) := dc_46 (gB_c lq_cL_law q35_cL_law 28 (o := 46) rfl)
theorem dL_law_1149 : decode cL_law 1149 = .ok (.aload_n 0, 1) := dc_42 (gB_c lq_cL_law q35_cL_law 29 (o := 42) rfl)
theorem dL_law_1150 : decode cL_law 1150 = .ok (.iload_n 3, 1) := dc_29 (gB_c lq_cL_law q35_cL_law 30 (o := 29) rfl)
theorem dL_law_1151 : decode cL_law 1151 = .ok (.iconst 2, 1) := dc_5 (gB_c lq_cL_law q35_cL_law 31 (o := 5) rfl)
theorem dL_law_1152 : decode cL_law 1152 = .ok (.iadd, 1) := dc_96 (gB_c lq_cL_law q36_cL_law 0 (o := 96) rfl)
theorem dL_law_1153 : decode cL_law 1153 = .ok (.iaload, 1) := dc_46 (gB_c lq_cL_law q36_cL_law 1 (o := 46) rfl)
theorem dL_law_1154 : decode cL_law 1154 = .ok (.invokevirtual 124, 3) := dc_182 (gB_c lq_cL_law q36_cL_law 2 (o := 182) rfl) (gB_c lq_cL_law q36_cL_law 3 (o := 0) rfl) (gB_c lq_cL_law q36_cL_law 4 (o := 124) rfl) rfl
theorem dL_law_1157 : decode cL_law 1157 = .ok (.pop, 1) := dc_87 (gB_c lq_cL_law q36_cL_law 5 (o := 87) rfl)
theorem dL_law_1158 : decode cL_law 1158 = .ok (.goto 561, 3) := dc_167 (gB_c lq_cL_law q36_cL_law 6 (o := 167) rfl) (gB_c lq_cL_law q36_cL_law 7 (o := 2) rfl) (gB_c lq_cL_law q36_cL_law 8 (o := 49) rfl) rfl
theorem dL_law_1161 : decode cL_law 1161 = .ok (.aload_n 1, 1) := dc_43 (gB_c lq_cL_law q36_cL_law 9 (o := 43) rfl)
theorem dL_law_1162 : decode cL_law 1162 = .ok (.aload_n 0, 1) := dc_42 (gB_c lq_cL_law q36_cL_law 10 (o := 42) rfl)
theorem dL_law_1163 : decode cL_law 1163 = .ok (.iload_n 3, 1) := dc_29 (gB_c lq_cL_law q36_cL_law 11 (o := 29) rfl)
theorem dL_law_1164 : decode cL_law 1164 = .ok (.iconst 1, 1) := dc_4 (gB_c lq_cL_law q36_cL_law 12 (o := 4) rfl)
theorem dL_law_1165 : decode cL_law 1165 = .ok (.iadd, 1) := dc_96 (gB_c lq_cL_law q36_cL_law 13 (o := 96) rfl)
theorem dL_law_1166 : decode cL_law 1166 = .ok (.iaload, 1) := dc_46 (gB_c lq_cL_law q36_cL_law 14 (o := 46) rfl)
theorem dL_law_1167 : decode cL_law 1167 = .ok (.aload_n 0, 1) := dc_42 (gB_c lq_cL_law q36_cL_law 15 (o := 42) rfl)
theorem dL_law_1168 : decode cL_law 1168 = .ok (.iload_n 3, 1) := dc_29 (gB_c lq_cL_law q36_cL_law 16 (o := 29) rfl)
theorem dL_law_1169 : decode cL_law 1169 = .ok (.iconst 2, 1) := dc_5 (gB_c lq_cL_law q36_cL_law 17 (o := 5) rfl)
theorem dL_law_1170 : decode cL_law 1170 = .ok (.iadd, 1) := dc_96 (gB_c lq_cL_law q36_cL_law 18 (o := 96) rfl)
theorem dL_law_1171 : decode cL_law 1171 = .ok (.iaload, 1) := dc_46 (gB_c lq_cL_law q36_cL_law 19 (o := 46) rfl)
theorem dL_law_1172 : decode cL_law 1172 = .ok (.aload_n 0, 1) := dc_42 (gB_c lq_cL_law q36_cL_law 20 (o := 42) rfl)
theorem dL_law_1173 : decode cL_law 1173 = .ok (.iload_n 3, 1) := dc_29 (gB_c lq_cL_law q36_cL_law 21 (o := 29) rfl)
theorem dL_law_1174 : decode cL_law 1174 = .ok (.iconst 3, 1) := dc_6 (gB_c lq_cL_law q36_cL_law 22 (o := 6) rfl)
theorem dL_law_1175 : decode cL_law 1175 = .ok (.iadd, 1) := dc_96 (gB_c lq_cL_law q36_cL_law 23 (o := 96) rfl)
theorem dL_law_1176 : decode cL_law 1176 = .ok (.iaload, 1) := dc_46 (gB_c lq_cL_law q36_cL_law 24 (o := 46) rfl)
theorem dL_law_1177 : decode cL_law 1177 = .ok (.aload_n 0, 1) := dc_42 (gB_c lq_cL_law q36_cL_law 25 (o := 42) rfl)
theorem dL_law_1178 : decode cL_law 1178 = .ok (.iload_n 3, 1) := dc_29 (gB_c lq_cL_law q36_cL_law 26 (o := 29) rfl)
theorem dL_law_1179 : decode cL_law 1179 = .ok (.iconst 4, 1) := dc_7 (gB_c lq_cL_law q36_cL_law 27 (o := 7) rfl)
theorem dL_law_1180 : decode cL_law 1180 = .ok (.iadd, 1) := dc_96 (gB_c lq_cL_law q36_cL_law 28 (o := 96) rfl)
theorem dL_law_1181 : decode cL_law 1181 = .ok (.iaload, 1) := dc_46 (gB_c lq_cL_law q36_cL_law 29 (o := 46) rfl)
theorem dL_law_1182 : decode cL_law 1182 = .ok (.invokevirtual 125, 3) := dc_182 (gB_c lq_cL_law q36_cL_law 30 (o := 182) rfl) (gB_c lq_cL_law q36_cL_law 31 (o := 0) rfl) (gB_c lq_cL_law q37_cL_law 0 (o := 125) rfl) rfl
theorem dL_law_1185 : decode cL_law 1185 = .ok (.pop, 1) := dc_87 (gB_c lq_cL_law q37_cL_law 1 (o := 87) rfl)
theorem dL_law_1186 : decode cL_law 1186 = .ok (.aload_n 2, 1) := dc_44 (gB_c lq_cL_law q37_cL_law 2 (o := 44) rfl)
theorem dL_law_1187 : decode cL_law 1187 = .ok (.aload_n 0, 1) := dc_42 (gB_c lq_cL_law q37_cL_law 3 (o := 42) rfl)
theorem dL_law_1188 : decode cL_law 1188 = .ok (.iload_n 3, 1) := dc_29 (gB_c lq_cL_law q37_cL_law 4 (o := 29) rfl)
theorem dL_law_1189 : decode cL_law 1189 = .ok (.iconst 1, 1) := dc_4 (gB_c lq_cL_law q37_cL_law 5 (o := 4) rfl)
theorem dL_law_1190 : decode cL_law 1190 = .ok (.iadd, 1) := dc_96 (gB_c lq_cL_law q37_cL_law 6 (o := 96) rfl)
theorem dL_law_1191 : decode cL_law 1191 = .ok (.iaload, 1) := dc_46 (gB_c lq_cL_law q37_cL_law 7 (o := 46) rfl)
theorem dL_law_1192 : decode cL_law 1192 = .ok (.aload_n 0, 1) := dc_42 (gB_c lq_cL_law q37_cL_law 8 (o := 42) rfl)
theorem dL_law_1193 : decode cL_law 1193 = .ok (.iload_n 3, 1) := dc_29 (gB_c lq_cL_law q37_cL_law 9 (o := 29) rfl)
theorem dL_law_1194 : decode cL_law 1194 = .ok (.iconst 2, 1) := dc_5 (gB_c lq_cL_law q37_cL_law 10 (o := 5) rfl)
theorem dL_law_1195 : decode cL_law 1195 = .ok (.iadd, 1) := dc_96 (gB_c lq_cL_law q37_cL_law 11 (o := 96) rfl)
theorem dL_law_1196 : decode cL_law 1196 = .ok (.iaload, 1) := dc_46 (gB_c lq_cL_law q37_cL_law 12 (o := 46) rfl)
theorem dL_law_1197 : decode cL_law 1197 = .ok (.aload_n 0, 1) := dc_42 (gB_c lq_cL_law q37_cL_law 13 (o := 42) rfl)
theorem dL_law_1198 : decode cL_law 1198 = .ok (.iload_n 3, 1) := dc_29 (gB_c lq_cL_law q37_cL_law 14 (o := 29) rfl)
theorem dL_law_1199 : decode cL_law 1199 = .ok (.iconst 3, 1) := dc_6 (gB_c lq_cL_law q37_cL_law 15 (o := 6) rfl)
theorem dL_law_1200 : decode cL_law 1200 = .ok (.iadd, 1) := dc_96 (gB_c lq_cL_law q37_cL_law 16 (o := 96) rfl)
theorem dL_law_1201 : decode cL_law 1201 = .ok (.iaload, 1) := dc_46 (gB_c lq_cL_law q37_cL_law 17 (o := 46) rfl)
theorem dL_law_1202 : decode cL_law 1202 = .ok (.aload_n 0, 1) := dc_42 (gB_c lq_cL_law q37_cL_law 18 (o := 42) rfl)
theorem dL_law_1203 : decode cL_law 1203 = .ok (.iload_n 3, 1) := dc_29 (gB_c lq_cL_law q37_cL_law 19 (o := 29) rfl)
theorem dL_law_1204 : decode cL_law 1204 = .ok (.iconst 4, 1) := dc_7 (gB_c lq_cL_law q37_cL_law 20 (o := 7) rfl)
theorem dL_law_1205 : decode cL_law 1205 = .ok (.iadd, 1) := dc_96 (gB_c lq_cL_law q37_cL_law 21 (o := 96) rfl)
theorem dL_law_1206 : decode cL_law 1206 = .ok (.iaload, 1) := dc_46 (gB_c lq_cL_law q37_cL_law 22 (o := 46) rfl)
theorem dL_law_1207 : decode cL_law 1207 = .ok (.invokevirtual 129, 3) := dc_182 (gB_c lq_cL_law q37_cL_law 23 (o := 182) rfl) (gB_c lq_cL_law q37_cL_law 24 (o := 0) rfl) (gB_c lq_cL_law q37_cL_law 25 (o := 129) rfl) rfl
theorem dL_law_1210 : decode cL_law 1210 = .ok (.pop, 1) := dc_87 (gB_c lq_cL_law q37_cL_law 26 (o := 87) rfl)
theorem dL_law_1211 : decode cL_law 1211 = .ok (.goto 508, 3) := dc_167 (gB_c lq_cL_law q37_cL_law 27 (o := 167) rfl) (gB_c lq_cL_law q37_cL_law 28 (o := 1) rfl) (gB_c lq_cL_law q37_cL_law 29 (o := 252) rfl) rfl
theorem dL_law_1214 : decode cL_law 1214 = .ok (.aload_n 1, 1) := dc_43 (gB_c lq_cL_law q37_cL_law 30 (o := 43) rfl)
theorem dL_law_1215 : decode cL_law 1215 = .ok (.aload_n 0, 1) := dc_42 (gB_c lq_cL_law q37_cL_law 31 (o := 42) rfl)
theorem dL_law_1216 : decode cL_law 1216 = .ok (.iload_n 3, 1) := dc_29 (gB_c lq_cL_law q38_cL_law 0 (o := 29) rfl)
theorem dL_law_1217 : decode cL_law 1217 = .ok (.iconst 1, 1) := dc_4 (gB_c lq_cL_law q38_cL_law 1 (o := 4) rfl)
theorem dL_law_1218 : decode cL_law 1218 = .ok (.iadd, 1) := dc_96 (gB_c lq_cL_law q38_cL_law 2 (o := 96) rfl)
theorem dL_law_1219 : decode cL_law 1219 = .ok (.iaload, 1) := dc_46 (gB_c lq_cL_law q38_cL_law 3 (o := 46) rfl)
theorem dL_law_1220 : decode cL_law 1220 = .ok (.aload_n 0, 1) := dc_42 (gB_c lq_cL_law q38_cL_law 4 (o := 42) rfl)
theorem dL_law_1221 : decode cL_law 1221 = .ok (.iload_n 3, 1) := dc_29 (gB_c lq_cL_law q38_cL_law 5 (o := 29) rfl)
theorem dL_law_1222 : decode cL_law 1222 = .ok (.iconst 2, 1) := dc_5 (gB_c lq_cL_law q38_cL_law 6 (o := 5) rfl)
theorem dL_law_1223 : decode cL_law 1223 = .ok (.iadd, 1) := dc_96 (gB_c lq_cL_law q38_cL_law 7 (o := 96) rfl)
theorem dL_law_1224 : decode cL_law 1224 = .ok (.iaload, 1) := dc_46 (gB_c lq_cL_law q38_cL_law 8 (o := 46) rfl)
theorem dL_law_1225 : decode cL_law 1225 = .ok (.aload_n 0, 1) := dc_42 (gB_c lq_cL_law q38_cL_law 9 (o := 42) rfl)
theorem dL_law_1226 : decode cL_law 1226 = .ok (.iload_n 3, 1) := dc_29 (gB_c lq_cL_law q38_cL_law 10 (o := 29) rfl)
theorem dL_law_1227 : decode cL_law 1227 = .ok (.iconst 3, 1) := dc_6 (gB_c lq_cL_law q38_cL_law 11 (o := 6) rfl)
theorem dL_law_1228 : decode cL_law 1228 = .ok (.iadd, 1) := dc_96 (gB_c lq_cL_law q38_cL_law 12 (o := 96) rfl)
theorem dL_law_1229 : decode cL_law 1229 = .ok (.iaload, 1) := dc_46 (gB_c lq_cL_law q38_cL_law 13 (o := 46) rfl)
theorem dL_law_1230 : decode cL_law 1230 = .ok (.invokevirtual 130, 3) := dc_182 (gB_c lq_cL_law q38_cL_law 14 (o := 182) rfl) (gB_c lq_cL_law q38_cL_law 15 (o := 0) rfl) (gB_c lq_cL_law q38_cL_law 16 (o := 130) rfl) rfl
theorem dL_law_1233 : decode cL_law 1233 = .ok (.pop, 1) := dc_87 (gB_c lq_cL_law q38_cL_law 17 (o := 87) rfl)
theorem dL_law_1234 : decode cL_law 1234 = .ok (.aload_n 2, 1) := dc_44 (gB_c lq_cL_law q38_cL_law 18 (o := 44) rfl)
theorem dL_law_1235 : decode cL_law 1235 = .ok (.aload_n 0, 1) := dc_42 (gB_c lq_cL_law q38_cL_law 19 (o := 42) rfl)
theorem dL_law_1236 : decode cL_law 1236 = .ok (.iload_n 3, 1) := dc_29 (gB_c lq_cL_law q38_cL_law 20 (o := 29) rfl)
theorem dL_law_1237 : decode cL_law 1237 = .ok (.iconst 1, 1) := dc_4 (gB_c lq_cL_law q38_cL_law 21 (o := 4) rfl)
theorem dL_law_1238 : decode cL_law 1238 = .ok (.iadd, 1) := dc_96 (gB_c lq_cL_law q38_cL_law 22 (o := 96) rfl)
theorem dL_law_1239 : decode cL_law 1239 = .ok (.iaload, 1) := dc_46 (gB_c lq_cL_law q38_cL_law 23 (o := 46) rfl)
theorem dL_law_1240 : decode cL_law 1240 = .ok (.aload_n 0, 1) := dc_42 (gB_c lq_cL_law q38_cL_law 24 (o := 42) rfl)
theorem dL_law_1241 : decode cL_law 1241 = .ok (.iload_n 3, 1) := dc_29 (gB_c lq_cL_law q38_cL_law 25 (o := 29) rfl)
theorem dL_law_1242 : decode cL_law 1242 = .ok (.iconst 2, 1) := dc_5 (gB_c lq_cL_law q38_cL_law 26 (o := 5) rfl)
theorem dL_law_1243 : decode cL_law 1243 = .ok (.iadd, 1) := dc_96 (gB_c lq_cL_law q38_cL_law 27 (o := 96) rfl)
theorem dL_law_1244 : decode cL_law 1244 = .ok (.iaload, 1) := dc_46 (gB_c lq_cL_law q38_cL_law 28 (o := 46) rfl)
theorem dL_law_1245 : decode cL_law 1245 = .ok (.aload_n 0, 1) := dc_42 (gB_c lq_cL_law q38_cL_law 29 (o := 42) rfl)
theorem dL_law_1246 : decode cL_law 1246 = .ok (.iload_n 3, 1) := dc_29 (gB_c lq_cL_law q38_cL_law 30 (o := 29) rfl)
theorem dL_law_1247 : decode cL_law 1247 = .ok (.iconst 3, 1) := dc_6 (gB_c lq_cL_law q38_cL_law 31 (o := 6) rfl)
theorem dL_law_1248 : decode cL_law 1248 = .ok (.iadd, 1) := dc_96 (gB_c lq_cL_law q39_cL_law 0 (o := 96) rfl)
theorem dL_law_1249 : decode cL_law 1249 = .ok (.iaload, 1) := dc_46 (gB_c lq_cL_law q39_cL_law 1 (o := 46) rfl)
theorem dL_law_1250 : decode cL_law 1250 = .ok (.invokevirtual 133, 3) := dc_182 (gB_c lq_cL_law q39_cL_law 2 (o := 182) rfl) (gB_c lq_cL_law q39_cL_law 3 (o := 0) rfl) (gB_c lq_cL_law q39_cL_law 4 (o := 133) rfl) rfl
theorem dL_law_1253 : decode cL_law 1253 = .ok (.pop, 1) := dc_87 (gB_c lq_cL_law q39_cL_law 5 (o := 87) rfl)
theorem dL_law_1254 : decode cL_law 1254 = .ok (.goto 465, 3) := dc_167 (gB_c lq_cL_law q39_cL_law 6 (o := 167) rfl) (gB_c lq_cL_law q39_cL_law 7 (o := 1) rfl) (gB_c lq_cL_law q39_cL_law 8 (o := 209) rfl) rfl
theorem dL_law_1257 : decode cL_law 1257 = .ok (.aload_n 1, 1) := dc_43 (gB_c lq_cL_law q39_cL_law 9 (o := 43) rfl)
theorem dL_law_1258 : decode cL_law 1258 = .ok (.aload_n 0, 1) := dc_42 (gB_c lq_cL_law q39_cL_law 10 (o := 42) rfl)
theorem dL_law_1259 : decode cL_law 1259 = .ok (.iload_n 3, 1) := dc_29 (gB_c lq_cL_law q39_cL_law 11 (o := 29) rfl)
theorem dL_law_1260 : decode cL_law 1260 = .ok (.iconst 1, 1) := dc_4 (gB_c lq_cL_law q39_cL_law 12 (o := 4) rfl)
theorem dL_law_1261 : decode cL_law 1261 = .ok (.iadd, 1) := dc_96 (gB_c lq_cL_law q39_cL_law 13 (o := 96) rfl)
theorem dL_law_1262 : decode cL_law 1262 = .ok (.iaload, 1) := dc_46 (gB_c lq_cL_law q39_cL_law 14 (o := 46) rfl)
theorem dL_law_1263 : decode cL_law 1263 = .ok (.aload_n 0, 1) := dc_42 (gB_c lq_cL_law q39_cL_law 15 (o := 42) rfl)
theorem dL_law_1264 : decode cL_law 1264 = .ok (.iload_n 3, 1) := dc_29 (gB_c lq_cL_law q39_cL_law 16 (o := 29) rfl)
theorem dL_law_1265 : decode cL_law 1265 = .ok (.iconst 2, 1) := dc_5 (gB_c lq_cL_law q39_cL_law 17 (o := 5) rfl)
theorem dL_law_1266 : decode cL_law 1266 = .ok (.iadd, 1) := dc_96 (gB_c lq_cL_law q39_cL_law 18 (o := 96) rfl)
theorem dL_law_1267 : decode cL_law 1267 = .ok (.iaload, 1) := dc_46 (gB_c lq_cL_law q39_cL_law 19 (o := 46) rfl)
theorem dL_law_1268 : decode cL_law 1268 = .ok (.aload_n 0, 1) := dc_42 (gB_c lq_cL_law q39_cL_law 20 (o := 42) rfl)
theorem dL_law_1269 : decode cL_law 1269 = .ok (.iload_n 3, 1) := dc_29 (gB_c lq_cL_law q39_cL_law 21 (o := 29) rfl)
theorem dL_law_1270 : decode cL_law 1270 = .ok (.iconst 3, 1) := dc_6 (gB_c lq_cL_law q39_cL_law 22 (o := 6) rfl)
theorem dL_law_1271 : decode cL_law 1271 = .ok (.iadd, 1) := dc_96 (gB_c lq_cL_law q39_cL_law 23 (o := 96) rfl)
theorem dL_law_1272 : decode cL_law 1272 = .ok (.iaload, 1) := dc_46 (gB_c lq_cL_law q39_cL_law 24 (o := 46) rfl)
theorem dL_law_1273 : decode cL_law 1273 = .ok (.invokevirtual 134, 3) := dc_182 (gB_c lq_cL_law q39_cL_law 25 (o := 182) rfl) (gB_c lq_cL_law q39_cL_law 26 (o := 0) rfl) (gB_c lq_cL_law q39_cL_law 27 (o := 134) rfl) rfl
theorem dL_law_1276 : decode cL_law 1276 = .ok (.pop, 1) := dc_87 (gB_c lq_cL_law q39_cL_law 28 (o := 87) rfl)
theorem dL_law_1277 : decode cL_law 1277 = .ok (.aload_n 2, 1) := dc_44 (gB_c lq_cL_law q39_cL_law 29 (o := 44) rfl)
theorem dL_law_1278 : decode cL_law 1278 = .ok (.aload_n 0, 1) := dc_42 (gB_c lq_cL_law q39_cL_law 30 (o := 42) rfl)
theorem dL_law_1279 : decode cL_law 1279 = .ok (.iload_n 3, 1) := dc_29 (gB_c lq_cL_law q39_cL_law 31 (o := 29) rfl)
theorem dL_law_1280 : decode cL_law 1280 = .ok (.iconst 1, 1) := dc_4 (gB_c lq_cL_law q40_cL_law 0 (o := 4) rfl)
theorem dL_law_1281 : decode cL_law 1281 = .ok (.iadd, 1) := dc_96 (gB_c lq_cL_law q40_cL_law 1 (o := 96) rfl)
theorem dL_law_1282 : decode cL_law 1282 = .ok (.iaload, 1) := dc_46 (gB_c lq_cL_law q40_cL_law 2 (o := 46) rfl)
theorem dL_law_1283 : decode cL_law 1283 = .ok (.aload_n 0, 1) := dc_42 (gB_c lq_cL_law q40_cL_law 3 (o := 42) rfl)
theorem dL_law_1284 : decode cL_law 1284 = .ok (.iload_n 3, 1) := dc_29 (gB_c lq_cL_law q40_cL_law 4 (o := 29) rfl)
theorem dL_law_1285 : decode cL_law 1285 = .ok (.iconst 2, 1) := dc_5 (gB_c lq_cL_law q40_cL_law 5 (o := 5) rfl)
theorem dL_law_1286 : decode cL_law 1286 = .ok (.iadd, 1) := dc_96 (gB_c lq_cL_law q40_cL_law 6 (o := 96) rfl)
theorem dL_law_1287 : decode cL_law 1287 = .ok (.iaload, 1) := dc_46 (gB_c lq_cL_law q40_cL_law 7 (o := 46) rfl)
theorem dL_law_1288 : decode cL_law 1288 = .ok (.aload_n 0, 1) := dc_42 (gB_c lq_cL_law q40_cL_law 8 (o := 42) rfl)
theorem dL_law_1289 : decode cL_law 1289 = .ok (.iload_n 3, 1) := dc_29 (gB_c lq_cL_law q40_cL_law 9 (o := 29) rfl)
theorem dL_law_1290 : decode cL_law 1290 = .ok (.iconst 3, 1) := dc_6 (gB_c lq_cL_law q40_cL_law 10 (o := 6) rfl)
theorem dL_law_1291 : decode cL_law 1291 = .ok (.iadd, 1) := dc_96 (gB_c lq_cL_law q40_cL_law 11 (o := 96) rfl)
theorem dL_law_1292 : decode cL_law 1292 = .ok (.iaload, 1) := dc_46 (gB_c lq_cL_law q40_cL_law 12 (o := 46) rfl)
theorem dL_law_1293 : decode cL_law 1293 = .ok (.invokevirtual 137, 3) := dc_182 (gB_c lq_cL_law q40_cL_law 13 (o := 182) rfl) (gB_c lq_cL_law q40_cL_law 14 (o := 0) rfl) (gB_c lq_cL_law q40_cL_law 15 (o := 137) rfl) rfl
theorem dL_law_1296 : decode cL_law 1296 = .ok (.pop, 1) := dc_87 (gB_c lq_cL_law q40_cL_law 16 (o := 87) rfl)
theorem dL_law_1297 : decode cL_law 1297 = .ok (.goto 422, 3) := dc_167 (gB_c lq_cL_law q40_cL_law 17 (o := 167) rfl) (gB_c lq_cL_law q40_cL_law 18 (o := 1) rfl) (gB_c lq_cL_law q40_cL_law 19 (o := 166) rfl) rfl
theorem dL_law_1300 : decode cL_law 1300 = .ok (.aload_n 1, 1) := dc_43 (gB_c lq_cL_law q40_cL_law 20 (o := 43) rfl)
theorem dL_law_1301 : decode cL_law 1301 = .ok (.aload_n 0, 1) := dc_42 (gB_c lq_cL_law q40_cL_law 21 (o := 42) rfl)
theorem dL_law_1302 : decode cL_law 1302 = .ok (.iload_n 3, 1) := dc_29 (gB_c lq_cL_law q40_cL_law 22 (o := 29) rfl)
theorem dL_law_1303 : decode cL_law 1303 = .ok (.iconst 1, 1) := dc_4 (gB_c lq_cL_law q40_cL_law 23 (o := 4) rfl)
theorem dL_law_1304 : decode cL_law 1304 = .ok (.iadd, 1) := dc_96 (gB_c lq_cL_law q40_cL_law 24 (o := 96) rfl)
theorem dL_law_1305 : decode cL_law 1305 = .ok (.iaload, 1) := dc_46 (gB_c lq_cL_law q40_cL_law 25 (o := 46) rfl)
theorem dL_law_1306 : decode cL_law 1306 = .ok (.invokevirtual 138, 3) := dc_182 (gB_c lq_cL_law q40_cL_law 26 (o := 182) rfl) (gB_c lq_cL_law q40_cL_law 27 (o := 0) rfl) (gB_c lq_cL_law q40_cL_law 28 (o := 138) rfl) rfl
theorem dL_law_1309 : decode cL_law 1309 = .ok (.pop, 1) := dc_87 (gB_c lq_cL_law q40_cL_law 29 (o := 87) rfl)
theorem dL_law_1310 : decode cL_law 1310 = .ok (.aload_n 2, 1) := dc_44 (gB_c lq_cL_law q40_cL_law 30 (o := 44) rfl)
theorem dL_law_1311 : decode cL_law 1311 = .ok (.aload_n 0, 1) := dc_42 (gB_c lq_cL_law q40_cL_law 31 (o := 42) rfl)
theorem dL_law_1312 : decode cL_law 1312 = .ok (.iload_n 3, 1) := dc_29 (gB_c lq_cL_law q41_cL_law 0 (o := 29) rfl)
theorem dL_law_1313 : decode cL_law 1313 = .ok (.iconst 1, 1) := dc_4 (gB_c lq_cL_law q41_cL_law 1 (o := 4) rfl)
theorem dL_law_1314 : decode cL_law 1314 = .ok (.iadd, 1) := dc_96 (gB_c lq_cL_law q41_cL_law 2 (o := 96) rfl)
theorem dL_law_1315 : decode cL_law 1315 = .ok (.iaload, 1) := dc_46 (gB_c lq_cL_law q41_cL_law 3 (o := 46) rfl)
theorem dL_law_1316 : decode cL_law 1316 = .ok (.invokevirtual 141, 3) := dc_182 (gB_c lq_cL_law q41_cL_law 4 (o := 182) rfl) (gB_c lq_cL_law q41_cL_law 5 (o := 0) rfl) (gB_c lq_cL_law q41_cL_law 6 (o := 141) rfl) rfl
theorem dL_law_1319 : decode cL_law 1319 = .ok (.pop, 1) := dc_87 (gB_c lq_cL_law q41_cL_law 7 (o := 87) rfl)
theorem dL_law_1320 : decode cL_law 1320 = .ok (.goto 399, 3) := dc_167 (gB_c lq_cL_law q41_cL_law 8 (o := 167) rfl) (gB_c lq_cL_law q41_cL_law 9 (o := 1) rfl) (gB_c lq_cL_law q41_cL_law 10 (o := 143) rfl) rfl
theorem dL_law_1323 : decode cL_law 1323 = .ok (.aload_n 1, 1) := dc_43 (gB_c lq_cL_law q41_cL_law 11 (o := 43) rfl)
theorem dL_law_1324 : decode cL_law 1324 = .ok (.aload_n 0, 1) := dc_42 (gB_c lq_cL_law q41_cL_law 12 (o := 42) rfl)
theorem dL_law_1325 : decode cL_law 1325 = .ok (.iload_n 3, 1) := dc_29 (gB_c lq_cL_law q41_cL_law 13 (o := 29) rfl)
theorem dL_law_1326 : decode cL_law 1326 = .ok (.iconst 1, 1) := dc_4 (gB_c lq_cL_law q41_cL_law 14 (o := 4) rfl)
theorem dL_law_1327 : decode cL_law 1327 = .ok (.iadd, 1) := dc_96 (gB_c lq_cL_law q41_cL_law 15 (o := 96) rfl)
theorem dL_law_1328 : decode cL_law 1328 = .ok (.iaload, 1) := dc_46 (gB_c lq_cL_law q41_cL_law 16 (o := 46) rfl)
theorem dL_law_1329 : decode cL_law 1329 = .ok (.aload_n 0, 1) := dc_42 (gB_c lq_cL_law q41_cL_law 17 (o := 42) rfl)
theorem dL_law_1330 : decode cL_law 1330 = .ok (.iload_n 3, 1) := dc_29 (gB_c lq_cL_law q41_cL_law 18 (o := 29) rfl)
theorem dL_law_1331 : decode cL_law 1331 = .ok (.iconst 2, 1) := dc_5 (gB_c lq_cL_law q41_cL_law 19 (o := 5) rfl)
theorem dL_law_1332 : decode cL_law 1332 = .ok (.iadd, 1) := dc_96 (gB_c lq_cL_law q41_cL_law 20 (o := 96) rfl)
theorem dL_law_1333 : decode cL_law 1333 = .ok (.iaload, 1) := dc_46 (gB_c lq_cL_law q41_cL_law 21 (o := 46) rfl)
theorem dL_law_1334 : decode cL_law 1334 = .ok (.invokevirtual 142, 3) := dc_182 (gB_c lq_cL_law q41_cL_law 22 (o := 182) rfl) (gB_c lq_cL_law q41_cL_law 23 (o := 0) rfl) (gB_c lq_cL_law q41_cL_law 24 (o := 142) rfl) rfl
theorem dL_law_1337 : decode cL_law 1337 = .ok (.pop, 1) := dc_87 (gB_c lq_cL_law q41_cL_law 25 (o := 87) rfl)
theorem dL_law_1338 : decode cL_law 1338 = .ok (.aload_n 2, 1) := dc_44 (gB_c lq_cL_law q41_cL_law 26 (o := 44) rfl)
theorem dL_law_1339 : decode cL_law 1339 = .ok (.aload_n 0, 1) := dc_42 (gB_c lq_cL_law q41_cL_law 27 (o := 42) rfl)
theorem dL_law_1340 : decode cL_law 1340 = .ok (.iload_n 3, 1) := dc_29 (gB_c lq_cL_law q41_cL_law 28 (o := 29) rfl)
theorem dL_law_1341 : decode cL_law 1341 = .ok (.iconst 1, 1) := dc_4 (gB_c lq_cL_law q41_cL_law 29 (o := 4) rfl)
theorem dL_law_1342 : decode cL_law 1342 = .ok (.iadd, 1) := dc_96 (gB_c lq_cL_law q41_cL_law 30 (o := 96) rfl)
theorem dL_law_1343 : decode cL_law 1343 = .ok (.iaload, 1) := dc_46 (gB_c lq_cL_law q41_cL_law 31 (o := 46) rfl)
theorem dL_law_1344 : decode cL_law 1344 = .ok (.aload_n 0, 1) := dc_42 (gB_c lq_cL_law q42_cL_law 0 (o := 42) rfl)
theorem dL_law_1345 : decode cL_law 1345 = .ok (.iload_n 3, 1) := dc_29 (gB_c lq_cL_law q42_cL_law 1 (o := 29) rfl)
theorem dL_law_1346 : decode cL_law 1346 = .ok (.iconst 2, 1) := dc_5 (gB_c lq_cL_law q42_cL_law 2 (o := 5) rfl)
theorem dL_law_1347 : decode cL_law 1347 = .ok (.iadd, 1) := dc_96 (gB_c lq_cL_law q42_cL_law 3 (o := 96) rfl)
theorem dL_law_1348 : decode cL_law 1348 = .ok (.iaload, 1) := dc_46 (gB_c lq_cL_law q42_cL_law 4 (o := 46) rfl)
theorem dL_law_1349 : decode cL_law 1349 = .ok (.invokevirtual 145, 3) := dc_182 (gB_c lq_cL_law q42_cL_law 5 (o := 182) rfl) (gB_c lq_cL_law q42_cL_law 6 (o := 0) rfl) (gB_c lq_cL_law q42_cL_law 7 (o := 145) rfl) rfl
theorem dL_law_1352 : decode cL_law 1352 = .ok (.pop, 1) := dc_87 (gB_c lq_cL_law q42_cL_law 8 (o := 87) rfl)
theorem dL_law_1353 : decode cL_law 1353 = .ok (.goto 366, 3) := dc_167 (gB_c lq_cL_law q42_cL_law 9 (o := 167) rfl) (gB_c lq_cL_law q42_cL_law 10 (o := 1) rfl) (gB_c lq_cL_law q42_cL_law 11 (o := 110) rfl) rfl
theorem dL_law_1356 : decode cL_law 1356 = .ok (.aload_n 1, 1) := dc_43 (gB_c lq_cL_law q42_cL_law 12 (o := 43) rfl)
theorem dL_law_1357 : decode cL_law 1357 = .ok (.aload_n 0, 1) := dc_42 (gB_c lq_cL_law q42_cL_law 13 (o := 42) rfl)
theorem dL_law_1358 : decode cL_law 1358 = .ok (.iload_n 3, 1) := dc_29 (gB_c lq_cL_law q42_cL_law 14 (o := 29) rfl)
theorem dL_law_1359 : decode cL_law 1359 = .ok (.iconst 1, 1) := dc_4 (gB_c lq_cL_law q42_cL_law 15 (o := 4) rfl)
theorem dL_law_1360 : decode cL_law 1360 = .ok (.iadd, 1) := dc_96 (gB_c lq_cL_law q42_cL_law 16 (o := 96) rfl)
theorem dL_law_1361 : decode cL_law 1361 = .ok (.iaload, 1) := dc_46 (gB_c lq_cL_law q42_cL_law 17 (o := 46) rfl)
theorem dL_law_1362 : decode cL_law 1362 = .ok (.aload_n 0, 1) := dc_42 (gB_c lq_cL_law q42_cL_law 18 (o := 42) rfl)
theorem dL_law_1363 : decode cL_law 1363 = .ok (.iload_n 3, 1) := dc_29 (gB_c lq_cL_law q42_cL_law 19 (o := 29) rfl)
theorem dL_law_1364 : decode cL_law 1364 = .ok (.iconst 2, 1) := dc_5 (gB_c lq_cL_law q42_cL_law 20 (o := 5) rfl)
theorem dL_law_1365 : decode cL_law 1365 = .ok (.iadd, 1) := dc_96 (gB_c lq_cL_law q42_cL_law 21 (o := 96) rfl)
theorem dL_law_1366 : decode cL_law 1366 = .ok (.iaload, 1) := dc_46 (gB_c lq_cL_law q42_cL_law 22 (o := 46) rfl)
theorem dL_law_1367 : decode cL_law 1367 = .ok (.invokevirtual 146, 3) := dc_182 (gB_c lq_cL_law q42_cL_law 23 (o := 182) rfl) (gB_c lq_cL_law q42_cL_law 24 (o := 0) rfl) (gB_c lq_cL_law q42_cL_law 25 (o := 146) rfl) rfl
theorem dL_law_1370 : decode cL_law 1370 = .ok (.pop, 1) := dc_87 (gB_c lq_cL_law q42_cL_law 26 (o := 87) rfl)
theorem dL_law_1371 : decode cL_law 1371 = .ok (.aload_n 2, 1) := dc_44 (gB_c lq_cL_law q42_cL_law 27 (o := 44) rfl)
theorem dL_law_1372 : decode cL_law 1372 = .ok (.aload_n 0, 1) := dc_42 (gB_c lq_cL_law q42_cL_law 28 (o := 42) rfl)
theorem dL_law_1373 : decode cL_law 1373 = .ok (.iload_n 3, 1) := dc_29 (gB_c lq_cL_law q42_cL_law 29 (o := 29) rfl)
theorem dL_law_1374 : decode cL_law 1374 = .ok (.iconst 1, 1) := dc_4 (gB_c lq_cL_law q42_cL_law 30 (o := 4) rfl)
theorem dL_law_1375 : decode cL_law 1375 = .ok (.iadd, 1) := dc_96 (gB_c lq_cL_law q42_cL_law 31 (o := 96) rfl)
theorem dL_law_1376 : decode cL_law 1376 = .ok (.iaload, 1) := dc_46 (gB_c lq_cL_law q43_cL_law 0 (o := 46) rfl)
theorem dL_law_1377 : decode cL_law 1377 = .ok (.aload_n 0, 1) := dc_42 (gB_c lq_cL_law q43_cL_law 1 (o := 42) rfl)
theorem dL_law_1378 : decode cL_law 1378 = .ok (.iload_n 3, 1) := dc_29 (gB_c lq_cL_law q43_cL_law 2 (o := 29) rfl)
theorem dL_law_1379 : decode cL_law 1379 = .ok (.iconst 2, 1) := dc_5 (gB_c lq_cL_law q43_cL_law 3 (o := 5) rfl)
theorem dL_law_1380 : decode cL_law 1380 = .ok (.iadd, 1) := dc_96 (gB_c lq_cL_law q43_cL_law 4 (o := 96) rfl)
theorem dL_law_1381 : decode cL_law 1381 = .ok (.iaload, 1) := dc_46 (gB_c lq_cL_law q43_cL_law 5 (o := 46) rfl)
theorem dL_law_1382 : decode cL_law 1382 = .ok (.invokevirtual 149, 3) := dc_182 (gB_c lq_cL_law q43_cL_law 6 (o := 182) rfl) (gB_c lq_cL_law q43_cL_law 7 (o := 0) rfl) (gB_c lq_cL_law q43_cL_law 8 (o := 149) rfl) rfl
theorem dL_law_1385 : decode cL_law 1385 = .ok (.pop, 1) := dc_87 (gB_c lq_cL_law q43_cL_law 9 (o := 87) rfl)
theorem dL_law_1386 : decode cL_law 1386 = .ok (.goto 333, 3) := dc_167 (gB_c lq_cL_law q43_cL_law 10 (o := 167) rfl) (gB_c lq_cL_law q43_cL_law 11 (o := 1) rfl) (gB_c lq_cL_law q43_cL_law 12 (o := 77) rfl) rfl
theorem dL_law_1389 : decode cL_law 1389 = .ok (.aload_n 1, 1) := dc_43 (gB_c lq_cL_law q43_cL_law 13 (o := 43) rfl)
theorem dL_law_1390 : decode cL_law 1390 = .ok (.aload_n 0, 1) := dc_42 (gB_c lq_cL_law q43_cL_law 14 (o := 42) rfl)
theorem dL_law_1391 : decode cL_law 1391 = .ok (.iload_n 3, 1) := dc_29 (gB_c lq_cL_law q43_cL_law 15 (o := 29) rfl)
theorem dL_law_1392 : decode cL_law 1392 = .ok (.iconst 1, 1) := dc_4 (gB_c lq_cL_law q43_cL_law 16 (o := 4) rfl)
theorem dL_law_1393 : decode cL_law 1393 = .ok (.iadd, 1) := dc_96 (gB_c lq_cL_law q43_cL_law 17 (o := 96) rfl)
theorem dL_law_1394 : decode cL_law 1394 = .ok (.iaload, 1) := dc_46 (gB_c lq_cL_law q43_cL_law 18 (o := 46) rfl)
theorem dL_law_1395 : decode cL_law 1395 = .ok (.aload_n 0, 1) := dc_42 (gB_c lq_cL_law q43_cL_law 19 (o := 42) rfl)
theorem dL_law_1396 : decode cL_law 1396 = .ok (.iload_n 3, 1) := dc_29 (gB_c lq_cL_law q43_cL_law 20 (o := 29) rfl)
theorem dL_law_1397 : decode cL_law 1397 = .ok (.iconst 2, 1) := dc_5 (gB_c lq_cL_law q43_cL_law 21 (o := 5) rfl)
theorem dL_law_1398 : decode cL_law 1398 = .ok (.iadd, 1) := dc_96 (gB_c lq_cL_law q43_cL_law 22 (o := 96) rfl)
theorem dL_law_1399 : decode cL_law 1399 = .ok (.iaload, 1) := dc_46 (gB_c lq_cL_law q43_cL_law 23 (o := 46) rfl)
theorem dL_law_1400 : decode cL_law 1400 = .ok (.invokevirtual 150, 3) := dc_182 (gB_c lq_cL_law q43_cL_law 24 (o := 182) rfl) (gB_c lq_cL_law q43_cL_law 25 (o := 0) rfl) (gB_c lq_cL_law q43_cL_law 26 (o := 150) rfl) rfl
theorem dL_law_1403 : decode cL_law 1403 = .ok (.aload_n 2, 1) := dc_44 (gB_c lq_cL_law q43_cL_law 27 (o := 44) rfl)
theorem dL_law_1404 : decode cL_law 1404 = .ok (.aload_n 0, 1) := dc_42 (gB_c lq_cL_law q43_cL_law 28 (o := 42) rfl)
theorem dL_law_1405 : decode cL_law 1405 = .ok (.iload_n 3, 1) := dc_29 (gB_c lq_cL_law q43_cL_law 29 (o := 29) rfl)
theorem dL_law_1406 : decode cL_law 1406 = .ok (.iconst 1, 1) := dc_4 (gB_c lq_cL_law q43_cL_law 30 (o := 4) rfl)
theorem dL_law_1407 : decode cL_law 1407 = .ok (.iadd, 1) := dc_96 (gB_c lq_cL_law q43_cL_law 31 (o := 96) rfl)
theorem dL_law_1408 : decode cL_law 1408 = .ok (.iaload, 1) := dc_46 (gB_c lq_cL_law q44_cL_law 0 (o := 46) rfl)
theorem dL_law_1409 : decode cL_law 1409 = .ok (.aload_n 0, 1) := dc_42 (gB_c lq_cL_law q44_cL_law 1 (o := 42) rfl)
theorem dL_law_1410 : decode cL_law 1410 = .ok (.iload_n 3, 1) := dc_29 (gB_c lq_cL_law q44_cL_law 2 (o := 29) rfl)
theorem dL_law_1411 : decode cL_law 1411 = .ok (.iconst 2, 1) := dc_5 (gB_c lq_cL_law q44_cL_law 3 (o := 5) rfl)
theorem dL_law_1412 : decode cL_law 1412 = .ok (.iadd, 1) := dc_96 (gB_c lq_cL_law q44_cL_law 4 (o := 96) rfl)
theorem dL_law_1413 : decode cL_law 1413 = .ok (.iaload, 1) := dc_46 (gB_c lq_cL_law q44_cL_law 5 (o := 46) rfl)
theorem dL_law_1414 : decode cL_law 1414 = .ok (.invokevirtual 153, 3) := dc_182 (gB_c lq_cL_law q44_cL_law 6 (o := 182) rfl) (gB_c lq_cL_law q44_cL_law 7 (o := 0) rfl) (gB_c lq_cL_law q44_cL_law 8 (o := 153) rfl) rfl
theorem dL_law_1417 : decode cL_law 1417 = .ok (.if_icmp .eq 302, 3) := dc_159 (gB_c lq_cL_law q44_cL_law 9 (o := 159) rfl) (gB_c lq_cL_law q44_cL_law 10 (o := 1) rfl) (gB_c lq_cL_law q44_cL_law 11 (o := 46) rfl) rfl
theorem dL_law_1420 : decode cL_law 1420 = .ok (.iconst 0, 1) := dc_3 (gB_c lq_cL_law q44_cL_law 12 (o := 3) rfl)
theorem dL_law_1421 : decode cL_law 1421 = .ok (.ireturn, 1) := dc_172 (gB_c lq_cL_law q44_cL_law 13 (o := 172) rfl)
theorem dL_law_1422 : decode cL_law 1422 = .ok (.aload_n 1, 1) := dc_43 (gB_c lq_cL_law q44_cL_law 14 (o := 43) rfl)
theorem dL_law_1423 : decode cL_law 1423 = .ok (.aload_n 0, 1) := dc_42 (gB_c lq_cL_law q44_cL_law 15 (o := 42) rfl)
theorem dL_law_1424 : decode cL_law 1424 = .ok (.iload_n 3, 1) := dc_29 (gB_c lq_cL_law q44_cL_law 16 (o := 29) rfl)
theorem dL_law_1425 : decode cL_law 1425 = .ok (.iconst 1, 1) := dc_4 (gB_c lq_cL_law q44_cL_law 17 (o := 4) rfl)
theorem dL_law_1426 : decode cL_law 1426 = .ok (.iadd, 1) := dc_96 (gB_c lq_cL_law q44_cL_law 18 (o := 96) rfl)
theorem dL_law_1427 : decode cL_law 1427 = .ok (.iaload, 1) := dc_46 (gB_c lq_cL_law q44_cL_law 19 (o := 46) rfl)
theorem dL_law_1428 : decode cL_law 1428 = .ok (.aload_n 0, 1) := dc_42 (gB_c lq_cL_law q44_cL_law 20 (o := 42) rfl)
theorem dL_law_1429 : decode cL_law 1429 = .ok (.iload_n 3, 1) := dc_29 (gB_c lq_cL_law q44_cL_law 21 (o := 29) rfl)
theorem dL_law_1430 : decode cL_law 1430 = .ok (.iconst 2, 1) := dc_5 (gB_c lq_cL_law q44_cL_law 22 (o := 5) rfl)
theorem dL_law_1431 : decode cL_law 1431 = .ok (.iadd, 1) := dc_96 (gB_c lq_cL_law q44_cL_law 23 (o := 96) rfl)
theorem dL_law_1432 : decode cL_law 1432 = .ok (.iaload, 1) := dc_46 (gB_c lq_cL_law q44_cL_law 24 (o := 46) rfl)
theorem dL_law_1433 : decode cL_law 1433 = .ok (.invokevirtual 154, 3) := dc_182 (gB_c lq_cL_law q44_cL_law 25 (o := 182) rfl) (gB_c lq_cL_law q44_cL_law 26 (o := 0) rfl) (gB_c lq_cL_law q44_cL_law 27 (o := 154) rfl) rfl
theorem dL_law_1436 : decode cL_law 1436 = .ok (.pop, 1) := dc_87 (gB_c lq_cL_law q44_cL_law 28 (o := 87) rfl)
theorem dL_law_1437 : decode cL_law 1437 = .ok (.aload_n 2, 1) := dc_44 (gB_c lq_cL_law q44_cL_law 29 (o := 44) rfl)
theorem dL_law_1438 : decode cL_law 1438 = .ok (.aload_n 0, 1) := dc_42 (gB_c lq_cL_law q44_cL_law 30 (o := 42) rfl)
theorem dL_law_1439 : decode cL_law 1439 = .ok (.iload_n 3, 1) := dc_29 (gB_c lq_cL_law q44_cL_law 31 (o := 29) rfl)
theorem dL_law_1440 : decode cL_law 1440 = .ok (.iconst 1, 1) := dc_4 (gB_c lq_cL_law q45_cL_law 0 (o := 4) rfl)
theorem dL_law_1441 : decode cL_law 1441 = .ok (.iadd, 1) := dc_96 (gB_c lq_cL_law q45_cL_law 1 (o := 96) rfl)
theorem dL_law_1442 : decode cL_law 1442 = .ok (.iaload, 1) := dc_46 (gB_c lq_cL_law q45_cL_law 2 (o := 46) rfl)
theorem dL_law_1443 : decode cL_law 1443 = .ok (.aload_n 0, 1) := dc_42 (gB_c lq_cL_law q45_cL_law 3 (o := 42) rfl)
theorem dL_law_1444 : decode cL_law 1444 = .ok (.iload_n 3, 1) := dc_29 (gB_c lq_cL_law q45_cL_law 4 (o := 29) rfl)
theorem dL_law_1445 : decode cL_law 1445 = .ok (.iconst 2, 1) := dc_5 (gB_c lq_cL_law q45_cL_law 5 (o := 5) rfl)
theorem dL_law_1446 : decode cL_law 1446 = .ok (.iadd, 1) := dc_96 (gB_c lq_cL_law q45_cL_law 6 (o := 96) rfl)
theorem dL_law_1447 : decode cL_law 1447 = .ok (.iaload, 1) := dc_46 (gB_c lq_cL_law q45_cL_law 7 (o := 46) rfl)
theorem dL_law_1448 : decode cL_law 1448 = .ok (.invokevirtual 157, 3) := dc_182 (gB_c lq_cL_law q45_cL_law 8 (o := 182) rfl) (gB_c lq_cL_law q45_cL_law 9 (o := 0) rfl) (gB_c lq_cL_law q45_cL_law 10 (o := 157) rfl) rfl
theorem dL_law_1451 : decode cL_law 1451 = .ok (.pop, 1) := dc_87 (gB_c lq_cL_law q45_cL_law 11 (o := 87) rfl)
theorem dL_law_1452 : decode cL_law 1452 = .ok (.goto 267, 3) := dc_167 (gB_c lq_cL_law q45_cL_law 12 (o := 167) rfl) (gB_c lq_cL_law q45_cL_law 13 (o := 1) rfl) (gB_c lq_cL_law q45_cL_law 14 (o := 11) rfl) rfl
theorem dL_law_1455 : decode cL_law 1455 = .ok (.aload_n 1, 1) := dc_43 (gB_c lq_cL_law q45_cL_law 15 (o := 43) rfl)
theorem dL_law_1456 : decode cL_law 1456 = .ok (.aload_n 0, 1) := dc_42 (gB_c lq_cL_law q45_cL_law 16 (o := 42) rfl)
theorem dL_law_1457 : decode cL_law 1457 = .ok (.iload_n 3, 1) := dc_29 (gB_c lq_cL_law q45_cL_law 17 (o := 29) rfl)
theorem dL_law_1458 : decode cL_law 1458 = .ok (.iconst 1, 1) := dc_4 (gB_c lq_cL_law q45_cL_law 18 (o := 4) rfl)
theorem dL_law_1459 : decode cL_law 1459 = .ok (.iadd, 1) := dc_96 (gB_c lq_cL_law q45_cL_law 19 (o := 96) rfl)
theorem dL_law_1460 : decode cL_law 1460 = .ok (.iaload, 1) := dc_46 (gB_c lq_cL_law q45_cL_law 20 (o := 46) rfl)
theorem dL_law_1461 : decode cL_law 1461 = .ok (.aload_n 0, 1) := dc_42 (gB_c lq_cL_law q45_cL_law 21 (o := 42) rfl)
theorem dL_law_1462 : decode cL_law 1462 = .ok (.iload_n 3, 1) := dc_29 (gB_c lq_cL_law q45_cL_law 22 (o := 29) rfl)
theorem dL_law_1463 : decode cL_law 1463 = .ok (.iconst 2, 1) := dc_5 (gB_c lq_cL_law q45_cL_law 23 (o := 5) rfl)
theorem dL_law_1464 : decode cL_law 1464 = .ok (.iadd, 1) := dc_96 (gB_c lq_cL_law q45_cL_law 24 (o := 96) rfl)
theorem dL_law_1465 : decode cL_law 1465 = .ok (.iaload, 1) := dc_46 (gB_c lq_cL_law q45_cL_law 25 (o := 46) rfl)
theorem dL_law_1466 : decode cL_law 1466 = .ok (.invokevirtual 158, 3) := dc_182 (gB_c lq_cL_law q45_cL_law 26 (o := 182) rfl) (gB_c lq_cL_law q45_cL_law 27 (o := 0) rfl) (gB_c lq_cL_law q45_cL_law 28 (o := 158) rfl) rfl
theorem dL_law_1469 : decode cL_law 1469 = .ok (.pop, 1) := dc_87 (gB_c lq_cL_law q45_cL_law 29 (o := 87) rfl)
theorem dL_law_1470 : decode cL_law 1470 = .ok (.aload_n 2, 1) := dc_44 (gB_c lq_cL_law q45_cL_law 30 (o := 44) rfl)
theorem dL_law_1471 : decode cL_law 1471 = .ok (.aload_n 0, 1) := dc_42 (gB_c lq_cL_law q45_cL_law 31 (o := 42) rfl)
theorem dL_law_1472 : decode cL_law 1472 = .ok (.iload_n 3, 1) := dc_29 (gB_c lq_cL_law q46_cL_law 0 (o := 29) rfl)
theorem dL_law_1473 : decode cL_law 1473 = .ok (.iconst 1, 1) := dc_4 (gB_c lq_cL_law q46_cL_law 1 (o := 4) rfl)
theorem dL_law_1474 : decode cL_law 1474 = .ok (.iadd, 1) := dc_96 (gB_c lq_cL_law q46_cL_law 2 (o := 96) rfl)
theorem dL_law_1475 : decode cL_law 1475 = .ok (.iaload, 1) := dc_46 (gB_c lq_cL_law q46_cL_law 3 (o := 46) rfl)
theorem dL_law_1476 : decode cL_law 1476 = .ok (.aload_n 0, 1) := dc_42 (gB_c lq_cL_law q46_cL_law 4 (o := 42) rfl)
theorem dL_law_1477 : decode cL_law 1477 = .ok (.iload_n 3, 1) := dc_29 (gB_c lq_cL_law q46_cL_law 5 (o := 29) rfl)
theorem dL_law_1478 : decode cL_law 1478 = .ok (.iconst 2, 1) := dc_5 (gB_c lq_cL_law q46_cL_law 6 (o := 5) rfl)
theorem dL_law_1479 : decode cL_law 1479 = .ok (.iadd, 1) := dc_96 (gB_c lq_cL_law q46_cL_law 7 (o := 96) rfl)
theorem dL_law_1480 : decode cL_law 1480 = .ok (.iaload, 1) := dc_46 (gB_c lq_cL_law q46_cL_law 8 (o := 46) rfl)
theorem dL_law_1481 : decode cL_law 1481 = .ok (.invokevirtual 161, 3) := dc_182 (gB_c lq_cL_law q46_cL_law 9 (o := 182) rfl) (gB_c lq_cL_law q46_cL_law 10 (o := 0) rfl) (gB_c lq_cL_law q46_cL_law 11 (o := 161) rfl) rfl
theorem dL_law_1484 : decode cL_law 1484 = .ok (.pop, 1) := dc_87 (gB_c lq_cL_law q46_cL_law 12 (o := 87) rfl)
theorem dL_law_1485 : decode cL_law 1485 = .ok (.goto 234, 3) := dc_167 (gB_c lq_cL_law q46_cL_law 13 (o := 167) rfl) (gB_c lq_cL_law q46_cL_law 14 (o := 0) rfl) (gB_c lq_cL_law q46_cL_law 15 (o := 234) rfl) rfl
theorem dL_law_1488 : decode cL_law 1488 = .ok (.aload_n 1, 1) := dc_43 (gB_c lq_cL_law q46_cL_law 16 (o := 43) rfl)
theorem dL_law_1489 : decode cL_law 1489 = .ok (.aload_n 0, 1) := dc_42 (gB_c lq_cL_law q46_cL_law 17 (o := 42) rfl)
theorem dL_law_1490 : decode cL_law 1490 = .ok (.iload_n 3, 1) := dc_29 (gB_c lq_cL_law q46_cL_law 18 (o := 29) rfl)
theorem dL_law_1491 : decode cL_law 1491 = .ok (.iconst 1, 1) := dc_4 (gB_c lq_cL_law q46_cL_law 19 (o := 4) rfl)
theorem dL_law_1492 : decode cL_law 1492 = .ok (.iadd, 1) := dc_96 (gB_c lq_cL_law q46_cL_law 20 (o := 96) rfl)
theorem dL_law_1493 : decode cL_law 1493 = .ok (.iaload, 1) := dc_46 (gB_c lq_cL_law q46_cL_law 21 (o := 46) rfl)
theorem dL_law_1494 : decode cL_law 1494 = .ok (.aload_n 0, 1) := dc_42 (gB_c lq_cL_law q46_cL_law 22 (o := 42) rfl)
theorem dL_law_1495 : decode cL_law 1495 = .ok (.iload_n 3, 1) := dc_29 (gB_c lq_cL_law q46_cL_law 23 (o := 29) rfl)
theorem dL_law_1496 : decode cL_law 1496 = .ok (.iconst 2, 1) := dc_5 (gB_c lq_cL_law q46_cL_law 24 (o := 5) rfl)
theorem dL_law_1497 : decode cL_law 1497 = .ok (.iadd, 1) := dc_96 (gB_c lq_cL_law q46_cL_law 25 (o := 96) rfl)
theorem dL_law_1498 : decode cL_law 1498 = .ok (.iaload, 1) := dc_46 (gB_c lq_cL_law q46_cL_law 26 (o := 46) rfl)
theorem dL_law_1499 : decode cL_law 1499 = .ok (.aload_n 0, 1) := dc_42 (gB_c lq_cL_law q46_cL_law 27 (o := 42) rfl)
theorem dL_law_1500 : decode cL_law 1500 = .ok (.iload_n 3, 1) := dc_29 (gB_c lq_cL_law q46_cL_law 28 (o := 29) rfl)
theorem dL_law_1501 : decode cL_law 1501 = .ok (.iconst 3, 1) := dc_6 (gB_c lq_cL_law q46_cL_law 29 (o := 6) rfl)
theorem dL_law_1502 : decode cL_law 1502 = .ok (.iadd, 1) := dc_96 (gB_c lq_cL_law q46_cL_law 30 (o := 96) rfl)
theorem dL_law_1503 : decode cL_law 1503 = .ok (.iaload, 1) := dc_46 (gB_c lq_cL_law q46_cL_law 31 (o := 46) rfl)
theorem dL_law_1504 : decode cL_law 1504 = .ok (.aload_n 0, 1) := dc_42 (gB_c lq_cL_law q47_cL_law 0 (o := 42) rfl)
theorem dL_law_1505 : decode cL_law 1505 = .ok (.iload_n 3, 1) := dc_29 (gB_c lq_cL_law q47_cL_law 1 (o := 29) rfl)
theorem dL_law_1506 : decode cL_law 1506 = .ok (.iconst 4, 1) := dc_7 (gB_c lq_cL_law q47_cL_law 2 (o := 7) rfl)
theorem dL_law_1507 : decode cL_law 1507 = .ok (.iadd, 1) := dc_96 (gB_c lq_cL_law q47_cL_law 3 (o := 96) rfl)
theorem dL_law_1508 : decode cL_law 1508 = .ok (.iaload, 1) := dc_46 (gB_c lq_cL_law q47_cL_law 4 (o := 46) rfl)
theorem dL_law_1509 : decode cL_law 1509 = .ok (.invokevirtual 162, 3) := dc_182 (gB_c lq_cL_law q47_cL_law 5 (o := 182) rfl) (gB_c lq_cL_law q47_cL_law 6 (o := 0) rfl) (gB_c lq_cL_law q47_cL_law 7 (o := 162) rfl) rfl
theorem dL_law_1512 : decode cL_law 1512 = .ok (.pop, 1) := dc_87 (gB_c lq_cL_law q47_cL_law 8 (o := 87) rfl)
theorem dL_law_1513 : decode cL_law 1513 = .ok (.aload_n 2, 1) := dc_44 (gB_c lq_cL_law q47_cL_law 9 (o := 44) rfl)
theorem dL_law_1514 : decode cL_law 1514 = .ok (.aload_n 0, 1) := dc_42 (gB_c lq_cL_law q47_cL_law 10 (o := 42) rfl)
theorem dL_law_1515 : decode cL_law 1515 = .ok (.iload_n 3, 1) := dc_29 (gB_c lq_cL_law q47_cL_law 11 (o := 29) rfl)
theorem dL_law_1516 : decode cL_law 1516 = .ok (.iconst 1, 1) := dc_4 (gB_c lq_cL_law q47_cL_law 12 (o := 4) rfl)
theorem dL_law_1517 : decode cL_law 1517 = .ok (.iadd, 1) := dc_96 (gB_c lq_cL_law q47_cL_law 13 (o := 96) rfl)
theorem dL_law_1518 : decode cL_law 1518 = .ok (.iaload, 1) := dc_46 (gB_c lq_cL_law q47_cL_law 14 (o := 46) rfl)
theorem dL_law_1519 : decode cL_law 1519 = .ok (.aload_n 0, 1) := dc_42 (gB_c lq_cL_law q47_cL_law 15 (o := 42) rfl)
theorem dL_law_1520 : decode cL_law 1520 = .ok (.iload_n 3, 1) := dc_29 (gB_c lq_cL_law q47_cL_law 16 (o := 29) rfl)
theorem dL_law_1521 : decode cL_law 1521 = .ok (.iconst 2, 1) := dc_5 (gB_c lq_cL_law q47_cL_law 17 (o := 5) rfl)
theorem dL_law_1522 : decode cL_law 1522 = .ok (.iadd, 1) := dc_96 (gB_c lq_cL_law q47_cL_law 18 (o := 96) rfl)
theorem dL_law_1523 : decode cL_law 1523 = .ok (.iaload, 1) := dc_46 (gB_c lq_cL_law q47_cL_law 19 (o := 46) rfl)
theorem dL_law_1524 : decode cL_law 1524 = .ok (.aload_n 0, 1) := dc_42 (gB_c lq_cL_law q47_cL_law 20 (o := 42) rfl)
theorem dL_law_1525 : decode cL_law 1525 = .ok (.iload_n 3, 1) := dc_29 (gB_c lq_cL_law q47_cL_law 21 (o := 29) rfl)
theorem dL_law_1526 : decode cL_law 1526 = .ok (.iconst 3, 1) := dc_6 (gB_c lq_cL_law q47_cL_law 22 (o := 6) rfl)
theorem dL_law_1527 : decode cL_law 1527 = .ok (.iadd, 1) := dc_96 (gB_c lq_cL_law q47_cL_law 23 (o := 96) rfl)
theorem dL_law_1528 : decode cL_law 1528 = .ok (.iaload, 1) := dc_46 (gB_c lq_cL_law q47_cL_law 24 (o := 46) rfl)
theorem dL_law_1529 : decode cL_law 1529 = .ok (.aload_n 0, 1) := dc_42 (gB_c lq_cL_law q47_cL_law 25 (o := 42) rfl)
theorem dL_law_1530 : decode cL_law 1530 = .ok (.iload_n 3, 1) := dc_29 (gB_c lq_cL_law q47_cL_law 26 (o := 29) rfl)
theorem dL_law_1531 : decode cL_law 1531 = .ok (.iconst 4, 1) := dc_7 (gB_c lq_cL_law q47_cL_law 27 (o := 7) rfl)
theorem dL_law_1532 : decode cL_law 1532 = .ok (.iadd, 1) := dc_96 (gB_c lq_cL_law q47_cL_law 28 (o := 96) rfl)
theorem dL_law_1533 : decode cL_law 1533 = .ok (.iaload, 1) := dc_46 (gB_c lq_cL_law q47_cL_law 29 (o := 46) rfl)
theorem dL_law_1534 : decode cL_law 1534 = .ok (.invokevirtual 165, 3) := dc_182 (gB_c lq_cL_law q47_cL_law 30 (o := 182) rfl) (gB_c lq_cL_law q47_cL_law 31 (o := 0) rfl) (gB_c lq_cL_law q48_cL_law 0 (o := 165) rfl) rfl
theorem dL_law_1537 : decode cL_law 1537 = .ok (.pop, 1) := dc_87 (gB_c lq_cL_law q48_cL_law 1 (o := 87) rfl)
theorem dL_law_1538 : decode cL_law 1538 = .ok (.goto 181, 3) := dc_167 (gB_c lq_cL_law q48_cL_law 2 (o := 167) rfl) (gB_c lq_cL_law q48_cL_law 3 (o := 0) rfl) (gB_c lq_cL_law q48_cL_law 4 (o := 181) rfl) rfl
theorem dL_law_1541 : decode cL_law 1541 = .ok (.aload_n 1, 1) := dc_43 (gB_c lq_cL_law q48_cL_law 5 (o := 43) rfl)
theorem dL_law_1542 : decode cL_law 1542 = .ok (.aload_n 0, 1) := dc_42 (gB_c lq_cL_law q48_cL_law 6 (o := 42) rfl)
theorem dL_law_1543 : decode cL_law 1543 = .ok (.iload_n 3, 1) := dc_29 (gB_c lq_cL_law q48_cL_law 7 (o := 29) rfl)
theorem dL_law_1544 : decode cL_law 1544 = .ok (.iconst 1, 1) := dc_4 (gB_c lq_cL_law q48_cL_law 8 (o := 4) rfl)
theorem dL_law_1545 : decode cL_law 1545 = .ok (.iadd, 1) := dc_96 (gB_c lq_cL_law q48_cL_law 9 (o := 96) rfl)
theorem dL_law_1546 : decode cL_law 1546 = .ok (.iaload, 1) := dc_46 (gB_c lq_cL_law q48_cL_law 10 (o := 46) rfl)
theorem dL_law_1547 : decode cL_law 1547 = .ok (.aload_n 0, 1) := dc_42 (gB_c lq_cL_law q48_cL_law 11 (o := 42) rfl)
theorem dL_law_1548 : decode cL_law 1548 = .ok (.iload_n 3, 1) := dc_29 (gB_c lq_cL_law q48_cL_law 12 (o := 29) rfl)
theorem dL_law_1549 : decode cL_law 1549 = .ok (.iconst 2, 1) := dc_5 (gB_c lq_cL_law q48_cL_law 13 (o := 5) rfl)
theorem dL_law_1550 : decode cL_law 1550 = .ok (.iadd, 1) := dc_96 (gB_c lq_cL_law q48_cL_law 14 (o := 96) rfl)
theorem dL_law_1551 : decode cL_law 1551 = .ok (.iaload, 1) := dc_46 (gB_c lq_cL_law q48_cL_law 15 (o := 46) rfl)
theorem dL_law_1552 : decode cL_law 1552 = .ok (.aload_n 0, 1) := dc_42 (gB_c lq_cL_law q48_cL_law 16 (o := 42) rfl)
theorem dL_law_1553 : decode cL_law 1553 = .ok (.iload_n 3, 1) := dc_29 (gB_c lq_cL_law q48_cL_law 17 (o := 29) rfl)
theorem dL_law_1554 : decode cL_law 1554 = .ok (.iconst 3, 1) := dc_6 (gB_c lq_cL_law q48_cL_law 18 (o := 6) rfl)
theorem dL_law_1555 : decode cL_law 1555 = .ok (.iadd, 1) := dc_96 (gB_c lq_cL_law q48_cL_law 19 (o := 96) rfl)
theorem dL_law_1556 : decode cL_law 1556 = .ok (.iaload, 1) := dc_46 (gB_c lq_cL_law q48_cL_law 20 (o := 46) rfl)
theorem dL_law_1557 : decode cL_law 1557 = .ok (.invokevirtual 166, 3) := dc_182 (gB_c lq_cL_law q48_cL_law 21 (o := 182) rfl) (gB_c lq_cL_law q48_cL_law 22 (o := 0) rfl) (gB_c lq_cL_law q48_cL_law 23 (o := 166) rfl) rfl
theorem dL_law_1560 : decode cL_law 1560 = .ok (.pop, 1) := dc_87 (gB_c lq_cL_law q48_cL_law 24 (o := 87) rfl)
theorem dL_law_1561 : decode cL_law 1561 = .ok (.aload_n 2, 1) := dc_44 (gB_c lq_cL_law q48_cL_law 25 (o := 44) rfl)
theorem dL_law_1562 : decode cL_law 1562 = .ok (.aload_n 0, 1) := dc_42 (gB_c lq_cL_law q48_cL_law 26 (o := 42) rfl)
theorem dL_law_1563 : decode cL_law 1563 = .ok (.iload_n 3, 1) := dc_29 (gB_c lq_cL_law q48_cL_law 27 (o := 29) rfl)
theorem dL_law_1564 : decode cL_law 1564 = .ok (.iconst 1, 1) := dc_4 (gB_c lq_cL_law q48_cL_law 28 (o := 4) rfl)
theorem dL_law_1565 : decode cL_law 1565 = .ok (.iadd, 1) := dc_96 (gB_c lq_cL_law q48_cL_law 29 (o := 96) rfl)
theorem dL_law_1566 : decode cL_law 1566 = .ok (.iaload, 1) := dc_46 (gB_c lq_cL_law q48_cL_law 30 (o := 46) rfl)
theorem dL_law_1567 : decode cL_law 1567 = .ok (.aload_n 0, 1) := dc_42 (gB_c lq_cL_law q48_cL_law 31 (o := 42) rfl)
theorem dL_law_1568 : decode cL_law 1568 = .ok (.iload_n 3, 1) := dc_29 (gB_c lq_cL_law q49_cL_law 0 (o := 29) rfl)
theorem dL_law_1569 : decode cL_law 1569 = .ok (.iconst 2, 1) := dc_5 (gB_c lq_cL_law q49_cL_law 1 (o := 5) rfl)
theorem dL_law_1570 : decode cL_law 1570 = .ok (.iadd, 1) := dc_96 (gB_c lq_cL_law q49_cL_law 2 (o := 96) rfl)
theorem dL_law_1571 : decode cL_law 1571 = .ok (.iaload, 1) := dc_46 (gB_c lq_cL_law q49_cL_law 3 (o := 46) rfl)
theorem dL_law_1572 : decode cL_law 1572 = .ok (.aload_n 0, 1) := dc_42 (gB_c lq_cL_law q49_cL_law 4 (o := 42) rfl)
theorem dL_law_1573 : decode cL_law 1573 = .ok (.iload_n 3, 1) := dc_29 (gB_c lq_cL_law q49_cL_law 5 (o := 29) rfl)
theorem dL_law_1574 : decode cL_law 1574 = .ok (.iconst 3, 1) := dc_6 (gB_c lq_cL_law q49_cL_law 6 (o := 6) rfl)
theorem dL_law_1575 : decode cL_law 1575 = .ok (.iadd, 1) := dc_96 (gB_c lq_cL_law q49_cL_law 7 (o := 96) rfl)
theorem dL_law_1576 : decode cL_law 1576 = .ok (.iaload, 1) := dc_46 (gB_c lq_cL_law q49_cL_law 8 (o := 46) rfl)
theorem dL_law_1577 : decode cL_law 1577 = .ok (.invokevirtual 169, 3) := dc_182 (gB_c lq_cL_law q49_cL_law 9 (o := 182) rfl) (gB_c lq_cL_law q49_cL_law 10 (o := 0) rfl) (gB_c lq_cL_law q49_cL_law 11 (o := 169) rfl) rfl
theorem dL_law_1580 : decode cL_law 1580 = .ok (.pop, 1) := dc_87 (gB_c lq_cL_law q49_cL_law 12 (o := 87) rfl)
theorem dL_law_1581 : decode cL_law 1581 = .ok (.goto 138, 3) := dc_167 (gB_c lq_cL_law q49_cL_law 13 (o := 167) rfl) (gB_c lq_cL_law q49_cL_law 14 (o := 0) rfl) (gB_c lq_cL_law q49_cL_law 15 (o := 138) rfl) rfl
theorem dL_law_1584 : decode cL_law 1584 = .ok (.aload_n 1, 1) := dc_43 (gB_c lq_cL_law q49_cL_law 16 (o := 43) rfl)
theorem dL_law_1585 : decode cL_law 1585 = .ok (.aload_n 0, 1) := dc_42 (gB_c lq_cL_law q49_cL_law 17 (o := 42) rfl)
theorem dL_law_1586 : decode cL_law 1586 = .ok (.iload_n 3, 1) := dc_29 (gB_c lq_cL_law q49_cL_law 18 (o := 29) rfl)
theorem dL_law_1587 : decode cL_law 1587 = .ok (.iconst 1, 1) := dc_4 (gB_c lq_cL_law q49_cL_law 19 (o := 4) rfl)
theorem dL_law_1588 : decode cL_law 1588 = .ok (.iadd, 1) := dc_96 (gB_c lq_cL_law q49_cL_law 20 (o := 96) rfl)
theorem dL_law_1589 : decode cL_law 1589 = .ok (.iaload, 1) := dc_46 (gB_c lq_cL_law q49_cL_law 21 (o := 46) rfl)
theorem dL_law_1590 : decode cL_law 1590 = .ok (.aload_n 0, 1) := dc_42 (gB_c lq_cL_law q49_cL_law 22 (o := 42) rfl)
theorem dL_law_1591 : decode cL_law 1591 = .ok (.iload_n 3, 1) := dc_29 (gB_c lq_cL_law q49_cL_law 23 (o := 29) rfl)
theorem dL_law_1592 : decode cL_law 1592 = .ok (.iconst 2, 1) := dc_5 (gB_c lq_cL_law q49_cL_law 24 (o := 5) rfl)
theorem dL_law_1593 : decode cL_law 1593 = .ok (.iadd, 1) := dc_96 (gB_c lq_cL_law q49_cL_law 25 (o := 96) rfl)
theorem dL_law_1594 : decode cL_law 1594 = .ok (.iaload, 1) := dc_46 (gB_c lq_cL_law q49_cL_law 26 (o := 46) rfl)
theorem dL_law_1595 : decode cL_law 1595 = .ok (.aload_n 0, 1) := dc_42 (gB_c lq_cL_law q49_cL_law 27 (o := 42) rfl)
theorem dL_law_1596 : decode cL_law 1596 = .ok (.iload_n 3, 1) := dc_29 (gB_c lq_cL_law q49_cL_law 28 (o := 29) rfl)
theorem dL_law_1597 : decode cL_law 1597 = .ok (.iconst 3, 1) := dc_6 (gB_c lq_cL_law q49_cL_law 29 (o := 6) rfl)
theorem dL_law_1598 : decode cL_law 1598 = .ok (.iadd, 1) := dc_96 (gB_c lq_cL_law q49_cL_law 30 (o := 96) rfl)
theorem dL_law_1599 : decode cL_law 1599 = .ok (.iaload, 1) := dc_46 (gB_c lq_cL_law q49_cL_law 31 (o := 46) rfl)
theorem dL_law_1600 : decode cL_law 1600 = .ok (.invokevirtual 170, 3) := dc_182 (gB_c lq_cL_law q50_cL_law 0 (o := 182) rfl) (gB_c lq_cL_law q50_cL_law 1 (o := 0) rfl) (gB_c lq_cL_law q50_cL_law 2 (o := 170) rfl) rfl
theorem dL_law_1603 : decode cL_law 1603 = .ok (.pop, 1) := dc_87 (gB_c lq_cL_law q50_cL_law 3 (o := 87) rfl)
theorem dL_law_1604 : decode cL_law 1604 = .ok (.aload_n 2, 1) := dc_44 (gB_c lq_cL_law q50_cL_law 4 (o := 44) rfl)
theorem dL_law_1605 : decode cL_law 1605 = .ok (.aload_n 0, 1) := dc_42 (gB_c lq_cL_law q50_cL_law 5 (o := 42) rfl)
theorem dL_law_1606 : decode cL_law 1606 = .ok (.iload_n 3, 1) := dc_29 (gB_c lq_cL_law q50_cL_law 6 (o := 29) rfl)
theorem dL_law_1607 : decode cL_law 1607 = .ok (.iconst 1, 1) := dc_4 (gB_c lq_cL_law q50_cL_law 7 (o := 4) rfl)
theorem dL_law_1608 : decode cL_law 1608 = .ok (.iadd, 1) := dc_96 (gB_c lq_cL_law q50_cL_law 8 (o := 96) rfl)
theorem dL_law_1609 : decode cL_law 1609 = .ok (.iaload, 1) := dc_46 (gB_c lq_cL_law q50_cL_law 9 (o := 46) rfl)
theorem dL_law_1610 : decode cL_law 1610 = .ok (.aload_n 0, 1) := dc_42 (gB_c lq_cL_law q50_cL_law 10 (o := 42) rfl)
theorem dL_law_1611 : decode cL_law 1611 = .ok (.iload_n 3, 1) := dc_29 (gB_c lq_cL_law q50_cL_law 11 (o := 29) rfl)
theorem dL_law_1612 : decode cL_law 1612 = .ok (.iconst 2, 1) := dc_5 (gB_c lq_cL_law q50_cL_law 12 (o := 5) rfl)
theorem dL_law_1613 : decode cL_law 1613 = .ok (.iadd, 1) := dc_96 (gB_c lq_cL_law q50_cL_law 13 (o := 96) rfl)
theorem dL_law_1614 : decode cL_law 1614 = .ok (.iaload, 1) := dc_46 (gB_c lq_cL_law q50_cL_law 14 (o := 46) rfl)
theorem dL_law_1615 : decode cL_law 1615 = .ok (.aload_n 0, 1) := dc_42 (gB_c lq_cL_law q50_cL_law 15 (o := 42) rfl)
theorem dL_law_1616 : decode cL_law 1616 = .ok (.iload_n 3, 1) := dc_29 (gB_c lq_cL_law q50_cL_law 16 (o := 29) rfl)
theorem dL_law_1617 : decode cL_law 1617 = .ok (.iconst 3, 1) := dc_6 (gB_c lq_cL_law q50_cL_law 17 (o := 6) rfl)
theorem dL_law_1618 : decode cL_law 1618 = .ok (.iadd, 1) := dc_96 (gB_c lq_cL_law q50_cL_law 18 (o := 96) rfl)
theorem dL_law_1619 : decode cL_law 1619 = .ok (.iaload, 1) := dc_46 (gB_c lq_cL_law q50_cL_law 19 (o := 46) rfl)
theorem dL_law_1620 : decode cL_law 1620 = .ok (.invokevirtual 173, 3) := dc_182 (gB_c lq_cL_law q50_cL_law 20 (o := 182) rfl) (gB_c lq_cL_law q50_cL_law 21 (o := 0) rfl) (gB_c lq_cL_law q50_cL_law 22 (o := 173) rfl) rfl
theorem dL_law_1623 : decode cL_law 1623 = .ok (.pop, 1) := dc_87 (gB_c lq_cL_law q50_cL_law 23 (o := 87) rfl)
theorem dL_law_1624 : decode cL_law 1624 = .ok (.goto 95, 3) := dc_167 (gB_c lq_cL_law q50_cL_law 24 (o := 167) rfl) (gB_c lq_cL_law q50_cL_law 25 (o := 0) rfl) (gB_c lq_cL_law q50_cL_law 26 (o := 95) rfl) rfl
theorem dL_law_1627 : decode cL_law 1627 = .ok (.aload_n 1, 1) := dc_43 (gB_c lq_cL_law q50_cL_law 27 (o := 43) rfl)
theorem dL_law_1628 : decode cL_law 1628 = .ok (.aload_n 0, 1) := dc_42 (gB_c lq_cL_law q50_cL_law 28 (o := 42) rfl)
theorem dL_law_1629 : decode cL_law 1629 = .ok (.iload_n 3, 1) := dc_29 (gB_c lq_cL_law q50_cL_law 29 (o := 29) rfl)
theorem dL_law_1630 : decode cL_law 1630 = .ok (.iconst 1, 1) := dc_4 (gB_c lq_cL_law q50_cL_law 30 (o := 4) rfl)
theorem dL_law_1631 : decode cL_law 1631 = .ok (.iadd, 1) := dc_96 (gB_c lq_cL_law q50_cL_law 31 (o := 96) rfl)
theorem dL_law_1632 : decode cL_law 1632 = .ok (.iaload, 1) := dc_46 (gB_c lq_cL_law q51_cL_law 0 (o := 46) rfl)
theorem dL_law_1633 : decode cL_law 1633 = .ok (.invokevirtual 174, 3) := dc_182 (gB_c lq_cL_law q51_cL_law 1 (o := 182) rfl) (gB_c lq_cL_law q51_cL_law 2 (o := 0) rfl) (gB_c lq_cL_law q51_cL_law 3 (o := 174) rfl) rfl
theorem dL_law_1636 : decode cL_law 1636 = .ok (.pop, 1) := dc_87 (gB_c lq_cL_law q51_cL_law 4 (o := 87) rfl)
theorem dL_law_1637 : decode cL_law 1637 = .ok (.aload_n 2, 1) := dc_44 (gB_c lq_cL_law q51_cL_law 5 (o := 44) rfl)
theorem dL_law_1638 : decode cL_law 1638 = .ok (.aload_n 0, 1) := dc_42 (gB_c lq_cL_law q51_cL_law 6 (o := 42) rfl)
theorem dL_law_1639 : decode cL_law 1639 = .ok (.iload_n 3, 1) := dc_29 (gB_c lq_cL_law q51_cL_law 7 (o := 29) rfl)
theorem dL_law_1640 : decode cL_law 1640 = .ok (.iconst 1, 1) := dc_4 (gB_c lq_cL_law q51_cL_law 8 (o := 4) rfl)
theorem dL_law_1641 : decode cL_law 1641 = .ok (.iadd, 1) := dc_96 (gB_c lq_cL_law q51_cL_law 9 (o := 96) rfl)
theorem dL_law_1642 : decode cL_law 1642 = .ok (.iaload, 1) := dc_46 (gB_c lq_cL_law q51_cL_law 10 (o := 46) rfl)
theorem dL_law_1643 : decode cL_law 1643 = .ok (.invokevirtual 177, 3) := dc_182 (gB_c lq_cL_law q51_cL_law 11 (o := 182) rfl) (gB_c lq_cL_law q51_cL_law 12 (o := 0) rfl) (gB_c lq_cL_law q51_cL_law 13 (o := 177) rfl) rfl
theorem dL_law_1646 : decode cL_law 1646 = .ok (.pop, 1) := dc_87 (gB_c lq_cL_law q51_cL_law 14 (o := 87) rfl)
theorem dL_law_1647 : decode cL_law 1647 = .ok (.goto 72, 3) := dc_167 (gB_c lq_cL_law q51_cL_law 15 (o := 167) rfl) (gB_c lq_cL_law q51_cL_law 16 (o := 0) rfl) (gB_c lq_cL_law q51_cL_law 17 (o := 72) rfl) rfl
theorem dL_law_1650 : decode cL_law 1650 = .ok (.aload_n 1, 1) := dc_43 (gB_c lq_cL_law q51_cL_law 18 (o := 43) rfl)
theorem dL_law_1651 : decode cL_law 1651 = .ok (.invokevirtual 178, 3) := dc_182 (gB_c lq_cL_law q51_cL_law 19 (o := 182) rfl) (gB_c lq_cL_law q51_cL_law 20 (o := 0) rfl) (gB_c lq_cL_law q51_cL_law 21 (o := 178) rfl) rfl
theorem dL_law_1654 : decode cL_law 1654 = .ok (.pop, 1) := dc_87 (gB_c lq_cL_law q51_cL_law 22 (o := 87) rfl)
theorem dL_law_1655 : decode cL_law 1655 = .ok (.aload_n 2, 1) := dc_44 (gB_c lq_cL_law q51_cL_law 23 (o := 44) rfl)
theorem dL_law_1656 : decode cL_law 1656 = .ok (.invokevirtual 182, 3) := dc_182 (gB_c lq_cL_law q51_cL_law 24 (o := 182) rfl) (gB_c lq_cL_law q51_cL_law 25 (o := 0) rfl) (gB_c lq_cL_law q51_cL_law 26 (o := 182) rfl) rfl
theorem dL_law_1659 : decode cL_law 1659 = .ok (.pop, 1) := dc_87 (gB_c lq_cL_law q51_cL_law 27 (o := 87) rfl)
theorem dL_law_1660 : decode cL_law 1660 = .ok (.goto 59, 3) := dc_167 (gB_c lq_cL_law q51_cL_law 28 (o := 167) rfl) (gB_c lq_cL_law q51_cL_law 29 (o := 0) rfl) (gB_c lq_cL_law q51_cL_law 30 (o := 59) rfl) rfl
theorem dL_law_1663 : decode cL_law 1663 = .ok (.aload_n 1, 1) := dc_43 (gB_c lq_cL_law q51_cL_law 31 (o := 43) rfl)
theorem dL_law_1664 : decode cL_law 1664 = .ok (.aload_n 0, 1) := dc_42 (gB_c lq_cL_law q52_cL_law 0 (o := 42) rfl)
theorem dL_law_1665 : decode cL_law 1665 = .ok (.iload_n 3, 1) := dc_29 (gB_c lq_cL_law q52_cL_law 1 (o := 29) rfl)
theorem dL_law_1666 : decode cL_law 1666 = .ok (.iconst 1, 1) := dc_4 (gB_c lq_cL_law q52_cL_law 2 (o := 4) rfl)
theorem dL_law_1667 : decode cL_law 1667 = .ok (.iadd, 1) := dc_96 (gB_c lq_cL_law q52_cL_law 3 (o := 96) rfl)
theorem dL_law_1668 : decode cL_law 1668 = .ok (.iaload, 1) := dc_46 (gB_c lq_cL_law q52_cL_law 4 (o := 46) rfl)
theorem dL_law_1669 : decode cL_law 1669 = .ok (.aload_n 0, 1) := dc_42 (gB_c lq_cL_law q52_cL_law 5 (o := 42) rfl)
theorem dL_law_1670 : decode cL_law 1670 = .ok (.iload_n 3, 1) := dc_29 (gB_c lq_cL_law q52_cL_law 6 (o := 29) rfl)
theorem dL_law_1671 : decode cL_law 1671 = .ok (.iconst 2, 1) := dc_5 (gB_c lq_cL_law q52_cL_law 7 (o := 5) rfl)
theorem dL_law_1672 : decode cL_law 1672 = .ok (.iadd, 1) := dc_96 (gB_c lq_cL_law q52_cL_law 8 (o := 96) rfl)
theorem dL_law_1673 : decode cL_law 1673 = .ok (.iaload, 1) := dc_46 (gB_c lq_cL_law q52_cL_law 9 (o := 46) rfl)
theorem dL_law_1674 : decode cL_law 1674 = .ok (.invokevirtual 183, 3) := dc_182 (gB_c lq_cL_law q52_cL_law 10 (o := 182) rfl) (gB_c lq_cL_law q52_cL_law 11 (o := 0) rfl) (gB_c lq_cL_law q52_cL_law 12 (o := 183) rfl) rfl
theorem dL_law_1677 : decode cL_law 1677 = .ok (.pop, 1) := dc_87 (gB_c lq_cL_law q52_cL_law 13 (o := 87) rfl)
theorem dL_law_1678 : decode cL_law 1678 = .ok (.aload_n 2, 1) := dc_44 (gB_c lq_cL_law q52_cL_law 14 (o := 44) rfl)
theorem dL_law_1679 : decode cL_law 1679 = .ok (.aload_n 0, 1) := dc_42 (gB_c lq_cL_law q52_cL_law 15 (o := 42) rfl)
theorem dL_law_1680 : decode cL_law 1680 = .ok (.iload_n 3, 1) := dc_29 (gB_c lq_cL_law q52_cL_law 16 (o := 29) rfl)
theorem dL_law_1681 : decode cL_law 1681 = .ok (.iconst 1, 1) := dc_4 (gB_c lq_cL_law q52_cL_law 17 (o := 4) rfl)
theorem dL_law_1682 : decode cL_law 1682 = .ok (.iadd, 1) := dc_96 (gB_c lq_cL_law q52_cL_law 18 (o := 96) rfl)
theorem dL_law_1683 : decode cL_law 1683 = .ok (.iaload, 1) := dc_46 (gB_c lq_cL_law q52_cL_law 19 (o := 46) rfl)
theorem dL_law_1684 : decode cL_law 1684 = .ok (.aload_n 0, 1) := dc_42 (gB_c lq_cL_law q52_cL_law 20 (o := 42) rfl)
theorem dL_law_1685 : decode cL_law 1685 = .ok (.iload_n 3, 1) := dc_29 (gB_c lq_cL_law q52_cL_law 21 (o := 29) rfl)
theorem dL_law_1686 : decode cL_law 1686 = .ok (.iconst 2, 1) := dc_5 (gB_c lq_cL_law q52_cL_law 22 (o := 5) rfl)
theorem dL_law_1687 : decode cL_law 1687 = .ok (.iadd, 1) := dc_96 (gB_c lq_cL_law q52_cL_law 23 (o := 96) rfl)
theorem dL_law_1688 : decode cL_law 1688 = .ok (.iaload, 1) := dc_46 (gB_c lq_cL_law q52_cL_law 24 (o := 46) rfl)
theorem dL_law_1689 : decode cL_law 1689 = .ok (.invokevirtual 186, 3) := dc_182 (gB_c lq_cL_law q52_cL_law 25 (o := 182) rfl) (gB_c lq_cL_law q52_cL_law 26 (o := 0) rfl) (gB_c lq_cL_law q52_cL_law 27 (o := 186) rfl) rfl
theorem dL_law_1692 : decode cL_law 1692 = .ok (.pop, 1) := dc_87 (gB_c lq_cL_law q52_cL_law 28 (o := 87) rfl)
theorem dL_law_1693 : decode cL_law 1693 = .ok (.goto 26, 3) := dc_167 (gB_c lq_cL_law q52_cL_law 29 (o := 167) rfl) (gB_c lq_cL_law q52_cL_law 30 (o := 0) rfl) (gB_c lq_cL_law q52_cL_law 31 (o := 26) rfl) rfl
theorem dL_law_1696 : decode cL_law 1696 = .ok (.aload_n 1, 1) := dc_43 (gB_c lq_cL_law q53_cL_law 0 (o := 43) rfl)
theorem dL_law_1697 : decode cL_law 1697 = .ok (.aload_n 0, 1) := dc_42 (gB_c lq_cL_law q53_cL_law 1 (o := 42) rfl)
theorem dL_law_1698 : decode cL_law 1698 = .ok (.iload_n 3, 1) := dc_29 (gB_c lq_cL_law q53_cL_law 2 (o := 29) rfl)
theorem dL_law_1699 : decode cL_law 1699 = .ok (.iconst 1, 1) := dc_4 (gB_c lq_cL_law q53_cL_law 3 (o := 4) rfl)
theorem dL_law_1700 : decode cL_law 1700 = .ok (.iadd, 1) := dc_96 (gB_c lq_cL_law q53_cL_law 4 (o := 96) rfl)
theorem dL_law_1701 : decode cL_law 1701 = .ok (.iaload, 1) := dc_46 (gB_c lq_cL_law q53_cL_law 5 (o := 46) rfl)
theorem dL_law_1702 : decode cL_law 1702 = .ok (.invokevirtual 187, 3) := dc_182 (gB_c lq_cL_law q53_cL_law 6 (o := 182) rfl) (gB_c lq_cL_law q53_cL_law 7 (o := 0) rfl) (gB_c lq_cL_law q53_cL_law 8 (o := 187) rfl) rfl
theorem dL_law_1705 : decode cL_law 1705 = .ok (.pop, 1) := dc_87 (gB_c lq_cL_law q53_cL_law 9 (o := 87) rfl)
theorem dL_law_1706 : decode cL_law 1706 = .ok (.aload_n 2, 1) := dc_44 (gB_c lq_cL_law q53_cL_law 10 (o := 44) rfl)
theorem dL_law_1707 : decode cL_law 1707 = .ok (.aload_n 0, 1) := dc_42 (gB_c lq_cL_law q53_cL_law 11 (o := 42) rfl)
theorem dL_law_1708 : decode cL_law 1708 = .ok (.iload_n 3, 1) := dc_29 (gB_c lq_cL_law q53_cL_law 12 (o := 29) rfl)
theorem dL_law_1709 : decode cL_law 1709 = .ok (.iconst 1, 1) := dc_4 (gB_c lq_cL_law q53_cL_law 13 (o := 4) rfl)
theorem dL_law_1710 : decode cL_law 1710 = .ok (.iadd, 1) := dc_96 (gB_c lq_cL_law q53_cL_law 14 (o := 96) rfl)
theorem dL_law_1711 : decode cL_law 1711 = .ok (.iaload, 1) := dc_46 (gB_c lq_cL_law q53_cL_law 15 (o := 46) rfl)
theorem dL_law_1712 : decode cL_law 1712 = .ok (.invokevirtual 190, 3) := dc_182 (gB_c lq_cL_law q53_cL_law 16 (o := 182) rfl) (gB_c lq_cL_law q53_cL_law 17 (o := 0) rfl) (gB_c lq_cL_law q53_cL_law 18 (o := 190) rfl) rfl
theorem dL_law_1715 : decode cL_law 1715 = .ok (.pop, 1) := dc_87 (gB_c lq_cL_law q53_cL_law 19 (o := 87) rfl)
theorem dL_law_1716 : decode cL_law 1716 = .ok (.goto 3, 3) := dc_167 (gB_c lq_cL_law q53_cL_law 20 (o := 167) rfl) (gB_c lq_cL_law q53_cL_law 21 (o := 0) rfl) (gB_c lq_cL_law q53_cL_law 22 (o := 3) rfl) rfl
theorem dL_law_1719 : decode cL_law 1719 = .ok (.iinc 3 6, 3) := dc_132 (gB_c lq_cL_law q53_cL_law 23 (o := 132) rfl) (gB_c lq_cL_law q53_cL_law 24 (o := 3) rfl) (gB_c lq_cL_law q53_cL_law 25 (o := 6) rfl) rfl
theorem dL_law_1722 : decode cL_law 1722 = .ok (.goto (-1704), 3) := dc_167 (gB_c lq_cL_law q53_cL_law 26 (o := 167) rfl) (gB_c lq_cL_law q53_cL_law 27 (o := 249) rfl) (gB_c lq_cL_law q53_cL_law 28 (o := 88) rfl) rfl
theorem dL_law_1725 : decode cL_law 1725 = .ok (.iconst 1, 1) := dc_4 (gB_c lq_cL_law q53_cL_law 29 (o := 4) rfl)
theorem dL_law_1726 : decode cL_law 1726 = .ok (.ireturn, 1) := dc_172 (gB_c lq_cL_law q53_cL_law 30 (o := 172) rfl)
abbrev r3_cX0_find : List Nat := [132, 5, 1, 167, 255, 200, 177]
def a2_cX0_find : List Nat := [184, 0, 58, 54, 6, 42, 180, 0, 18, 21, 5, 21, 6, 79, 44, 180, 0, 64, 21, 5, 21, 6, 79, 21, 4, 4, 21, 6, 120, 128, 54, 4]
abbrev r2_cX0_find : List Nat := a2_cX0_find ++ r3_cX0_find
def a1_cX0_find : List Nat := [0, 49, 181, 0, 52, 3, 54, 4, 3, 54, 5, 21, 5, 42, 180, 0, 14, 180, 0, 55, 162, 0, 50, 42, 21, 5, 21, 4, 29, 182, 0, 49]
abbrev r1_cX0_find : List Nat := a1_cX0_find ++ r2_cX0_find
def a0_cX0_find : List Nat := [42, 43, 182, 0, 28, 42, 182, 0, 32, 62, 44, 29, 181, 0, 36, 44, 42, 3, 3, 29, 182, 0, 42, 181, 0, 46, 44, 42, 3, 3, 29, 182]
abbrev r0_cX0_find : List Nat := a0_cX0_find ++ r1_cX0_find
theorem lq_cX0_find : (cX0_find).data.toList.map UInt8.toNat = r0_cX0_find := by decide +kernel
theorem q1_cX0_find : ∀ i, (r0_cX0_find)[32 + i]? = (r1_cX0_find)[i]? := chn (A := a0_cX0_find) (B := r1_cX0_find) (n := 0) (k := 32) rfl (ch0 (R := r0_cX0_find))
theorem q2_cX0_find : ∀ i, (r0_cX0_find)[64 + i]? = (r2_cX0_find)[i]? := chn (A := a1_cX0_find) (B := r2_cX0_find) (n := 32) (k := 32) rfl q1_cX0_find
theorem q3_cX0_find : ∀ i, (r0_cX0_find)[96 + i]? = (r3_cX0_find)[i]? := chn (A := a2_cX0_find) (B := r3_cX0_find) (n := 64) (k := 32) rfl q2_cX0_find
theorem dX0_find_0 : decode cX0_find 0 = .ok (.aload_n 0, 1) := dc_42 (gB_l lq_cX0_find (p := 0) (o := 42) rfl)
theorem dX0_find_1 : decode cX0_find 1 = .ok (.aload_n 1, 1) := dc_43 (gB_l lq_cX0_find (p := 1) (o := 43) rfl)
theorem dX0_find_2 : decode cX0_find 2 = .ok (.invokevirtual 28, 3) := dc_182 (gB_l lq_cX0_find (p := 2) (o := 182) rfl) (gB_l lq_cX0_find (p := 3) (o := 0) rfl) (gB_l lq_cX0_find (p := 4) (o := 28) rfl) rfl
theorem dX0_find_5 : decode cX0_find 5 = .ok (.aload_n 0, 1) := dc_42 (gB_l lq_cX0_find (p := 5) (o := 42) rfl)
theorem dX0_find_6 : decode cX0_find 6 = .ok (.invokevirtual 32, 3) := dc_182 (gB_l lq_cX0_find (p := 6) (o := 182) rfl) (gB_l lq_cX0_find (p := 7) (o := 0) rfl) (gB_l lq_cX0_find (p := 8) (o := 32) rfl) rfl
theorem dX0_find_9 : decode cX0_find 9 = .ok (.istore_n 3, 1) := dc_62 (gB_l lq_cX0_find (p := 9) (o := 62) rfl)
theorem dX0_find_10 : decode cX0_find 10 = .ok (.aload_n 2, 1) := dc_44 (gB_l lq_cX0_find (p := 10) (o := 44) rfl)
theorem dX0_find_11 : decode cX0_find 11 = .ok (.iload_n 3, 1) := dc_29 (gB_l lq_cX0_find (p := 11) (o := 29) rfl)
theorem dX0_find_12 : decode cX0_find 12 = .ok (.putfield 36, 3) := dc_181 (gB_l lq_cX0_find (p := 12) (o := 181) rfl) (gB_l lq_cX0_find (p := 13) (o := 0) rfl) (gB_l lq_cX0_find (p := 14) (o := 36) rfl) rfl
theorem dX0_find_15 : decode cX0_find 15 = .ok (.aload_n 2, 1) := dc_44 (gB_l lq_cX0_find (p := 15) (o := 44) rfl)
theorem dX0_find_16 : decode cX0_find 16 = .ok (.aload_n 0, 1) := dc_42 (gB_l lq_cX0_find (p := 16) (o := 42) rfl)
theorem dX0_find_17 : decode cX0_find 17 = .ok (.iconst 0, 1) := dc_3 (gB_l lq_cX0_find (p := 17) (o := 3) rfl)
theorem dX0_find_18 : decode cX0_find 18 = .ok (.iconst 0, 1) := dc_3 (gB_l lq_cX0_find (p := 18) (o := 3) rfl)
theorem dX0_find_19 : decode cX0_find 19 = .ok (.iload_n 3, 1) := dc_29 (gB_l lq_cX0_find (p := 19) (o := 29) rfl)
theorem dX0_find_20 : decode cX0_find 20 = .ok (.invokevirtual 42, 3) := dc_182 (gB_l lq_cX0_find (p := 20) (o := 182) rfl) (gB_l lq_cX0_find (p := 21) (o := 0) rfl) (gB_l lq_cX0_find (p := 22) (o := 42) rfl) rfl
theorem dX0_find_23 : decode cX0_find 23 = .ok (.putfield 46, 3) := dc_181 (gB_l lq_cX0_find (p := 23) (o := 181) rfl) (gB_l lq_cX0_find (p := 24) (o := 0) rfl) (gB_l lq_cX0_find (p := 25) (o := 46) rfl) rfl
theorem dX0_find_26 : decode cX0_find 26 = .ok (.aload_n 2, 1) := dc_44 (gB_l lq_cX0_find (p := 26) (o := 44) rfl)
theorem dX0_find_27 : decode cX0_find 27 = .ok (.aload_n 0, 1) := dc_42 (gB_l lq_cX0_find (p := 27) (o := 42) rfl)
theorem dX0_find_28 : decode cX0_find 28 = .ok (.iconst 0, 1) := dc_3 (gB_l lq_cX0_find (p := 28) (o := 3) rfl)
theorem dX0_find_29 : decode cX0_find 29 = .ok (.iconst 0, 1) := dc_3 (gB_l lq_cX0_find (p := 29) (o := 3) rfl)
theorem dX0_find_30 : decode cX0_find 30 = .ok (.iload_n 3, 1) := dc_29 (gB_l lq_cX0_find (p := 30) (o := 29) rfl)
theorem dX0_find_31 : decode cX0_find 31 = .ok (.invokevirtual 49, 3) := dc_182 (gB_l lq_cX0_find (p := 31) (o := 182) rfl) (gB_c lq_cX0_find q1_cX0_find 0 (o := 0) rfl) (gB_c lq_cX0_find q1_cX0_find 1 (o := 49) rfl) rfl
theorem dX0_find_34 : decode cX0_find 34 = .ok (.putfield 52, 3) := dc_181 (gB_c lq_cX0_find q1_cX0_find 2 (o := 181) rfl) (gB_c lq_cX0_find q1_cX0_find 3 (o := 0) rfl) (gB_c lq_cX0_find q1_cX0_find 4 (o := 52) rfl) rfl
theorem dX0_find_37 : decode cX0_find 37 = .ok (.iconst 0, 1) := dc_3 (gB_c lq_cX0_find q1_cX0_find 5 (o := 3) rfl)
theorem dX0_find_38 : decode cX0_find 38 = .ok (.istore 4, 2) := dc_54 (gB_c lq_cX0_find q1_cX0_find 6 (o := 54) rfl) (gB_c lq_cX0_find q1_cX0_find 7 (o := 4) rfl)
theorem dX0_find_40 : decode cX0_find 40 = .ok (.iconst 0, 1) := dc_3 (gB_c lq_cX0_find q1_cX0_find 8 (o := 3) rfl)
theorem dX0_find_41 : decode cX0_find 41 = .ok (.istore 5, 2) := dc_54 (gB_c lq_cX0_find q1_cX0_find 9 (o := 54) rfl) (gB_c lq_cX0_find q1_cX0_find 10 (o := 5) rfl)
theorem dX0_find_43 : decode cX0_find 43 = .ok (.iload 5, 2) := dc_21 (gB_c lq_cX0_find q1_cX0_find 11 (o := 21) rfl) (gB_c lq_cX0_find q1_cX0_find 12 (o := 5) rfl)
theorem dX0_find_45 : decode cX0_find 45 = .ok (.aload_n 0, 1) := dc_42 (gB_c lq_cX0_find q1_cX0_find 13 (o := 42) rfl)
theorem dX0_find_46 : decode cX0_find 46 = .ok (.getfield 14, 3) := dc_180 (gB_c lq_cX0_find q1_cX0_find 14 (o := 180) rfl) (gB_c lq_cX0_find q1_cX0_find 15 (o := 0) rfl) (gB_c lq_cX0_find q1_cX0_find 16 (o := 14) rfl) rfl
theorem dX0_find_49 : decode cX0_find 49 = .ok (.getfield 55, 3) := dc_180 (gB_c lq_cX0_find q1_cX0_find 17 (o := 180) rfl) (gB_c lq_cX0_find q1_cX0_find 18 (o := 0) rfl) (gB_c lq_cX0_find q1_cX0_find 19 (o := 55) rfl) rfl
theorem dX0_find_52 : decode cX0_find 52 = .ok (.if_icmp .ge 50, 3) := dc_162 (gB_c lq_cX0_find q1_cX0_find 20 (o := 162) rfl) (gB_c lq_cX0_find q1_cX0_find 21 (o := 0) rfl) (gB_c lq_cX0_find q1_cX0_find 22 (o := 50) rfl) rfl
theorem dX0_find_55 : decode cX0_find 55 = .ok (.aload_n 0, 1) := dc_42 (gB_c lq_cX0_find q1_cX0_find 23 (o := 42) rfl)
theorem dX0_find_56 : decode cX0_find 56 = .ok (.iload 5, 2) := dc_21 (gB_c lq_cX0_find q1_cX0_find 24 (o := 21) rfl) (gB_c lq_cX0_find q1_cX0_find 25 (o := 5) rfl)
theorem dX0_find_58 : decode cX0_find 58 = .ok (.iload 4, 2) := dc_21 (gB_c lq_cX0_find q1_cX0_find 26 (o := 21) rfl) (gB_c lq_cX0_find q1_cX0_find 27 (o := 4) rfl)
theorem dX0_find_60 : decode cX0_find 60 = .ok (.iload_n 3, 1) := dc_29 (gB_c lq_cX0_find q1_cX0_find 28 (o := 29) rfl)
theorem dX0_find_61 : decode cX0_find 61 = .ok (.invokevirtual 49, 3) := dc_182 (gB_c lq_cX0_find q1_cX0_find 29 (o := 182) rfl) (gB_c lq_cX0_find q1_cX0_find 30 (o := 0) rfl) (gB_c lq_cX0_find q1_cX0_find 31 (o := 49) rfl) rfl
theorem dX0_find_64 : decode cX0_find 64 = .ok (.invokestatic 58, 3) := dc_184 (gB_c lq_cX0_find q2_cX0_find 0 (o := 184) rfl) (gB_c lq_cX0_find q2_cX0_find 1 (o := 0) rfl) (gB_c lq_cX0_find q2_cX0_find 2 (o := 58) rfl) rfl
theorem dX0_find_67 : decode cX0_find 67 = .ok (.istore 6, 2) := dc_54 (gB_c lq_cX0_find q2_cX0_find 3 (o := 54) rfl) (gB_c lq_cX0_find q2_cX0_find 4 (o := 6) rfl)
theorem dX0_find_69 : decode cX0_find 69 = .ok (.aload_n 0, 1) := dc_42 (gB_c lq_cX0_find q2_cX0_find 5 (o := 42) rfl)
theorem dX0_find_70 : decode cX0_find 70 = .ok (.getfield 18, 3) := dc_180 (gB_c lq_cX0_find q2_cX0_find 6 (o := 180) rfl) (gB_c lq_cX0_find q2_cX0_find 7 (o := 0) rfl) (gB_c lq_cX0_find q2_cX0_find 8 (o := 18) rfl) rfl
theorem dX0_find_73 : decode cX0_find 73 = .ok (.iload 5, 2) := dc_21 (gB_c lq_cX0_find q2_cX0_find 9 (o := 21) rfl) (gB_c lq_cX0_find q2_cX0_find 10 (o := 5) rfl)
theorem dX0_find_75 : decode cX0_find 75 = .ok (.iload 6, 2) := dc_21 (gB_c lq_cX0_find q2_cX0_find 11 (o := 21) rfl) (gB_c lq_cX0_find q2_cX0_find 12 (o := 6) rfl)
theorem dX0_find_77 : decode cX0_find 77 = .ok (.iastore, 1) := dc_79 (gB_c lq_cX0_find q2_cX0_find 13 (o := 79) rfl)
theorem dX0_find_78 : decode cX0_find 78 = .ok (.aload_n 2, 1) := dc_44 (gB_c lq_cX0_find q2_cX0_find 14 (o := 44) rfl)
theorem dX0_find_79 : decode cX0_find 79 = .ok (.getfield 64, 3) := dc_180 (gB_c lq_cX0_find q2_cX0_find 15 (o := 180) rfl) (gB_c lq_cX0_find q2_cX0_find 16 (o := 0) rfl) (gB_c lq_cX0_find q2_cX0_find 17 (o := 64) rfl) rfl
theorem dX0_find_82 : decode cX0_find 82 = .ok (.iload 5, 2) := dc_21 (gB_c lq_cX0_find q2_cX0_find 18 (o := 21) rfl) (gB_c lq_cX0_find q2_cX0_find 19 (o := 5) rfl)
theorem dX0_find_84 : decode cX0_find 84 = .ok (.iload 6, 2) := dc_21 (gB_c lq_cX0_find q2_cX0_find 20 (o := 21) rfl) (gB_c lq_cX0_find q2_cX0_find 21 (o := 6) rfl)
theorem dX0_find_86 : decode cX0_find 86 = .ok (.iastore, 1) := dc_79 (gB_c lq_cX0_find q2_cX0_find 22 (o := 79) rfl)
theorem dX0_find_87 : decode cX0_find 87 = .ok (.iload 4, 2) := dc_21 (gB_c lq_cX0_find q2_cX0_find 23 (o := 21) rfl) (gB_c lq_cX0_find q2_cX0_find 24 (o := 4) rfl)
theorem dX0_find_89 : decode cX0_find 89 = .ok (.iconst 1, 1) := dc_4 (gB_c lq_cX0_find q2_cX0_find 25 (o := 4) rfl)
theorem dX0_find_90 : decode cX0_find 90 = .ok (.iload 6, 2) := dc_21 (gB_c lq_cX0_find q2_cX0_find 26 (o := 21) rfl) (gB_c lq_cX0_find q2_cX0_find 27 (o := 6) rfl)
theorem dX0_find_92 : decode cX0_find 92 = .ok (.ishl, 1) := dc_120 (gB_c lq_cX0_find q2_cX0_find 28 (o := 120) rfl)
theorem dX0_find_93 : decode cX0_find 93 = .ok (.ior, 1) := dc_128 (gB_c lq_cX0_find q2_cX0_find 29 (o := 128) rfl)
theorem dX0_find_94 : decode cX0_find 94 = .ok (.istore 4, 2) := dc_54 (gB_c lq_cX0_find q2_cX0_find 30 (o := 54) rfl) (gB_c lq_cX0_find q2_cX0_find 31 (o := 4) rfl)
theorem dX0_find_96 : decode cX0_find 96 = .ok (.iinc 5 1, 3) := dc_132 (gB_c lq_cX0_find q3_cX0_find 0 (o := 132) rfl) (gB_c lq_cX0_find q3_cX0_find 1 (o := 5) rfl) (gB_c lq_cX0_find q3_cX0_find 2 (o := 1) rfl) rfl
theorem dX0_find_99 : decode cX0_find 99 = .ok (.goto (-56), 3) := dc_167 (gB_c lq_cX0_find q3_cX0_find 3 (o := 167) rfl) (gB_c lq_cX0_find q3_cX0_find 4 (o := 255) rfl) (gB_c lq_cX0_find q3_cX0_find 5 (o := 200) rfl) rfl
theorem dX0_find_102 : decode cX0_find 102 = .ok (.return_, 1) := dc_177 (gB_c lq_cX0_find q3_cX0_find 6 (o := 177) rfl)
abbrev r1_cX0_init : List Nat := [42, 17, 16, 0, 188, 10, 181, 0, 25, 177]
def a0_cX0_init : List Nat := [42, 183, 0, 5, 42, 187, 0, 11, 89, 183, 0, 13, 181, 0, 14, 42, 16, 9, 188, 10, 181, 0, 18, 42, 17, 16, 0, 188, 10, 181, 0, 22]
abbrev r0_cX0_init : List Nat := a0_cX0_init ++ r1_cX0_init
theorem lq_cX0_init : (cX0_init).data.toList.map UInt8.toNat = r0_cX0_init := by decide +kernel
theorem q1_cX0_init : ∀ i, (r0_cX0_init)[32 + i]? = (r1_cX0_init)[i]? := chn (A := a0_cX0_init) (B := r1_cX0_init) (n := 0) (k := 32) rfl (ch0 (R := r0_cX0_init))
theorem dX0_init_0 : decode cX0_init 0 = .ok (.aload_n 0, 1) := dc_42 (gB_l lq_cX0_init (p := 0) (o := 42) rfl)
theorem dX0_init_1 : decode cX0_init 1 = .ok (.invokespecial 5, 3) := dc_183 (gB_l lq_cX0_init (p := 1) (o := 183) rfl) (gB_l lq_cX0_init (p := 2) (o := 0) rfl) (gB_l lq_cX0_init (p := 3) (o := 5) rfl) rfl
theorem dX0_init_4 : decode cX0_init 4 = .ok (.aload_n 0, 1) := dc_42 (gB_l lq_cX0_init (p := 4) (o := 42) rfl)
theorem dX0_init_5 : decode cX0_init 5 = .ok (.new 11, 3) := dc_187 (gB_l lq_cX0_init (p := 5) (o := 187) rfl) (gB_l lq_cX0_init (p := 6) (o := 0) rfl) (gB_l lq_cX0_init (p := 7) (o := 11) rfl) rfl
theorem dX0_init_8 : decode cX0_init 8 = .ok (.dup, 1) := dc_89 (gB_l lq_cX0_init (p := 8) (o := 89) rfl)
theorem dX0_init_9 : decode cX0_init 9 = .ok (.invokespecial 13, 3) := dc_183 (gB_l lq_cX0_init (p := 9) (o := 183) rfl) (gB_l lq_cX0_init (p := 10) (o := 0) rfl) (gB_l lq_cX0_init (p := 11) (o := 13) rfl) rfl
theorem dX0_init_12 : decode cX0_init 12 = .ok (.putfield 14, 3) := dc_181 (gB_l lq_cX0_init (p := 12) (o := 181) rfl) (gB_l lq_cX0_init (p := 13) (o := 0) rfl) (gB_l lq_cX0_init (p := 14) (o := 14) rfl) rfl
theorem dX0_init_15 : decode cX0_init 15 = .ok (.aload_n 0, 1) := dc_42 (gB_l lq_cX0_init (p := 15) (o := 42) rfl)
theorem dX0_init_16 : decode cX0_init 16 = .ok (.bipush 9, 2) := dc_16 (gB_l lq_cX0_init (p := 16) (o := 16) rfl) (gB_l lq_cX0_init (p := 17) (o := 9) rfl) rfl
theorem dX0_init_18 : decode cX0_init 18 = .ok (.newarray .int, 2) := dn_10 (gB_l lq_cX0_init (p := 18) (o := 188) rfl) (gB_l lq_cX0_init (p := 19) (o := 10) rfl)
theorem dX0_init_20 : decode cX0_init 20 = .ok (.putfield 18, 3) := dc_181 (gB_l lq_cX0_init (p := 20) (o := 181) rfl) (gB_l lq_cX0_init (p := 21) (o := 0) rfl) (gB_l lq_cX0_init (p := 22) (o := 18) rfl) rfl
theorem dX0_init_23 : decode cX0_init 23 = .ok (.aload_n 0, 1) := dc_42 (gB_l lq_cX0_init (p := 23) (o := 42) rfl)
theorem dX0_init_24 : decode cX0_init 24 = .ok (.sipush 4096, 3) := dc_17 (gB_l lq_cX0_init (p := 24) (o := 17) rfl) (gB_l lq_cX0_init (p := 25) (o := 16) rfl) (gB_l lq_cX0_init (p := 26) (o := 0) rfl) rfl
theorem dX0_init_27 : decode cX0_init 27 = .ok (.newarray .int, 2) := dn_10 (gB_l lq_cX0_init (p := 27) (o := 188) rfl) (gB_l lq_cX0_init (p := 28) (o := 10) rfl)
theorem dX0_init_29 : decode cX0_init 29 = .ok (.putfield 22, 3) := dc_181 (gB_l lq_cX0_init (p := 29) (o := 181) rfl) (gB_l lq_cX0_init (p := 30) (o := 0) rfl) (gB_l lq_cX0_init (p := 31) (o := 22) rfl) rfl
theorem dX0_init_32 : decode cX0_init 32 = .ok (.aload_n 0, 1) := dc_42 (gB_c lq_cX0_init q1_cX0_init 0 (o := 42) rfl)
theorem dX0_init_33 : decode cX0_init 33 = .ok (.sipush 4096, 3) := dc_17 (gB_c lq_cX0_init q1_cX0_init 1 (o := 17) rfl) (gB_c lq_cX0_init q1_cX0_init 2 (o := 16) rfl) (gB_c lq_cX0_init q1_cX0_init 3 (o := 0) rfl) rfl
theorem dX0_init_36 : decode cX0_init 36 = .ok (.newarray .int, 2) := dn_10 (gB_c lq_cX0_init q1_cX0_init 4 (o := 188) rfl) (gB_c lq_cX0_init q1_cX0_init 5 (o := 10) rfl)
theorem dX0_init_38 : decode cX0_init 38 = .ok (.putfield 25, 3) := dc_181 (gB_c lq_cX0_init q1_cX0_init 6 (o := 181) rfl) (gB_c lq_cX0_init q1_cX0_init 7 (o := 0) rfl) (gB_c lq_cX0_init q1_cX0_init 8 (o := 25) rfl) rfl
theorem dX0_init_41 : decode cX0_init 41 = .ok (.return_, 1) := dc_177 (gB_c lq_cX0_init q1_cX0_init 9 (o := 177) rfl)
abbrev r2_cX0_leadersFrom : List Nat := [167, 255, 198, 21, 4, 172]
def a1_cX0_leadersFrom : List Nat := [21, 5, 79, 42, 27, 4, 96, 28, 4, 21, 5, 120, 128, 29, 182, 0, 42, 158, 0, 12, 21, 4, 4, 21, 5, 120, 128, 54, 4, 132, 5, 1]
abbrev r1_cX0_leadersFrom : List Nat := a1_cX0_leadersFrom ++ r2_cX0_leadersFrom
def a0_cX0_leadersFrom : List Nat := [3, 54, 4, 3, 54, 5, 21, 5, 42, 180, 0, 14, 180, 0, 55, 162, 0, 52, 28, 21, 5, 122, 4, 126, 154, 0, 37, 42, 180, 0, 18, 27]
abbrev r0_cX0_leadersFrom : List Nat := a0_cX0_leadersFrom ++ r1_cX0_leadersFrom
theorem lq_cX0_leadersFrom : (cX0_leadersFrom).data.toList.map UInt8.toNat = r0_cX0_leadersFrom := by decide +kernel
theorem q1_cX0_leadersFrom : ∀ i, (r0_cX0_leadersFrom)[32 + i]? = (r1_cX0_leadersFrom)[i]? := chn (A := a0_cX0_leadersFrom) (B := r1_cX0_leadersFrom) (n := 0) (k := 32) rfl (ch0 (R := r0_cX0_leadersFrom))
theorem q2_cX0_leadersFrom : ∀ i, (r0_cX0_leadersFrom)[64 + i]? = (r2_cX0_leadersFrom)[i]? := chn (A := a1_cX0_leadersFrom) (B := r2_cX0_leadersFrom) (n := 32) (k := 32) rfl q1_cX0_leadersFrom
theorem dX0_leadersFrom_0 : decode cX0_leadersFrom 0 = .ok (.iconst 0, 1) := dc_3 (gB_l lq_cX0_leadersFrom (p := 0) (o := 3) rfl)
theorem dX0_leadersFrom_1 : decode cX0_leadersFrom 1 = .ok (.istore 4, 2) := dc_54 (gB_l lq_cX0_leadersFrom (p := 1) (o := 54) rfl) (gB_l lq_cX0_leadersFrom (p := 2) (o := 4) rfl)
theorem dX0_leadersFrom_3 : decode cX0_leadersFrom 3 = .ok (.iconst 0, 1) := dc_3 (gB_l lq_cX0_leadersFrom (p := 3) (o := 3) rfl)
theorem dX0_leadersFrom_4 : decode cX0_leadersFrom 4 = .ok (.istore 5, 2) := dc_54 (gB_l lq_cX0_leadersFrom (p := 4) (o := 54) rfl) (gB_l lq_cX0_leadersFrom (p := 5) (o := 5) rfl)
theorem dX0_leadersFrom_6 : decode cX0_leadersFrom 6 = .ok (.iload 5, 2) := dc_21 (gB_l lq_cX0_leadersFrom (p := 6) (o := 21) rfl) (gB_l lq_cX0_leadersFrom (p := 7) (o := 5) rfl)
theorem dX0_leadersFrom_8 : decode cX0_leadersFrom 8 = .ok (.aload_n 0, 1) := dc_42 (gB_l lq_cX0_leadersFrom (p := 8) (o := 42) rfl)
theorem dX0_leadersFrom_9 : decode cX0_leadersFrom 9 = .ok (.getfield 14, 3) := dc_180 (gB_l lq_cX0_leadersFrom (p := 9) (o := 180) rfl) (gB_l lq_cX0_leadersFrom (p := 10) (o := 0) rfl) (gB_l lq_cX0_leadersFrom (p := 11) (o := 14) rfl) rfl
theorem dX0_leadersFrom_12 : decode cX0_leadersFrom 12 = .ok (.getfield 55, 3) := dc_180 (gB_l lq_cX0_leadersFrom (p := 12) (o := 180) rfl) (gB_l lq_cX0_leadersFrom (p := 13) (o := 0) rfl) (gB_l lq_cX0_leadersFrom (p := 14) (o := 55) rfl) rfl
theorem dX0_leadersFrom_15 : decode cX0_leadersFrom 15 = .ok (.if_icmp .ge 52, 3) := dc_162 (gB_l lq_cX0_leadersFrom (p := 15) (o := 162) rfl) (gB_l lq_cX0_leadersFrom (p := 16) (o := 0) rfl) (gB_l lq_cX0_leadersFrom (p := 17) (o := 52) rfl) rfl
theorem dX0_leadersFrom_18 : decode cX0_leadersFrom 18 = .ok (.iload_n 2, 1) := dc_28 (gB_l lq_cX0_leadersFrom (p := 18) (o := 28) rfl)
theorem dX0_leadersFrom_19 : decode cX0_leadersFrom 19 = .ok (.iload 5, 2) := dc_21 (gB_l lq_cX0_leadersFrom (p := 19) (o := 21) rfl) (gB_l lq_cX0_leadersFrom (p := 20) (o := 5) rfl)
theorem dX0_leadersFrom_21 : decode cX0_leadersFrom 21 = .ok (.ishr, 1) := dc_122 (gB_l lq_cX0_leadersFrom (p := 21) (o := 122) rfl)
theorem dX0_leadersFrom_22 : decode cX0_leadersFrom 22 = .ok (.iconst 1, 1) := dc_4 (gB_l lq_cX0_leadersFrom (p := 22) (o := 4) rfl)
theorem dX0_leadersFrom_23 : decode cX0_leadersFrom 23 = .ok (.iand, 1) := dc_126 (gB_l lq_cX0_leadersFrom (p := 23) (o := 126) rfl)
theorem dX0_leadersFrom_24 : decode cX0_leadersFrom 24 = .ok (.ifCond .ne 37, 3) := dc_154 (gB_l lq_cX0_leadersFrom (p := 24) (o := 154) rfl) (gB_l lq_cX0_leadersFrom (p := 25) (o := 0) rfl) (gB_l lq_cX0_leadersFrom (p := 26) (o := 37) rfl) rfl
theorem dX0_leadersFrom_27 : decode cX0_leadersFrom 27 = .ok (.aload_n 0, 1) := dc_42 (gB_l lq_cX0_leadersFrom (p := 27) (o := 42) rfl)
theorem dX0_leadersFrom_28 : decode cX0_leadersFrom 28 = .ok (.getfield 18, 3) := dc_180 (gB_l lq_cX0_leadersFrom (p := 28) (o := 180) rfl) (gB_l lq_cX0_leadersFrom (p := 29) (o := 0) rfl) (gB_l lq_cX0_leadersFrom (p := 30) (o := 18) rfl) rfl
theorem dX0_leadersFrom_31 : decode cX0_leadersFrom 31 = .ok (.iload_n 1, 1) := dc_27 (gB_l lq_cX0_leadersFrom (p := 31) (o := 27) rfl)
theorem dX0_leadersFrom_32 : decode cX0_leadersFrom 32 = .ok (.iload 5, 2) := dc_21 (gB_c lq_cX0_leadersFrom q1_cX0_leadersFrom 0 (o := 21) rfl) (gB_c lq_cX0_leadersFrom q1_cX0_leadersFrom 1 (o := 5) rfl)
theorem dX0_leadersFrom_34 : decode cX0_leadersFrom 34 = .ok (.iastore, 1) := dc_79 (gB_c lq_cX0_leadersFrom q1_cX0_leadersFrom 2 (o := 79) rfl)
theorem dX0_leadersFrom_35 : decode cX0_leadersFrom 35 = .ok (.aload_n 0, 1) := dc_42 (gB_c lq_cX0_leadersFrom q1_cX0_leadersFrom 3 (o := 42) rfl)
theorem dX0_leadersFrom_36 : decode cX0_leadersFrom 36 = .ok (.iload_n 1, 1) := dc_27 (gB_c lq_cX0_leadersFrom q1_cX0_leadersFrom 4 (o := 27) rfl)
theorem dX0_leadersFrom_37 : decode cX0_leadersFrom 37 = .ok (.iconst 1, 1) := dc_4 (gB_c lq_cX0_leadersFrom q1_cX0_leadersFrom 5 (o := 4) rfl)
theorem dX0_leadersFrom_38 : decode cX0_leadersFrom 38 = .ok (.iadd, 1) := dc_96 (gB_c lq_cX0_leadersFrom q1_cX0_leadersFrom 6 (o := 96) rfl)
theorem dX0_leadersFrom_39 : decode cX0_leadersFrom 39 = .ok (.iload_n 2, 1) := dc_28 (gB_c lq_cX0_leadersFrom q1_cX0_leadersFrom 7 (o := 28) rfl)
theorem dX0_leadersFrom_40 : decode cX0_leadersFrom 40 = .ok (.iconst 1, 1) := dc_4 (gB_c lq_cX0_leadersFrom q1_cX0_leadersFrom 8 (o := 4) rfl)
theorem dX0_leadersFrom_41 : decode cX0_leadersFrom 41 = .ok (.iload 5, 2) := dc_21 (gB_c lq_cX0_leadersFrom q1_cX0_leadersFrom 9 (o := 21) rfl) (gB_c lq_cX0_leadersFrom q1_cX0_leadersFrom 10 (o := 5) rfl)
theorem dX0_leadersFrom_43 : decode cX0_leadersFrom 43 = .ok (.ishl, 1) := dc_120 (gB_c lq_cX0_leadersFrom q1_cX0_leadersFrom 11 (o := 120) rfl)
theorem dX0_leadersFrom_44 : decode cX0_leadersFrom 44 = .ok (.ior, 1) := dc_128 (gB_c lq_cX0_leadersFrom q1_cX0_leadersFrom 12 (o := 128) rfl)
theorem dX0_leadersFrom_45 : decode cX0_leadersFrom 45 = .ok (.iload_n 3, 1) := dc_29 (gB_c lq_cX0_leadersFrom q1_cX0_leadersFrom 13 (o := 29) rfl)
theorem dX0_leadersFrom_46 : decode cX0_leadersFrom 46 = .ok (.invokevirtual 42, 3) := dc_182 (gB_c lq_cX0_leadersFrom q1_cX0_leadersFrom 14 (o := 182) rfl) (gB_c lq_cX0_leadersFrom q1_cX0_leadersFrom 15 (o := 0) rfl) (gB_c lq_cX0_leadersFrom q1_cX0_leadersFrom 16 (o := 42) rfl) rfl
theorem dX0_leadersFrom_49 : decode cX0_leadersFrom 49 = .ok (.ifCond .le 12, 3) := dc_158 (gB_c lq_cX0_leadersFrom q1_cX0_leadersFrom 17 (o := 158) rfl) (gB_c lq_cX0_leadersFrom q1_cX0_leadersFrom 18 (o := 0) rfl) (gB_c lq_cX0_leadersFrom q1_cX0_leadersFrom 19 (o := 12) rfl) rfl
theorem dX0_leadersFrom_52 : decode cX0_leadersFrom 52 = .ok (.iload 4, 2) := dc_21 (gB_c lq_cX0_leadersFrom q1_cX0_leadersFrom 20 (o := 21) rfl) (gB_c lq_cX0_leadersFrom q1_cX0_leadersFrom 21 (o := 4) rfl)
theorem dX0_leadersFrom_54 : decode cX0_leadersFrom 54 = .ok (.iconst 1, 1) := dc_4 (gB_c lq_cX0_leadersFrom q1_cX0_leadersFrom 22 (o := 4) rfl)
theorem dX0_leadersFrom_55 : decode cX0_leadersFrom 55 = .ok (.iload 5, 2) := dc_21 (gB_c lq_cX0_leadersFrom q1_cX0_leadersFrom 23 (o := 21) rfl) (gB_c lq_cX0_leadersFrom q1_cX0_leadersFrom 24 (o := 5) rfl)
theorem dX0_leadersFrom_57 : decode cX0_leadersFrom 57 = .ok (.ishl, 1) := dc_120 (gB_c lq_cX0_leadersFrom q1_cX0_leadersFrom 25 (o := 120) rfl)
theorem dX0_leadersFrom_58 : decode cX0_leadersFrom 58 = .ok (.ior, 1) := dc_128 (gB_c lq_cX0_leadersFrom q1_cX0_leadersFrom 26 (o := 128) rfl)
theorem dX0_leadersFrom_59 : decode cX0_leadersFrom 59 = .ok (.istore 4, 2) := dc_54 (gB_c lq_cX0_leadersFrom q1_cX0_leadersFrom 27 (o := 54) rfl) (gB_c lq_cX0_leadersFrom q1_cX0_leadersFrom 28 (o := 4) rfl)
theorem dX0_leadersFrom_61 : decode cX0_leadersFrom 61 = .ok (.iinc 5 1, 3) := dc_132 (gB_c lq_cX0_leadersFrom q1_cX0_leadersFrom 29 (o := 132) rfl) (gB_c lq_cX0_leadersFrom q1_cX0_leadersFrom 30 (o := 5) rfl) (gB_c lq_cX0_leadersFrom q1_cX0_leadersFrom 31 (o := 1) rfl) rfl
theorem dX0_leadersFrom_64 : decode cX0_leadersFrom 64 = .ok (.goto (-58), 3) := dc_167 (gB_c lq_cX0_leadersFrom q2_cX0_leadersFrom 0 (o := 167) rfl) (gB_c lq_cX0_leadersFrom q2_cX0_leadersFrom 1 (o := 255) rfl) (gB_c lq_cX0_leadersFrom q2_cX0_leadersFrom 2 (o := 198) rfl) rfl
theorem dX0_leadersFrom_67 : decode cX0_leadersFrom 67 = .ok (.iload 4, 2) := dc_21 (gB_c lq_cX0_leadersFrom q2_cX0_leadersFrom 3 (o := 21) rfl) (gB_c lq_cX0_leadersFrom q2_cX0_leadersFrom 4 (o := 4) rfl)
theorem dX0_leadersFrom_69 : decode cX0_leadersFrom 69 = .ok (.ireturn, 1) := dc_172 (gB_c lq_cX0_leadersFrom q2_cX0_leadersFrom 5 (o := 172) rfl)
abbrev r1_cX0_leastLimit : List Nat := [228, 42, 180, 0, 14, 180, 0, 55, 4, 100, 172]
def a0_cX0_leastLimit : List Nat := [3, 60, 27, 42, 180, 0, 14, 180, 0, 55, 4, 100, 162, 0, 21, 42, 3, 3, 27, 182, 0, 42, 158, 0, 5, 27, 172, 132, 1, 1, 167, 255]
abbrev r0_cX0_leastLimit : List Nat := a0_cX0_leastLimit ++ r1_cX0_leastLimit
theorem lq_cX0_leastLimit : (cX0_leastLimit).data.toList.map UInt8.toNat = r0_cX0_leastLimit := by decide +kernel
theorem q1_cX0_leastLimit : ∀ i, (r0_cX0_leastLimit)[32 + i]? = (r1_cX0_leastLimit)[i]? := chn (A := a0_cX0_leastLimit) (B := r1_cX0_leastLimit) (n := 0) (k := 32) rfl (ch0 (R := r0_cX0_leastLimit))
theorem dX0_leastLimit_0 : decode cX0_leastLimit 0 = .ok (.iconst 0, 1) := dc_3 (gB_l lq_cX0_leastLimit (p := 0) (o := 3) rfl)
theorem dX0_leastLimit_1 : decode cX0_leastLimit 1 = .ok (.istore_n 1, 1) := dc_60 (gB_l lq_cX0_leastLimit (p := 1) (o := 60) rfl)
theorem dX0_leastLimit_2 : decode cX0_leastLimit 2 = .ok (.iload_n 1, 1) := dc_27 (gB_l lq_cX0_leastLimit (p := 2) (o := 27) rfl)
theorem dX0_leastLimit_3 : decode cX0_leastLimit 3 = .ok (.aload_n 0, 1) := dc_42 (gB_l lq_cX0_leastLimit (p := 3) (o := 42) rfl)
theorem dX0_leastLimit_4 : decode cX0_leastLimit 4 = .ok (.getfield 14, 3) := dc_180 (gB_l lq_cX0_leastLimit (p := 4) (o := 180) rfl) (gB_l lq_cX0_leastLimit (p := 5) (o := 0) rfl) (gB_l lq_cX0_leastLimit (p := 6) (o := 14) rfl) rfl
theorem dX0_leastLimit_7 : decode cX0_leastLimit 7 = .ok (.getfield 55, 3) := dc_180 (gB_l lq_cX0_leastLimit (p := 7) (o := 180) rfl) (gB_l lq_cX0_leastLimit (p := 8) (o := 0) rfl) (gB_l lq_cX0_leastLimit (p := 9) (o := 55) rfl) rfl
theorem dX0_leastLimit_10 : decode cX0_leastLimit 10 = .ok (.iconst 1, 1) := dc_4 (gB_l lq_cX0_leastLimit (p := 10) (o := 4) rfl)
theorem dX0_leastLimit_11 : decode cX0_leastLimit 11 = .ok (.isub, 1) := dc_100 (gB_l lq_cX0_leastLimit (p := 11) (o := 100) rfl)
theorem dX0_leastLimit_12 : decode cX0_leastLimit 12 = .ok (.if_icmp .ge 21, 3) := dc_162 (gB_l lq_cX0_leastLimit (p := 12) (o := 162) rfl) (gB_l lq_cX0_leastLimit (p := 13) (o := 0) rfl) (gB_l lq_cX0_leastLimit (p := 14) (o := 21) rfl) rfl
theorem dX0_leastLimit_15 : decode cX0_leastLimit 15 = .ok (.aload_n 0, 1) := dc_42 (gB_l lq_cX0_leastLimit (p := 15) (o := 42) rfl)
theorem dX0_leastLimit_16 : decode cX0_leastLimit 16 = .ok (.iconst 0, 1) := dc_3 (gB_l lq_cX0_leastLimit (p := 16) (o := 3) rfl)
theorem dX0_leastLimit_17 : decode cX0_leastLimit 17 = .ok (.iconst 0, 1) := dc_3 (gB_l lq_cX0_leastLimit (p := 17) (o := 3) rfl)
theorem dX0_leastLimit_18 : decode cX0_leastLimit 18 = .ok (.iload_n 1, 1) := dc_27 (gB_l lq_cX0_leastLimit (p := 18) (o := 27) rfl)
theorem dX0_leastLimit_19 : decode cX0_leastLimit 19 = .ok (.invokevirtual 42, 3) := dc_182 (gB_l lq_cX0_leastLimit (p := 19) (o := 182) rfl) (gB_l lq_cX0_leastLimit (p := 20) (o := 0) rfl) (gB_l lq_cX0_leastLimit (p := 21) (o := 42) rfl) rfl
theorem dX0_leastLimit_22 : decode cX0_leastLimit 22 = .ok (.ifCond .le 5, 3) := dc_158 (gB_l lq_cX0_leastLimit (p := 22) (o := 158) rfl) (gB_l lq_cX0_leastLimit (p := 23) (o := 0) rfl) (gB_l lq_cX0_leastLimit (p := 24) (o := 5) rfl) rfl
theorem dX0_leastLimit_25 : decode cX0_leastLimit 25 = .ok (.iload_n 1, 1) := dc_27 (gB_l lq_cX0_leastLimit (p := 25) (o := 27) rfl)
theorem dX0_leastLimit_26 : decode cX0_leastLimit 26 = .ok (.ireturn, 1) := dc_172 (gB_l lq_cX0_leastLimit (p := 26) (o := 172) rfl)
theorem dX0_leastLimit_27 : decode cX0_leastLimit 27 = .ok (.iinc 1 1, 3) := dc_132 (gB_l lq_cX0_leastLimit (p := 27) (o := 132) rfl) (gB_l lq_cX0_leastLimit (p := 28) (o := 1) rfl) (gB_l lq_cX0_leastLimit (p := 29) (o := 1) rfl) rfl
theorem dX0_leastLimit_30 : decode cX0_leastLimit 30 = .ok (.goto (-28), 3) := dc_167 (gB_l lq_cX0_leastLimit (p := 30) (o := 167) rfl) (gB_l lq_cX0_leastLimit (p := 31) (o := 255) rfl) (gB_c lq_cX0_leastLimit q1_cX0_leastLimit 0 (o := 228) rfl) rfl
theorem dX0_leastLimit_33 : decode cX0_leastLimit 33 = .ok (.aload_n 0, 1) := dc_42 (gB_c lq_cX0_leastLimit q1_cX0_leastLimit 1 (o := 42) rfl)
theorem dX0_leastLimit_34 : decode cX0_leastLimit 34 = .ok (.getfield 14, 3) := dc_180 (gB_c lq_cX0_leastLimit q1_cX0_leastLimit 2 (o := 180) rfl) (gB_c lq_cX0_leastLimit q1_cX0_leastLimit 3 (o := 0) rfl) (gB_c lq_cX0_leastLimit q1_cX0_leastLimit 4 (o := 14) rfl) rfl
theorem dX0_leastLimit_37 : decode cX0_leastLimit 37 = .ok (.getfield 55, 3) := dc_180 (gB_c lq_cX0_leastLimit q1_cX0_leastLimit 5 (o := 180) rfl) (gB_c lq_cX0_leastLimit q1_cX0_leastLimit 6 (o := 0) rfl) (gB_c lq_cX0_leastLimit q1_cX0_leastLimit 7 (o := 55) rfl) rfl
theorem dX0_leastLimit_40 : decode cX0_leastLimit 40 = .ok (.iconst 1, 1) := dc_4 (gB_c lq_cX0_leastLimit q1_cX0_leastLimit 8 (o := 4) rfl)
theorem dX0_leastLimit_41 : decode cX0_leastLimit 41 = .ok (.isub, 1) := dc_100 (gB_c lq_cX0_leastLimit q1_cX0_leastLimit 9 (o := 100) rfl)
theorem dX0_leastLimit_42 : decode cX0_leastLimit 42 = .ok (.ireturn, 1) := dc_172 (gB_c lq_cX0_leastLimit q1_cX0_leastLimit 10 (o := 172) rfl)
abbrev r4_cX0_rowsFrom : List Nat := [79, 42, 180, 0, 25, 21, 5, 21, 6, 79, 21, 6, 172]
def a3_cX0_rowsFrom : List Nat := [6, 42, 27, 4, 96, 28, 4, 21, 7, 120, 128, 29, 182, 0, 42, 96, 54, 6, 132, 7, 1, 167, 255, 205, 42, 180, 0, 22, 21, 5, 21, 4]
abbrev r3_cX0_rowsFrom : List Nat := a3_cX0_rowsFrom ++ r4_cX0_rowsFrom
def a2_cX0_rowsFrom : List Nat := [54, 7, 21, 7, 42, 180, 0, 14, 180, 0, 55, 162, 0, 45, 28, 21, 7, 122, 4, 126, 154, 0, 30, 42, 180, 0, 18, 27, 21, 7, 79, 21]
abbrev r2_cX0_rowsFrom : List Nat := a2_cX0_rowsFrom ++ r3_cX0_rowsFrom
def a1_cX0_rowsFrom : List Nat := [18, 89, 104, 16, 20, 124, 54, 5, 42, 180, 0, 22, 21, 5, 46, 21, 4, 160, 0, 11, 42, 180, 0, 25, 21, 5, 46, 172, 3, 54, 6, 3]
abbrev r1_cX0_rowsFrom : List Nat := a1_cX0_rowsFrom ++ r2_cX0_rowsFrom
def a0_cX0_rowsFrom : List Nat := [27, 42, 180, 0, 14, 180, 0, 55, 161, 0, 5, 4, 172, 42, 27, 28, 29, 182, 0, 86, 54, 4, 21, 4, 2, 160, 0, 5, 3, 172, 21, 4]
abbrev r0_cX0_rowsFrom : List Nat := a0_cX0_rowsFrom ++ r1_cX0_rowsFrom
theorem lq_cX0_rowsFrom : (cX0_rowsFrom).data.toList.map UInt8.toNat = r0_cX0_rowsFrom := by decide +kernel
theorem q1_cX0_rowsFrom : ∀ i, (r0_cX0_rowsFrom)[32 + i]? = (r1_cX0_rowsFrom)[i]? := chn (A := a0_cX0_rowsFrom) (B := r1_cX0_rowsFrom) (n := 0) (k := 32) rfl (ch0 (R := r0_cX0_rowsFrom))
theorem q2_cX0_rowsFrom : ∀ i, (r0_cX0_rowsFrom)[64 + i]? = (r2_cX0_rowsFrom)[i]? := chn (A := a1_cX0_rowsFrom) (B := r2_cX0_rowsFrom) (n := 32) (k := 32) rfl q1_cX0_rowsFrom
theorem q3_cX0_rowsFrom : ∀ i, (r0_cX0_rowsFrom)[96 + i]? = (r3_cX0_rowsFrom)[i]? := chn (A := a2_cX0_rowsFrom) (B := r3_cX0_rowsFrom) (n := 64) (k := 32) rfl q2_cX0_rowsFrom
theorem q4_cX0_rowsFrom : ∀ i, (r0_cX0_rowsFrom)[128 + i]? = (r4_cX0_rowsFrom)[i]? := chn (A := a3_cX0_rowsFrom) (B := r4_cX0_rowsFrom) (n := 96) (k := 32) rfl q3_cX0_rowsFrom
theorem dX0_rowsFrom_0 : decode cX0_rowsFrom 0 = .ok (.iload_n 1, 1) := dc_27 (gB_l lq_cX0_rowsFrom (p := 0) (o := 27) rfl)
theorem dX0_rowsFrom_1 : decode cX0_rowsFrom 1 = .ok (.aload_n 0, 1) := dc_42 (gB_l lq_cX0_rowsFrom (p := 1) (o := 42) rfl)
theorem dX0_rowsFrom_2 : decode cX0_rowsFrom 2 = .ok (.getfield 14, 3) := dc_180 (gB_l lq_cX0_rowsFrom (p := 2) (o := 180) rfl) (gB_l lq_cX0_rowsFrom (p := 3) (o := 0) rfl) (gB_l lq_cX0_rowsFrom (p := 4) (o := 14) rfl) rfl
theorem dX0_rowsFrom_5 : decode cX0_rowsFrom 5 = .ok (.getfield 55, 3) := dc_180 (gB_l lq_cX0_rowsFrom (p := 5) (o := 180) rfl) (gB_l lq_cX0_rowsFrom (p := 6) (o := 0) rfl) (gB_l lq_cX0_rowsFrom (p := 7) (o := 55) rfl) rfl
theorem dX0_rowsFrom_8 : decode cX0_rowsFrom 8 = .ok (.if_icmp .lt 5, 3) := dc_161 (gB_l lq_cX0_rowsFrom (p := 8) (o := 161) rfl) (gB_l lq_cX0_rowsFrom (p := 9) (o := 0) rfl) (gB_l lq_cX0_rowsFrom (p := 10) (o := 5) rfl) rfl
theorem dX0_rowsFrom_11 : decode cX0_rowsFrom 11 = .ok (.iconst 1, 1) := dc_4 (gB_l lq_cX0_rowsFrom (p := 11) (o := 4) rfl)
theorem dX0_rowsFrom_12 : decode cX0_rowsFrom 12 = .ok (.ireturn, 1) := dc_172 (gB_l lq_cX0_rowsFrom (p := 12) (o := 172) rfl)
theorem dX0_rowsFrom_13 : decode cX0_rowsFrom 13 = .ok (.aload_n 0, 1) := dc_42 (gB_l lq_cX0_rowsFrom (p := 13) (o := 42) rfl)
theorem dX0_rowsFrom_14 : decode cX0_rowsFrom 14 = .ok (.iload_n 1, 1) := dc_27 (gB_l lq_cX0_rowsFrom (p := 14) (o := 27) rfl)
theorem dX0_rowsFrom_15 : decode cX0_rowsFrom 15 = .ok (.iload_n 2, 1) := dc_28 (gB_l lq_cX0_rowsFrom (p := 15) (o := 28) rfl)
theorem dX0_rowsFrom_16 : decode cX0_rowsFrom 16 = .ok (.iload_n 3, 1) := dc_29 (gB_l lq_cX0_rowsFrom (p := 16) (o := 29) rfl)
theorem dX0_rowsFrom_17 : decode cX0_rowsFrom 17 = .ok (.invokevirtual 86, 3) := dc_182 (gB_l lq_cX0_rowsFrom (p := 17) (o := 182) rfl) (gB_l lq_cX0_rowsFrom (p := 18) (o := 0) rfl) (gB_l lq_cX0_rowsFrom (p := 19) (o := 86) rfl) rfl
theorem dX0_rowsFrom_20 : decode cX0_rowsFrom 20 = .ok (.istore 4, 2) := dc_54 (gB_l lq_cX0_rowsFrom (p := 20) (o := 54) rfl) (gB_l lq_cX0_rowsFrom (p := 21) (o := 4) rfl)
theorem dX0_rowsFrom_22 : decode cX0_rowsFrom 22 = .ok (.iload 4, 2) := dc_21 (gB_l lq_cX0_rowsFrom (p := 22) (o := 21) rfl) (gB_l lq_cX0_rowsFrom (p := 23) (o := 4) rfl)
theorem dX0_rowsFrom_24 : decode cX0_rowsFrom 24 = .ok (.iconst (-1), 1) := dc_2 (gB_l lq_cX0_rowsFrom (p := 24) (o := 2) rfl)
theorem dX0_rowsFrom_25 : decode cX0_rowsFrom 25 = .ok (.if_icmp .ne 5, 3) := dc_160 (gB_l lq_cX0_rowsFrom (p := 25) (o := 160) rfl) (gB_l lq_cX0_rowsFrom (p := 26) (o := 0) rfl) (gB_l lq_cX0_rowsFrom (p := 27) (o := 5) rfl) rfl
theorem dX0_rowsFrom_28 : decode cX0_rowsFrom 28 = .ok (.iconst 0, 1) := dc_3 (gB_l lq_cX0_rowsFrom (p := 28) (o := 3) rfl)
theorem dX0_rowsFrom_29 : decode cX0_rowsFrom 29 = .ok (.ireturn, 1) := dc_172 (gB_l lq_cX0_rowsFrom (p := 29) (o := 172) rfl)
theorem dX0_rowsFrom_30 : decode cX0_rowsFrom 30 = .ok (.iload 4, 2) := dc_21 (gB_l lq_cX0_rowsFrom (p := 30) (o := 21) rfl) (gB_l lq_cX0_rowsFrom (p := 31) (o := 4) rfl)
theorem dX0_rowsFrom_32 : decode cX0_rowsFrom 32 = .ok (.ldc 89, 2) := dc_18 (gB_c lq_cX0_rowsFrom q1_cX0_rowsFrom 0 (o := 18) rfl) (gB_c lq_cX0_rowsFrom q1_cX0_rowsFrom 1 (o := 89) rfl)
theorem dX0_rowsFrom_34 : decode cX0_rowsFrom 34 = .ok (.imul, 1) := dc_104 (gB_c lq_cX0_rowsFrom q1_cX0_rowsFrom 2 (o := 104) rfl)
theorem dX0_rowsFrom_35 : decode cX0_rowsFrom 35 = .ok (.bipush 20, 2) := dc_16 (gB_c lq_cX0_rowsFrom q1_cX0_rowsFrom 3 (o := 16) rfl) (gB_c lq_cX0_rowsFrom q1_cX0_rowsFrom 4 (o := 20) rfl) rfl
theorem dX0_rowsFrom_37 : decode cX0_rowsFrom 37 = .ok (.iushr, 1) := dc_124 (gB_c lq_cX0_rowsFrom q1_cX0_rowsFrom 5 (o := 124) rfl)
theorem dX0_rowsFrom_38 : decode cX0_rowsFrom 38 = .ok (.istore 5, 2) := dc_54 (gB_c lq_cX0_rowsFrom q1_cX0_rowsFrom 6 (o := 54) rfl) (gB_c lq_cX0_rowsFrom q1_cX0_rowsFrom 7 (o := 5) rfl)
theorem dX0_rowsFrom_40 : decode cX0_rowsFrom 40 = .ok (.aload_n 0, 1) := dc_42 (gB_c lq_cX0_rowsFrom q1_cX0_rowsFrom 8 (o := 42) rfl)
theorem dX0_rowsFrom_41 : decode cX0_rowsFrom 41 = .ok (.getfield 22, 3) := dc_180 (gB_c lq_cX0_rowsFrom q1_cX0_rowsFrom 9 (o := 180) rfl) (gB_c lq_cX0_rowsFrom q1_cX0_rowsFrom 10 (o := 0) rfl) (gB_c lq_cX0_rowsFrom q1_cX0_rowsFrom 11 (o := 22) rfl) rfl
theorem dX0_rowsFrom_44 : decode cX0_rowsFrom 44 = .ok (.iload 5, 2) := dc_21 (gB_c lq_cX0_rowsFrom q1_cX0_rowsFrom 12 (o := 21) rfl) (gB_c lq_cX0_rowsFrom q1_cX0_rowsFrom 13 (o := 5) rfl)
theorem dX0_rowsFrom_46 : decode cX0_rowsFrom 46 = .ok (.iaload, 1) := dc_46 (gB_c lq_cX0_rowsFrom q1_cX0_rowsFrom 14 (o := 46) rfl)
theorem dX0_rowsFrom_47 : decode cX0_rowsFrom 47 = .ok (.iload 4, 2) := dc_21 (gB_c lq_cX0_rowsFrom q1_cX0_rowsFrom 15 (o := 21) rfl) (gB_c lq_cX0_rowsFrom q1_cX0_rowsFrom 16 (o := 4) rfl)
theorem dX0_rowsFrom_49 : decode cX0_rowsFrom 49 = .ok (.if_icmp .ne 11, 3) := dc_160 (gB_c lq_cX0_rowsFrom q1_cX0_rowsFrom 17 (o := 160) rfl) (gB_c lq_cX0_rowsFrom q1_cX0_rowsFrom 18 (o := 0) rfl) (gB_c lq_cX0_rowsFrom q1_cX0_rowsFrom 19 (o := 11) rfl) rfl
theorem dX0_rowsFrom_52 : decode cX0_rowsFrom 52 = .ok (.aload_n 0, 1) := dc_42 (gB_c lq_cX0_rowsFrom q1_cX0_rowsFrom 20 (o := 42) rfl)
theorem dX0_rowsFrom_53 : decode cX0_rowsFrom 53 = .ok (.getfield 25, 3) := dc_180 (gB_c lq_cX0_rowsFrom q1_cX0_rowsFrom 21 (o := 180) rfl) (gB_c lq_cX0_rowsFrom q1_cX0_rowsFrom 22 (o := 0) rfl) (gB_c lq_cX0_rowsFrom q1_cX0_rowsFrom 23 (o := 25) rfl) rfl
theorem dX0_rowsFrom_56 : decode cX0_rowsFrom 56 = .ok (.iload 5, 2) := dc_21 (gB_c lq_cX0_rowsFrom q1_cX0_rowsFrom 24 (o := 21) rfl) (gB_c lq_cX0_rowsFrom q1_cX0_rowsFrom 25 (o := 5) rfl)
theorem dX0_rowsFrom_58 : decode cX0_rowsFrom 58 = .ok (.iaload, 1) := dc_46 (gB_c lq_cX0_rowsFrom q1_cX0_rowsFrom 26 (o := 46) rfl)
theorem dX0_rowsFrom_59 : decode cX0_rowsFrom 59 = .ok (.ireturn, 1) := dc_172 (gB_c lq_cX0_rowsFrom q1_cX0_rowsFrom 27 (o := 172) rfl)
theorem dX0_rowsFrom_60 : decode cX0_rowsFrom 60 = .ok (.iconst 0, 1) := dc_3 (gB_c lq_cX0_rowsFrom q1_cX0_rowsFrom 28 (o := 3) rfl)
theorem dX0_rowsFrom_61 : decode cX0_rowsFrom 61 = .ok (.istore 6, 2) := dc_54 (gB_c lq_cX0_rowsFrom q1_cX0_rowsFrom 29 (o := 54) rfl) (gB_c lq_cX0_rowsFrom q1_cX0_rowsFrom 30 (o := 6) rfl)
theorem dX0_rowsFrom_63 : decode cX0_rowsFrom 63 = .ok (.iconst 0, 1) := dc_3 (gB_c lq_cX0_rowsFrom q1_cX0_rowsFrom 31 (o := 3) rfl)
theorem dX0_rowsFrom_64 : decode cX0_rowsFrom 64 = .ok (.istore 7, 2) := dc_54 (gB_c lq_cX0_rowsFrom q2_cX0_rowsFrom 0 (o := 54) rfl) (gB_c lq_cX0_rowsFrom q2_cX0_rowsFrom 1 (o := 7) rfl)
theorem dX0_rowsFrom_66 : decode cX0_rowsFrom 66 = .ok (.iload 7, 2) := dc_21 (gB_c lq_cX0_rowsFrom q2_cX0_rowsFrom 2 (o := 21) rfl) (gB_c lq_cX0_rowsFrom q2_cX0_rowsFrom 3 (o := 7) rfl)
theorem dX0_rowsFrom_68 : decode cX0_rowsFrom 68 = .ok (.aload_n 0, 1) := dc_42 (gB_c lq_cX0_rowsFrom q2_cX0_rowsFrom 4 (o := 42) rfl)
theorem dX0_rowsFrom_69 : decode cX0_rowsFrom 69 = .ok (.getfield 14, 3) := dc_180 (gB_c lq_cX0_rowsFrom q2_cX0_rowsFrom 5 (o := 180) rfl) (gB_c lq_cX0_rowsFrom q2_cX0_rowsFrom 6 (o := 0) rfl) (gB_c lq_cX0_rowsFrom q2_cX0_rowsFrom 7 (o := 14) rfl) rfl
theorem dX0_rowsFrom_72 : decode cX0_rowsFrom 72 = .ok (.getfield 55, 3) := dc_180 (gB_c lq_cX0_rowsFrom q2_cX0_rowsFrom 8 (o := 180) rfl) (gB_c lq_cX0_rowsFrom q2_cX0_rowsFrom 9 (o := 0) rfl) (gB_c lq_cX0_rowsFrom q2_cX0_rowsFrom 10 (o := 55) rfl) rfl
theorem dX0_rowsFrom_75 : decode cX0_rowsFrom 75 = .ok (.if_icmp .ge 45, 3) := dc_162 (gB_c lq_cX0_rowsFrom q2_cX0_rowsFrom 11 (o := 162) rfl) (gB_c lq_cX0_rowsFrom q2_cX0_rowsFrom 12 (o := 0) rfl) (gB_c lq_cX0_rowsFrom q2_cX0_rowsFrom 13 (o := 45) rfl) rfl
theorem dX0_rowsFrom_78 : decode cX0_rowsFrom 78 = .ok (.iload_n 2, 1) := dc_28 (gB_c lq_cX0_rowsFrom q2_cX0_rowsFrom 14 (o := 28) rfl)
theorem dX0_rowsFrom_79 : decode cX0_rowsFrom 79 = .ok (.iload 7, 2) := dc_21 (gB_c lq_cX0_rowsFrom q2_cX0_rowsFrom 15 (o := 21) rfl) (gB_c lq_cX0_rowsFrom q2_cX0_rowsFrom 16 (o := 7) rfl)
theorem dX0_rowsFrom_81 : decode cX0_rowsFrom 81 = .ok (.ishr, 1) := dc_122 (gB_c lq_cX0_rowsFrom q2_cX0_rowsFrom 17 (o := 122) rfl)
theorem dX0_rowsFrom_82 : decode cX0_rowsFrom 82 = .ok (.iconst 1, 1) := dc_4 (gB_c lq_cX0_rowsFrom q2_cX0_rowsFrom 18 (o := 4) rfl)
theorem dX0_rowsFrom_83 : decode cX0_rowsFrom 83 = .ok (.iand, 1) := dc_126 (gB_c lq_cX0_rowsFrom q2_cX0_rowsFrom 19 (o := 126) rfl)
theorem dX0_rowsFrom_84 : decode cX0_rowsFrom 84 = .ok (.ifCond .ne 30, 3) := dc_154 (gB_c lq_cX0_rowsFrom q2_cX0_rowsFrom 20 (o := 154) rfl) (gB_c lq_cX0_rowsFrom q2_cX0_rowsFrom 21 (o := 0) rfl) (gB_c lq_cX0_rowsFrom q2_cX0_rowsFrom 22 (o := 30) rfl) rfl
theorem dX0_rowsFrom_87 : decode cX0_rowsFrom 87 = .ok (.aload_n 0, 1) := dc_42 (gB_c lq_cX0_rowsFrom q2_cX0_rowsFrom 23 (o := 42) rfl)
theorem dX0_rowsFrom_88 : decode cX0_rowsFrom 88 = .ok (.getfield 18, 3) := dc_180 (gB_c lq_cX0_rowsFrom q2_cX0_rowsFrom 24 (o := 180) rfl) (gB_c lq_cX0_rowsFrom q2_cX0_rowsFrom 25 (o := 0) rfl) (gB_c lq_cX0_rowsFrom q2_cX0_rowsFrom 26 (o := 18) rfl) rfl
theorem dX0_rowsFrom_91 : decode cX0_rowsFrom 91 = .ok (.iload_n 1, 1) := dc_27 (gB_c lq_cX0_rowsFrom q2_cX0_rowsFrom 27 (o := 27) rfl)
theorem dX0_rowsFrom_92 : decode cX0_rowsFrom 92 = .ok (.iload 7, 2) := dc_21 (gB_c lq_cX0_rowsFrom q2_cX0_rowsFrom 28 (o := 21) rfl) (gB_c lq_cX0_rowsFrom q2_cX0_rowsFrom 29 (o := 7) rfl)
theorem dX0_rowsFrom_94 : decode cX0_rowsFrom 94 = .ok (.iastore, 1) := dc_79 (gB_c lq_cX0_rowsFrom q2_cX0_rowsFrom 30 (o := 79) rfl)
theorem dX0_rowsFrom_95 : decode cX0_rowsFrom 95 = .ok (.iload 6, 2) := dc_21 (gB_c lq_cX0_rowsFrom q2_cX0_rowsFrom 31 (o := 21) rfl) (gB_c lq_cX0_rowsFrom q3_cX0_rowsFrom 0 (o := 6) rfl)
theorem dX0_rowsFrom_97 : decode cX0_rowsFrom 97 = .ok (.aload_n 0, 1) := dc_42 (gB_c lq_cX0_rowsFrom q3_cX0_rowsFrom 1 (o := 42) rfl)
theorem dX0_rowsFrom_98 : decode cX0_rowsFrom 98 = .ok (.iload_n 1, 1) := dc_27 (gB_c lq_cX0_rowsFrom q3_cX0_rowsFrom 2 (o := 27) rfl)
theorem dX0_rowsFrom_99 : decode cX0_rowsFrom 99 = .ok (.iconst 1, 1) := dc_4 (gB_c lq_cX0_rowsFrom q3_cX0_rowsFrom 3 (o := 4) rfl)
theorem dX0_rowsFrom_100 : decode cX0_rowsFrom 100 = .ok (.iadd, 1) := dc_96 (gB_c lq_cX0_rowsFrom q3_cX0_rowsFrom 4 (o := 96) rfl)
theorem dX0_rowsFrom_101 : decode cX0_rowsFrom 101 = .ok (.iload_n 2, 1) := dc_28 (gB_c lq_cX0_rowsFrom q3_cX0_rowsFrom 5 (o := 28) rfl)
theorem dX0_rowsFrom_102 : decode cX0_rowsFrom 102 = .ok (.iconst 1, 1) := dc_4 (gB_c lq_cX0_rowsFrom q3_cX0_rowsFrom 6 (o := 4) rfl)
theorem dX0_rowsFrom_103 : decode cX0_rowsFrom 103 = .ok (.iload 7, 2) := dc_21 (gB_c lq_cX0_rowsFrom q3_cX0_rowsFrom 7 (o := 21) rfl) (gB_c lq_cX0_rowsFrom q3_cX0_rowsFrom 8 (o := 7) rfl)
theorem dX0_rowsFrom_105 : decode cX0_rowsFrom 105 = .ok (.ishl, 1) := dc_120 (gB_c lq_cX0_rowsFrom q3_cX0_rowsFrom 9 (o := 120) rfl)
theorem dX0_rowsFrom_106 : decode cX0_rowsFrom 106 = .ok (.ior, 1) := dc_128 (gB_c lq_cX0_rowsFrom q3_cX0_rowsFrom 10 (o := 128) rfl)
theorem dX0_rowsFrom_107 : decode cX0_rowsFrom 107 = .ok (.iload_n 3, 1) := dc_29 (gB_c lq_cX0_rowsFrom q3_cX0_rowsFrom 11 (o := 29) rfl)
theorem dX0_rowsFrom_108 : decode cX0_rowsFrom 108 = .ok (.invokevirtual 42, 3) := dc_182 (gB_c lq_cX0_rowsFrom q3_cX0_rowsFrom 12 (o := 182) rfl) (gB_c lq_cX0_rowsFrom q3_cX0_rowsFrom 13 (o := 0) rfl) (gB_c lq_cX0_rowsFrom q3_cX0_rowsFrom 14 (o := 42) rfl) rfl
theorem dX0_rowsFrom_111 : decode cX0_rowsFrom 111 = .ok (.iadd, 1) := dc_96 (gB_c lq_cX0_rowsFrom q3_cX0_rowsFrom 15 (o := 96) rfl)
theorem dX0_rowsFrom_112 : decode cX0_rowsFrom 112 = .ok (.istore 6, 2) := dc_54 (gB_c lq_cX0_rowsFrom q3_cX0_rowsFrom 16 (o := 54) rfl) (gB_c lq_cX0_rowsFrom q3_cX0_rowsFrom 17 (o := 6) rfl)
theorem dX0_rowsFrom_114 : decode cX0_rowsFrom 114 = .ok (.iinc 7 1, 3) := dc_132 (gB_c lq_cX0_rowsFrom q3_cX0_rowsFrom 18 (o := 132) rfl) (gB_c lq_cX0_rowsFrom q3_cX0_rowsFrom 19 (o := 7) rfl) (gB_c lq_cX0_rowsFrom q3_cX0_rowsFrom 20 (o := 1) rfl) rfl
theorem dX0_rowsFrom_117 : decode cX0_rowsFrom 117 = .ok (.goto (-51), 3) := dc_167 (gB_c lq_cX0_rowsFrom q3_cX0_rowsFrom 21 (o := 167) rfl) (gB_c lq_cX0_rowsFrom q3_cX0_rowsFrom 22 (o := 255) rfl) (gB_c lq_cX0_rowsFrom q3_cX0_rowsFrom 23 (o := 205) rfl) rfl
theorem dX0_rowsFrom_120 : decode cX0_rowsFrom 120 = .ok (.aload_n 0, 1) := dc_42 (gB_c lq_cX0_rowsFrom q3_cX0_rowsFrom 24 (o := 42) rfl)
theorem dX0_rowsFrom_121 : decode cX0_rowsFrom 121 = .ok (.getfield 22, 3) := dc_180 (gB_c lq_cX0_rowsFrom q3_cX0_rowsFrom 25 (o := 180) rfl) (gB_c lq_cX0_rowsFrom q3_cX0_rowsFrom 26 (o := 0) rfl) (gB_c lq_cX0_rowsFrom q3_cX0_rowsFrom 27 (o := 22) rfl) rfl
theorem dX0_rowsFrom_124 : decode cX0_rowsFrom 124 = .ok (.iload 5, 2) := dc_21 (gB_c lq_cX0_rowsFrom q3_cX0_rowsFrom 28 (o := 21) rfl) (gB_c lq_cX0_rowsFrom q3_cX0_rowsFrom 29 (o := 5) rfl)
theorem dX0_rowsFrom_126 : decode cX0_rowsFrom 126 = .ok (.iload 4, 2) := dc_21 (gB_c lq_cX0_rowsFrom q3_cX0_rowsFrom 30 (o := 21) rfl) (gB_c lq_cX0_rowsFrom q3_cX0_rowsFrom 31 (o := 4) rfl)
theorem dX0_rowsFrom_128 : decode cX0_rowsFrom 128 = .ok (.iastore, 1) := dc_79 (gB_c lq_cX0_rowsFrom q4_cX0_rowsFrom 0 (o := 79) rfl)
theorem dX0_rowsFrom_129 : decode cX0_rowsFrom 129 = .ok (.aload_n 0, 1) := dc_42 (gB_c lq_cX0_rowsFrom q4_cX0_rowsFrom 1 (o := 42) rfl)
theorem dX0_rowsFrom_130 : decode cX0_rowsFrom 130 = .ok (.getfield 25, 3) := dc_180 (gB_c lq_cX0_rowsFrom q4_cX0_rowsFrom 2 (o := 180) rfl) (gB_c lq_cX0_rowsFrom q4_cX0_rowsFrom 3 (o := 0) rfl) (gB_c lq_cX0_rowsFrom q4_cX0_rowsFrom 4 (o := 25) rfl) rfl
theorem dX0_rowsFrom_133 : decode cX0_rowsFrom 133 = .ok (.iload 5, 2) := dc_21 (gB_c lq_cX0_rowsFrom q4_cX0_rowsFrom 5 (o := 21) rfl) (gB_c lq_cX0_rowsFrom q4_cX0_rowsFrom 6 (o := 5) rfl)
theorem dX0_rowsFrom_135 : decode cX0_rowsFrom 135 = .ok (.iload 6, 2) := dc_21 (gB_c lq_cX0_rowsFrom q4_cX0_rowsFrom 7 (o := 21) rfl) (gB_c lq_cX0_rowsFrom q4_cX0_rowsFrom 8 (o := 6) rfl)
theorem dX0_rowsFrom_137 : decode cX0_rowsFrom 137 = .ok (.iastore, 1) := dc_79 (gB_c lq_cX0_rowsFrom q4_cX0_rowsFrom 9 (o := 79) rfl)
theorem dX0_rowsFrom_138 : decode cX0_rowsFrom 138 = .ok (.iload 6, 2) := dc_21 (gB_c lq_cX0_rowsFrom q4_cX0_rowsFrom 10 (o := 21) rfl) (gB_c lq_cX0_rowsFrom q4_cX0_rowsFrom 11 (o := 6) rfl)
theorem dX0_rowsFrom_140 : decode cX0_rowsFrom 140 = .ok (.ireturn, 1) := dc_172 (gB_c lq_cX0_rowsFrom q4_cX0_rowsFrom 12 (o := 172) rfl)
abbrev r0_cX0_rowsWithin : List Nat := [42, 43, 182, 0, 28, 42, 3, 3, 28, 42, 180, 0, 14, 180, 0, 55, 4, 100, 184, 0, 67, 182, 0, 42, 172]
theorem lq_cX0_rowsWithin : (cX0_rowsWithin).data.toList.map UInt8.toNat = r0_cX0_rowsWithin := by decide +kernel
theorem dX0_rowsWithin_0 : decode cX0_rowsWithin 0 = .ok (.aload_n 0, 1) := dc_42 (gB_l lq_cX0_rowsWithin (p := 0) (o := 42) rfl)
theorem dX0_rowsWithin_1 : decode cX0_rowsWithin 1 = .ok (.aload_n 1, 1) := dc_43 (gB_l lq_cX0_rowsWithin (p := 1) (o := 43) rfl)
theorem dX0_rowsWithin_2 : decode cX0_rowsWithin 2 = .ok (.invokevirtual 28, 3) := dc_182 (gB_l lq_cX0_rowsWithin (p := 2) (o := 182) rfl) (gB_l lq_cX0_rowsWithin (p := 3) (o := 0) rfl) (gB_l lq_cX0_rowsWithin (p := 4) (o := 28) rfl) rfl
theorem dX0_rowsWithin_5 : decode cX0_rowsWithin 5 = .ok (.aload_n 0, 1) := dc_42 (gB_l lq_cX0_rowsWithin (p := 5) (o := 42) rfl)
theorem dX0_rowsWithin_6 : decode cX0_rowsWithin 6 = .ok (.iconst 0, 1) := dc_3 (gB_l lq_cX0_rowsWithin (p := 6) (o := 3) rfl)
theorem dX0_rowsWithin_7 : decode cX0_rowsWithin 7 = .ok (.iconst 0, 1) := dc_3 (gB_l lq_cX0_rowsWithin (p := 7) (o := 3) rfl)
theorem dX0_rowsWithin_8 : decode cX0_rowsWithin 8 = .ok (.iload_n 2, 1) := dc_28 (gB_l lq_cX0_rowsWithin (p := 8) (o := 28) rfl)
theorem dX0_rowsWithin_9 : decode cX0_rowsWithin 9 = .ok (.aload_n 0, 1) := dc_42 (gB_l lq_cX0_rowsWithin (p := 9) (o := 42) rfl)
theorem dX0_rowsWithin_10 : decode cX0_rowsWithin 10 = .ok (.getfield 14, 3) := dc_180 (gB_l lq_cX0_rowsWithin (p := 10) (o := 180) rfl) (gB_l lq_cX0_rowsWithin (p := 11) (o := 0) rfl) (gB_l lq_cX0_rowsWithin (p := 12) (o := 14) rfl) rfl
theorem dX0_rowsWithin_13 : decode cX0_rowsWithin 13 = .ok (.getfield 55, 3) := dc_180 (gB_l lq_cX0_rowsWithin (p := 13) (o := 180) rfl) (gB_l lq_cX0_rowsWithin (p := 14) (o := 0) rfl) (gB_l lq_cX0_rowsWithin (p := 15) (o := 55) rfl) rfl
theorem dX0_rowsWithin_16 : decode cX0_rowsWithin 16 = .ok (.iconst 1, 1) := dc_4 (gB_l lq_cX0_rowsWithin (p := 16) (o := 4) rfl)
theorem dX0_rowsWithin_17 : decode cX0_rowsWithin 17 = .ok (.isub, 1) := dc_100 (gB_l lq_cX0_rowsWithin (p := 17) (o := 100) rfl)
theorem dX0_rowsWithin_18 : decode cX0_rowsWithin 18 = .ok (.invokestatic 67, 3) := dc_184 (gB_l lq_cX0_rowsWithin (p := 18) (o := 184) rfl) (gB_l lq_cX0_rowsWithin (p := 19) (o := 0) rfl) (gB_l lq_cX0_rowsWithin (p := 20) (o := 67) rfl) rfl
theorem dX0_rowsWithin_21 : decode cX0_rowsWithin 21 = .ok (.invokevirtual 42, 3) := dc_182 (gB_l lq_cX0_rowsWithin (p := 21) (o := 182) rfl) (gB_l lq_cX0_rowsWithin (p := 22) (o := 0) rfl) (gB_l lq_cX0_rowsWithin (p := 23) (o := 42) rfl) rfl
theorem dX0_rowsWithin_24 : decode cX0_rowsWithin 24 = .ok (.ireturn, 1) := dc_172 (gB_l lq_cX0_rowsWithin (p := 24) (o := 172) rfl)
abbrev r0_cX0_turnTo : List Nat := [42, 180, 0, 14, 43, 182, 0, 73, 154, 0, 19, 42, 180, 0, 14, 43, 182, 0, 77, 42, 180, 0, 22, 2, 184, 0, 80, 177]
theorem lq_cX0_turnTo : (cX0_turnTo).data.toList.map UInt8.toNat = r0_cX0_turnTo := by decide +kernel
theorem dX0_turnTo_0 : decode cX0_turnTo 0 = .ok (.aload_n 0, 1) := dc_42 (gB_l lq_cX0_turnTo (p := 0) (o := 42) rfl)
theorem dX0_turnTo_1 : decode cX0_turnTo 1 = .ok (.getfield 14, 3) := dc_180 (gB_l lq_cX0_turnTo (p := 1) (o := 180) rfl) (gB_l lq_cX0_turnTo (p := 2) (o := 0) rfl) (gB_l lq_cX0_turnTo (p := 3) (o := 14) rfl) rfl
theorem dX0_turnTo_4 : decode cX0_turnTo 4 = .ok (.aload_n 1, 1) := dc_43 (gB_l lq_cX0_turnTo (p := 4) (o := 43) rfl)
theorem dX0_turnTo_5 : decode cX0_turnTo 5 = .ok (.invokevirtual 73, 3) := dc_182 (gB_l lq_cX0_turnTo (p := 5) (o := 182) rfl) (gB_l lq_cX0_turnTo (p := 6) (o := 0) rfl) (gB_l lq_cX0_turnTo (p := 7) (o := 73) rfl) rfl
theorem dX0_turnTo_8 : decode cX0_turnTo 8 = .ok (.ifCond .ne 19, 3) := dc_154 (gB_l lq_cX0_turnTo (p := 8) (o := 154) rfl) (gB_l lq_cX0_turnTo (p := 9) (o := 0) rfl) (gB_l lq_cX0_turnTo (p := 10) (o := 19) rfl) rfl
theorem dX0_turnTo_11 : decode cX0_turnTo 11 = .ok (.aload_n 0, 1) := dc_42 (gB_l lq_cX0_turnTo (p := 11) (o := 42) rfl)
theorem dX0_turnTo_12 : decode cX0_turnTo 12 = .ok (.getfield 14, 3) := dc_180 (gB_l lq_cX0_turnTo (p := 12) (o := 180) rfl) (gB_l lq_cX0_turnTo (p := 13) (o := 0) rfl) (gB_l lq_cX0_turnTo (p := 14) (o := 14) rfl) rfl
theorem dX0_turnTo_15 : decode cX0_turnTo 15 = .ok (.aload_n 1, 1) := dc_43 (gB_l lq_cX0_turnTo (p := 15) (o := 43) rfl)
theorem dX0_turnTo_16 : decode cX0_turnTo 16 = .ok (.invokevirtual 77, 3) := dc_182 (gB_l lq_cX0_turnTo (p := 16) (o := 182) rfl) (gB_l lq_cX0_turnTo (p := 17) (o := 0) rfl) (gB_l lq_cX0_turnTo (p := 18) (o := 77) rfl) rfl
theorem dX0_turnTo_19 : decode cX0_turnTo 19 = .ok (.aload_n 0, 1) := dc_42 (gB_l lq_cX0_turnTo (p := 19) (o := 42) rfl)
theorem dX0_turnTo_20 : decode cX0_turnTo 20 = .ok (.getfield 22, 3) := dc_180 (gB_l lq_cX0_turnTo (p := 20) (o := 180) rfl) (gB_l lq_cX0_turnTo (p := 21) (o := 0) rfl) (gB_l lq_cX0_turnTo (p := 22) (o := 22) rfl) rfl
theorem dX0_turnTo_23 : decode cX0_turnTo 23 = .ok (.iconst (-1), 1) := dc_2 (gB_l lq_cX0_turnTo (p := 23) (o := 2) rfl)
theorem dX0_turnTo_24 : decode cX0_turnTo 24 = .ok (.invokestatic 80, 3) := dc_184 (gB_l lq_cX0_turnTo (p := 24) (o := 184) rfl) (gB_l lq_cX0_turnTo (p := 25) (o := 0) rfl) (gB_l lq_cX0_turnTo (p := 26) (o := 80) rfl) rfl
theorem dX0_turnTo_27 : decode cX0_turnTo 27 = .ok (.return_, 1) := dc_177 (gB_l lq_cX0_turnTo (p := 27) (o := 177) rfl)
abbrev r4_cX0_waiting : List Nat := [174, 21, 4, 16, 16, 120, 21, 5, 128, 172]
def a3_cX0_waiting : List Nat := [100, 164, 0, 5, 2, 172, 21, 5, 42, 180, 0, 18, 21, 8, 46, 4, 96, 7, 21, 8, 6, 126, 104, 120, 128, 54, 5, 132, 8, 1, 167, 255]
abbrev r3_cX0_waiting : List Nat := a3_cX0_waiting ++ r4_cX0_waiting
def a2_cX0_waiting : List Nat := [46, 46, 28, 2, 130, 126, 54, 9, 21, 9, 153, 0, 49, 21, 6, 21, 9, 128, 54, 6, 21, 6, 184, 0, 96, 21, 8, 29, 96, 4, 96, 27]
abbrev r2_cX0_waiting : List Nat := a2_cX0_waiting ++ r3_cX0_waiting
def a1_cX0_waiting : List Nat := [7, 3, 27, 4, 100, 29, 100, 184, 0, 90, 54, 8, 21, 8, 21, 7, 163, 0, 81, 42, 180, 0, 14, 180, 0, 93, 42, 180, 0, 18, 21, 8]
abbrev r1_cX0_waiting : List Nat := a1_cX0_waiting ++ r2_cX0_waiting
def a0_cX0_waiting : List Nat := [29, 16, 9, 120, 28, 128, 54, 4, 3, 54, 5, 3, 54, 6, 27, 4, 100, 42, 180, 0, 14, 180, 0, 55, 5, 100, 29, 100, 184, 0, 67, 54]
abbrev r0_cX0_waiting : List Nat := a0_cX0_waiting ++ r1_cX0_waiting
theorem lq_cX0_waiting : (cX0_waiting).data.toList.map UInt8.toNat = r0_cX0_waiting := by decide +kernel
theorem q1_cX0_waiting : ∀ i, (r0_cX0_waiting)[32 + i]? = (r1_cX0_waiting)[i]? := chn (A := a0_cX0_waiting) (B := r1_cX0_waiting) (n := 0) (k := 32) rfl (ch0 (R := r0_cX0_waiting))
theorem q2_cX0_waiting : ∀ i, (r0_cX0_waiting)[64 + i]? = (r2_cX0_waiting)[i]? := chn (A := a1_cX0_waiting) (B := r2_cX0_waiting) (n := 32) (k := 32) rfl q1_cX0_waiting
theorem q3_cX0_waiting : ∀ i, (r0_cX0_waiting)[96 + i]? = (r3_cX0_waiting)[i]? := chn (A := a2_cX0_waiting) (B := r3_cX0_waiting) (n := 64) (k := 32) rfl q2_cX0_waiting
theorem q4_cX0_waiting : ∀ i, (r0_cX0_waiting)[128 + i]? = (r4_cX0_waiting)[i]? := chn (A := a3_cX0_waiting) (B := r4_cX0_waiting) (n := 96) (k := 32) rfl q3_cX0_waiting
theorem dX0_waiting_0 : decode cX0_waiting 0 = .ok (.iload_n 3, 1) := dc_29 (gB_l lq_cX0_waiting (p := 0) (o := 29) rfl)
theorem dX0_waiting_1 : decode cX0_waiting 1 = .ok (.bipush 9, 2) := dc_16 (gB_l lq_cX0_waiting (p := 1) (o := 16) rfl) (gB_l lq_cX0_waiting (p := 2) (o := 9) rfl) rfl
theorem dX0_waiting_3 : decode cX0_waiting 3 = .ok (.ishl, 1) := dc_120 (gB_l lq_cX0_waiting (p := 3) (o := 120) rfl)
theorem dX0_waiting_4 : decode cX0_waiting 4 = .ok (.iload_n 2, 1) := dc_28 (gB_l lq_cX0_waiting (p := 4) (o := 28) rfl)
theorem dX0_waiting_5 : decode cX0_waiting 5 = .ok (.ior, 1) := dc_128 (gB_l lq_cX0_waiting (p := 5) (o := 128) rfl)
theorem dX0_waiting_6 : decode cX0_waiting 6 = .ok (.istore 4, 2) := dc_54 (gB_l lq_cX0_waiting (p := 6) (o := 54) rfl) (gB_l lq_cX0_waiting (p := 7) (o := 4) rfl)
theorem dX0_waiting_8 : decode cX0_waiting 8 = .ok (.iconst 0, 1) := dc_3 (gB_l lq_cX0_waiting (p := 8) (o := 3) rfl)
theorem dX0_waiting_9 : decode cX0_waiting 9 = .ok (.istore 5, 2) := dc_54 (gB_l lq_cX0_waiting (p := 9) (o := 54) rfl) (gB_l lq_cX0_waiting (p := 10) (o := 5) rfl)
theorem dX0_waiting_11 : decode cX0_waiting 11 = .ok (.iconst 0, 1) := dc_3 (gB_l lq_cX0_waiting (p := 11) (o := 3) rfl)
theorem dX0_waiting_12 : decode cX0_waiting 12 = .ok (.istore 6, 2) := dc_54 (gB_l lq_cX0_waiting (p := 12) (o := 54) rfl) (gB_l lq_cX0_waiting (p := 13) (o := 6) rfl)
theorem dX0_waiting_14 : decode cX0_waiting 14 = .ok (.iload_n 1, 1) := dc_27 (gB_l lq_cX0_waiting (p := 14) (o := 27) rfl)
theorem dX0_waiting_15 : decode cX0_waiting 15 = .ok (.iconst 1, 1) := dc_4 (gB_l lq_cX0_waiting (p := 15) (o := 4) rfl)
theorem dX0_waiting_16 : decode cX0_waiting 16 = .ok (.isub, 1) := dc_100 (gB_l lq_cX0_waiting (p := 16) (o := 100) rfl)
theorem dX0_waiting_17 : decode cX0_waiting 17 = .ok (.aload_n 0, 1) := dc_42 (gB_l lq_cX0_waiting (p := 17) (o := 42) rfl)
theorem dX0_waiting_18 : decode cX0_waiting 18 = .ok (.getfield 14, 3) := dc_180 (gB_l lq_cX0_waiting (p := 18) (o := 180) rfl) (gB_l lq_cX0_waiting (p := 19) (o := 0) rfl) (gB_l lq_cX0_waiting (p := 20) (o := 14) rfl) rfl
theorem dX0_waiting_21 : decode cX0_waiting 21 = .ok (.getfield 55, 3) := dc_180 (gB_l lq_cX0_waiting (p := 21) (o := 180) rfl) (gB_l lq_cX0_waiting (p := 22) (o := 0) rfl) (gB_l lq_cX0_waiting (p := 23) (o := 55) rfl) rfl
theorem dX0_waiting_24 : decode cX0_waiting 24 = .ok (.iconst 2, 1) := dc_5 (gB_l lq_cX0_waiting (p := 24) (o := 5) rfl)
theorem dX0_waiting_25 : decode cX0_waiting 25 = .ok (.isub, 1) := dc_100 (gB_l lq_cX0_waiting (p := 25) (o := 100) rfl)
theorem dX0_waiting_26 : decode cX0_waiting 26 = .ok (.iload_n 3, 1) := dc_29 (gB_l lq_cX0_waiting (p := 26) (o := 29) rfl)
theorem dX0_waiting_27 : decode cX0_waiting 27 = .ok (.isub, 1) := dc_100 (gB_l lq_cX0_waiting (p := 27) (o := 100) rfl)
theorem dX0_waiting_28 : decode cX0_waiting 28 = .ok (.invokestatic 67, 3) := dc_184 (gB_l lq_cX0_waiting (p := 28) (o := 184) rfl) (gB_l lq_cX0_waiting (p := 29) (o := 0) rfl) (gB_l lq_cX0_waiting (p := 30) (o := 67) rfl) rfl
theorem dX0_waiting_31 : decode cX0_waiting 31 = .ok (.istore 7, 2) := dc_54 (gB_l lq_cX0_waiting (p := 31) (o := 54) rfl) (gB_c lq_cX0_waiting q1_cX0_waiting 0 (o := 7) rfl)
theorem dX0_waiting_33 : decode cX0_waiting 33 = .ok (.iconst 0, 1) := dc_3 (gB_c lq_cX0_waiting q1_cX0_waiting 1 (o := 3) rfl)
theorem dX0_waiting_34 : decode cX0_waiting 34 = .ok (.iload_n 1, 1) := dc_27 (gB_c lq_cX0_waiting q1_cX0_waiting 2 (o := 27) rfl)
theorem dX0_waiting_35 : decode cX0_waiting 35 = .ok (.iconst 1, 1) := dc_4 (gB_c lq_cX0_waiting q1_cX0_waiting 3 (o := 4) rfl)
theorem dX0_waiting_36 : decode cX0_waiting 36 = .ok (.isub, 1) := dc_100 (gB_c lq_cX0_waiting q1_cX0_waiting 4 (o := 100) rfl)
theorem dX0_waiting_37 : decode cX0_waiting 37 = .ok (.iload_n 3, 1) := dc_29 (gB_c lq_cX0_waiting q1_cX0_waiting 5 (o := 29) rfl)
theorem dX0_waiting_38 : decode cX0_waiting 38 = .ok (.isub, 1) := dc_100 (gB_c lq_cX0_waiting q1_cX0_waiting 6 (o := 100) rfl)
theorem dX0_waiting_39 : decode cX0_waiting 39 = .ok (.invokestatic 90, 3) := dc_184 (gB_c lq_cX0_waiting q1_cX0_waiting 7 (o := 184) rfl) (gB_c lq_cX0_waiting q1_cX0_waiting 8 (o := 0) rfl) (gB_c lq_cX0_waiting q1_cX0_waiting 9 (o := 90) rfl) rfl
theorem dX0_waiting_42 : decode cX0_waiting 42 = .ok (.istore 8, 2) := dc_54 (gB_c lq_cX0_waiting q1_cX0_waiting 10 (o := 54) rfl) (gB_c lq_cX0_waiting q1_cX0_waiting 11 (o := 8) rfl)
theorem dX0_waiting_44 : decode cX0_waiting 44 = .ok (.iload 8, 2) := dc_21 (gB_c lq_cX0_waiting q1_cX0_waiting 12 (o := 21) rfl) (gB_c lq_cX0_waiting q1_cX0_waiting 13 (o := 8) rfl)
theorem dX0_waiting_46 : decode cX0_waiting 46 = .ok (.iload 7, 2) := dc_21 (gB_c lq_cX0_waiting q1_cX0_waiting 14 (o := 21) rfl) (gB_c lq_cX0_waiting q1_cX0_waiting 15 (o := 7) rfl)
theorem dX0_waiting_48 : decode cX0_waiting 48 = .ok (.if_icmp .gt 81, 3) := dc_163 (gB_c lq_cX0_waiting q1_cX0_waiting 16 (o := 163) rfl) (gB_c lq_cX0_waiting q1_cX0_waiting 17 (o := 0) rfl) (gB_c lq_cX0_waiting q1_cX0_waiting 18 (o := 81) rfl) rfl
theorem dX0_waiting_51 : decode cX0_waiting 51 = .ok (.aload_n 0, 1) := dc_42 (gB_c lq_cX0_waiting q1_cX0_waiting 19 (o := 42) rfl)
theorem dX0_waiting_52 : decode cX0_waiting 52 = .ok (.getfield 14, 3) := dc_180 (gB_c lq_cX0_waiting q1_cX0_waiting 20 (o := 180) rfl) (gB_c lq_cX0_waiting q1_cX0_waiting 21 (o := 0) rfl) (gB_c lq_cX0_waiting q1_cX0_waiting 22 (o := 14) rfl) rfl
theorem dX0_waiting_55 : decode cX0_waiting 55 = .ok (.getfield 93, 3) := dc_180 (gB_c lq_cX0_waiting q1_cX0_waiting 23 (o := 180) rfl) (gB_c lq_cX0_waiting q1_cX0_waiting 24 (o := 0) rfl) (gB_c lq_cX0_waiting q1_cX0_waiting 25 (o := 93) rfl) rfl
theorem dX0_waiting_58 : decode cX0_waiting 58 = .ok (.aload_n 0, 1) := dc_42 (gB_c lq_cX0_waiting q1_cX0_waiting 26 (o := 42) rfl)
theorem dX0_waiting_59 : decode cX0_waiting 59 = .ok (.getfield 18, 3) := dc_180 (gB_c lq_cX0_waiting q1_cX0_waiting 27 (o := 180) rfl) (gB_c lq_cX0_waiting q1_cX0_waiting 28 (o := 0) rfl) (gB_c lq_cX0_waiting q1_cX0_waiting 29 (o := 18) rfl) rfl
theorem dX0_waiting_62 : decode cX0_waiting 62 = .ok (.iload 8, 2) := dc_21 (gB_c lq_cX0_waiting q1_cX0_waiting 30 (o := 21) rfl) (gB_c lq_cX0_waiting q1_cX0_waiting 31 (o := 8) rfl)
theorem dX0_waiting_64 : decode cX0_waiting 64 = .ok (.iaload, 1) := dc_46 (gB_c lq_cX0_waiting q2_cX0_waiting 0 (o := 46) rfl)
theorem dX0_waiting_65 : decode cX0_waiting 65 = .ok (.iaload, 1) := dc_46 (gB_c lq_cX0_waiting q2_cX0_waiting 1 (o := 46) rfl)
theorem dX0_waiting_66 : decode cX0_waiting 66 = .ok (.iload_n 2, 1) := dc_28 (gB_c lq_cX0_waiting q2_cX0_waiting 2 (o := 28) rfl)
theorem dX0_waiting_67 : decode cX0_waiting 67 = .ok (.iconst (-1), 1) := dc_2 (gB_c lq_cX0_waiting q2_cX0_waiting 3 (o := 2) rfl)
theorem dX0_waiting_68 : decode cX0_waiting 68 = .ok (.ixor, 1) := dc_130 (gB_c lq_cX0_waiting q2_cX0_waiting 4 (o := 130) rfl)
theorem dX0_waiting_69 : decode cX0_waiting 69 = .ok (.iand, 1) := dc_126 (gB_c lq_cX0_waiting q2_cX0_waiting 5 (o := 126) rfl)
theorem dX0_waiting_70 : decode cX0_waiting 70 = .ok (.istore 9, 2) := dc_54 (gB_c lq_cX0_waiting q2_cX0_waiting 6 (o := 54) rfl) (gB_c lq_cX0_waiting q2_cX0_waiting 7 (o := 9) rfl)
theorem dX0_waiting_72 : decode cX0_waiting 72 = .ok (.iload 9, 2) := dc_21 (gB_c lq_cX0_waiting q2_cX0_waiting 8 (o := 21) rfl) (gB_c lq_cX0_waiting q2_cX0_waiting 9 (o := 9) rfl)
theorem dX0_waiting_74 : decode cX0_waiting 74 = .ok (.ifCond .eq 49, 3) := dc_153 (gB_c lq_cX0_waiting q2_cX0_waiting 10 (o := 153) rfl) (gB_c lq_cX0_waiting q2_cX0_waiting 11 (o := 0) rfl) (gB_c lq_cX0_waiting q2_cX0_waiting 12 (o := 49) rfl) rfl
theorem dX0_waiting_77 : decode cX0_waiting 77 = .ok (.iload 6, 2) := dc_21 (gB_c lq_cX0_waiting q2_cX0_waiting 13 (o := 21) rfl) (gB_c lq_cX0_waiting q2_cX0_waiting 14 (o := 6) rfl)
theorem dX0_waiting_79 : decode cX0_waiting 79 = .ok (.iload 9, 2) := dc_21 (gB_c lq_cX0_waiting q2_cX0_waiting 15 (o := 21) rfl) (gB_c lq_cX0_waiting q2_cX0_waiting 16 (o := 9) rfl)
theorem dX0_waiting_81 : decode cX0_waiting 81 = .ok (.ior, 1) := dc_128 (gB_c lq_cX0_waiting q2_cX0_waiting 17 (o := 128) rfl)
theorem dX0_waiting_82 : decode cX0_waiting 82 = .ok (.istore 6, 2) := dc_54 (gB_c lq_cX0_waiting q2_cX0_waiting 18 (o := 54) rfl) (gB_c lq_cX0_waiting q2_cX0_waiting 19 (o := 6) rfl)
theorem dX0_waiting_84 : decode cX0_waiting 84 = .ok (.iload 6, 2) := dc_21 (gB_c lq_cX0_waiting q2_cX0_waiting 20 (o := 21) rfl) (gB_c lq_cX0_waiting q2_cX0_waiting 21 (o := 6) rfl)
theorem dX0_waiting_86 : decode cX0_waiting 86 = .ok (.invokestatic 96, 3) := dc_184 (gB_c lq_cX0_waiting q2_cX0_waiting 22 (o := 184) rfl) (gB_c lq_cX0_waiting q2_cX0_waiting 23 (o := 0) rfl) (gB_c lq_cX0_waiting q2_cX0_waiting 24 (o := 96) rfl) rfl
theorem dX0_waiting_89 : decode cX0_waiting 89 = .ok (.iload 8, 2) := dc_21 (gB_c lq_cX0_waiting q2_cX0_waiting 25 (o := 21) rfl) (gB_c lq_cX0_waiting q2_cX0_waiting 26 (o := 8) rfl)
theorem dX0_waiting_91 : decode cX0_waiting 91 = .ok (.iload_n 3, 1) := dc_29 (gB_c lq_cX0_waiting q2_cX0_waiting 27 (o := 29) rfl)
theorem dX0_waiting_92 : decode cX0_waiting 92 = .ok (.iadd, 1) := dc_96 (gB_c lq_cX0_waiting q2_cX0_waiting 28 (o := 96) rfl)
theorem dX0_waiting_93 : decode cX0_waiting 93 = .ok (.iconst 1, 1) := dc_4 (gB_c lq_cX0_waiting q2_cX0_waiting 29 (o := 4) rfl)
theorem dX0_waiting_94 : decode cX0_waiting 94 = .ok (.iadd, 1) := dc_96 (gB_c lq_cX0_waiting q2_cX0_waiting 30 (o := 96) rfl)
theorem dX0_waiting_95 : decode cX0_waiting 95 = .ok (.iload_n 1, 1) := dc_27 (gB_c lq_cX0_waiting q2_cX0_waiting 31 (o := 27) rfl)
theorem dX0_waiting_96 : decode cX0_waiting 96 = .ok (.isub, 1) := dc_100 (gB_c lq_cX0_waiting q3_cX0_waiting 0 (o := 100) rfl)
theorem dX0_waiting_97 : decode cX0_waiting 97 = .ok (.if_icmp .le 5, 3) := dc_164 (gB_c lq_cX0_waiting q3_cX0_waiting 1 (o := 164) rfl) (gB_c lq_cX0_waiting q3_cX0_waiting 2 (o := 0) rfl) (gB_c lq_cX0_waiting q3_cX0_waiting 3 (o := 5) rfl) rfl
theorem dX0_waiting_100 : decode cX0_waiting 100 = .ok (.iconst (-1), 1) := dc_2 (gB_c lq_cX0_waiting q3_cX0_waiting 4 (o := 2) rfl)
theorem dX0_waiting_101 : decode cX0_waiting 101 = .ok (.ireturn, 1) := dc_172 (gB_c lq_cX0_waiting q3_cX0_waiting 5 (o := 172) rfl)
theorem dX0_waiting_102 : decode cX0_waiting 102 = .ok (.iload 5, 2) := dc_21 (gB_c lq_cX0_waiting q3_cX0_waiting 6 (o := 21) rfl) (gB_c lq_cX0_waiting q3_cX0_waiting 7 (o := 5) rfl)
theorem dX0_waiting_104 : decode cX0_waiting 104 = .ok (.aload_n 0, 1) := dc_42 (gB_c lq_cX0_waiting q3_cX0_waiting 8 (o := 42) rfl)
theorem dX0_waiting_105 : decode cX0_waiting 105 = .ok (.getfield 18, 3) := dc_180 (gB_c lq_cX0_waiting q3_cX0_waiting 9 (o := 180) rfl) (gB_c lq_cX0_waiting q3_cX0_waiting 10 (o := 0) rfl) (gB_c lq_cX0_waiting q3_cX0_waiting 11 (o := 18) rfl) rfl
theorem dX0_waiting_108 : decode cX0_waiting 108 = .ok (.iload 8, 2) := dc_21 (gB_c lq_cX0_waiting q3_cX0_waiting 12 (o := 21) rfl) (gB_c lq_cX0_waiting q3_cX0_waiting 13 (o := 8) rfl)
theorem dX0_waiting_110 : decode cX0_waiting 110 = .ok (.iaload, 1) := dc_46 (gB_c lq_cX0_waiting q3_cX0_waiting 14 (o := 46) rfl)
theorem dX0_waiting_111 : decode cX0_waiting 111 = .ok (.iconst 1, 1) := dc_4 (gB_c lq_cX0_waiting q3_cX0_waiting 15 (o := 4) rfl)
theorem dX0_waiting_112 : decode cX0_waiting 112 = .ok (.iadd, 1) := dc_96 (gB_c lq_cX0_waiting q3_cX0_waiting 16 (o := 96) rfl)
theorem dX0_waiting_113 : decode cX0_waiting 113 = .ok (.iconst 4, 1) := dc_7 (gB_c lq_cX0_waiting q3_cX0_waiting 17 (o := 7) rfl)
theorem dX0_waiting_114 : decode cX0_waiting 114 = .ok (.iload 8, 2) := dc_21 (gB_c lq_cX0_waiting q3_cX0_waiting 18 (o := 21) rfl) (gB_c lq_cX0_waiting q3_cX0_waiting 19 (o := 8) rfl)
theorem dX0_waiting_116 : decode cX0_waiting 116 = .ok (.iconst 3, 1) := dc_6 (gB_c lq_cX0_waiting q3_cX0_waiting 20 (o := 6) rfl)
theorem dX0_waiting_117 : decode cX0_waiting 117 = .ok (.iand, 1) := dc_126 (gB_c lq_cX0_waiting q3_cX0_waiting 21 (o := 126) rfl)
theorem dX0_waiting_118 : decode cX0_waiting 118 = .ok (.imul, 1) := dc_104 (gB_c lq_cX0_waiting q3_cX0_waiting 22 (o := 104) rfl)
theorem dX0_waiting_119 : decode cX0_waiting 119 = .ok (.ishl, 1) := dc_120 (gB_c lq_cX0_waiting q3_cX0_waiting 23 (o := 120) rfl)
theorem dX0_waiting_120 : decode cX0_waiting 120 = .ok (.ior, 1) := dc_128 (gB_c lq_cX0_waiting q3_cX0_waiting 24 (o := 128) rfl)
theorem dX0_waiting_121 : decode cX0_waiting 121 = .ok (.istore 5, 2) := dc_54 (gB_c lq_cX0_waiting q3_cX0_waiting 25 (o := 54) rfl) (gB_c lq_cX0_waiting q3_cX0_waiting 26 (o := 5) rfl)
theorem dX0_waiting_123 : decode cX0_waiting 123 = .ok (.iinc 8 1, 3) := dc_132 (gB_c lq_cX0_waiting q3_cX0_waiting 27 (o := 132) rfl) (gB_c lq_cX0_waiting q3_cX0_waiting 28 (o := 8) rfl) (gB_c lq_cX0_waiting q3_cX0_waiting 29 (o := 1) rfl) rfl
theorem dX0_waiting_126 : decode cX0_waiting 126 = .ok (.goto (-82), 3) := dc_167 (gB_c lq_cX0_waiting q3_cX0_waiting 30 (o := 167) rfl) (gB_c lq_cX0_waiting q3_cX0_waiting 31 (o := 255) rfl) (gB_c lq_cX0_waiting q4_cX0_waiting 0 (o := 174) rfl) rfl
theorem dX0_waiting_129 : decode cX0_waiting 129 = .ok (.iload 4, 2) := dc_21 (gB_c lq_cX0_waiting q4_cX0_waiting 1 (o := 21) rfl) (gB_c lq_cX0_waiting q4_cX0_waiting 2 (o := 4) rfl)
theorem dX0_waiting_131 : decode cX0_waiting 131 = .ok (.bipush 16, 2) := dc_16 (gB_c lq_cX0_waiting q4_cX0_waiting 3 (o := 16) rfl) (gB_c lq_cX0_waiting q4_cX0_waiting 4 (o := 16) rfl) rfl
theorem dX0_waiting_133 : decode cX0_waiting 133 = .ok (.ishl, 1) := dc_120 (gB_c lq_cX0_waiting q4_cX0_waiting 5 (o := 120) rfl)
theorem dX0_waiting_134 : decode cX0_waiting 134 = .ok (.iload 5, 2) := dc_21 (gB_c lq_cX0_waiting q4_cX0_waiting 6 (o := 21) rfl) (gB_c lq_cX0_waiting q4_cX0_waiting 7 (o := 5) rfl)
theorem dX0_waiting_136 : decode cX0_waiting 136 = .ok (.ior, 1) := dc_128 (gB_c lq_cX0_waiting q4_cX0_waiting 8 (o := 128) rfl)
theorem dX0_waiting_137 : decode cX0_waiting 137 = .ok (.ireturn, 1) := dc_172 (gB_c lq_cX0_waiting q4_cX0_waiting 9 (o := 172) rfl)
abbrev r2_cX10_ballBound : List Nat := [167, 255, 211, 132, 2, 1, 167, 255, 190, 27, 172]
def a1_cX10_ballBound : List Nat := [38, 62, 29, 184, 0, 55, 4, 100, 54, 5, 27, 21, 5, 5, 21, 4, 104, 96, 4, 100, 5, 21, 4, 104, 108, 184, 0, 25, 60, 132, 4, 1]
abbrev r1_cX10_ballBound : List Nat := a1_cX10_ballBound ++ r2_cX10_ballBound
def a0_cX10_ballBound : List Nat := [3, 60, 3, 61, 28, 42, 180, 0, 9, 162, 0, 64, 4, 28, 120, 62, 4, 54, 4, 21, 4, 42, 180, 0, 9, 162, 0, 42, 42, 29, 184, 0]
abbrev r0_cX10_ballBound : List Nat := a0_cX10_ballBound ++ r1_cX10_ballBound
theorem lq_cX10_ballBound : (cX10_ballBound).data.toList.map UInt8.toNat = r0_cX10_ballBound := by decide +kernel
theorem q1_cX10_ballBound : ∀ i, (r0_cX10_ballBound)[32 + i]? = (r1_cX10_ballBound)[i]? := chn (A := a0_cX10_ballBound) (B := r1_cX10_ballBound) (n := 0) (k := 32) rfl (ch0 (R := r0_cX10_ballBound))
theorem q2_cX10_ballBound : ∀ i, (r0_cX10_ballBound)[64 + i]? = (r2_cX10_ballBound)[i]? := chn (A := a1_cX10_ballBound) (B := r2_cX10_ballBound) (n := 32) (k := 32) rfl q1_cX10_ballBound
theorem dX10_ballBound_0 : decode cX10_ballBound 0 = .ok (.iconst 0, 1) := dc_3 (gB_l lq_cX10_ballBound (p := 0) (o := 3) rfl)
theorem dX10_ballBound_1 : decode cX10_ballBound 1 = .ok (.istore_n 1, 1) := dc_60 (gB_l lq_cX10_ballBound (p := 1) (o := 60) rfl)
theorem dX10_ballBound_2 : decode cX10_ballBound 2 = .ok (.iconst 0, 1) := dc_3 (gB_l lq_cX10_ballBound (p := 2) (o := 3) rfl)
theorem dX10_ballBound_3 : decode cX10_ballBound 3 = .ok (.istore_n 2, 1) := dc_61 (gB_l lq_cX10_ballBound (p := 3) (o := 61) rfl)
theorem dX10_ballBound_4 : decode cX10_ballBound 4 = .ok (.iload_n 2, 1) := dc_28 (gB_l lq_cX10_ballBound (p := 4) (o := 28) rfl)
theorem dX10_ballBound_5 : decode cX10_ballBound 5 = .ok (.aload_n 0, 1) := dc_42 (gB_l lq_cX10_ballBound (p := 5) (o := 42) rfl)
theorem dX10_ballBound_6 : decode cX10_ballBound 6 = .ok (.getfield 9, 3) := dc_180 (gB_l lq_cX10_ballBound (p := 6) (o := 180) rfl) (gB_l lq_cX10_ballBound (p := 7) (o := 0) rfl) (gB_l lq_cX10_ballBound (p := 8) (o := 9) rfl) rfl
theorem dX10_ballBound_9 : decode cX10_ballBound 9 = .ok (.if_icmp .ge 64, 3) := dc_162 (gB_l lq_cX10_ballBound (p := 9) (o := 162) rfl) (gB_l lq_cX10_ballBound (p := 10) (o := 0) rfl) (gB_l lq_cX10_ballBound (p := 11) (o := 64) rfl) rfl
theorem dX10_ballBound_12 : decode cX10_ballBound 12 = .ok (.iconst 1, 1) := dc_4 (gB_l lq_cX10_ballBound (p := 12) (o := 4) rfl)
theorem dX10_ballBound_13 : decode cX10_ballBound 13 = .ok (.iload_n 2, 1) := dc_28 (gB_l lq_cX10_ballBound (p := 13) (o := 28) rfl)
theorem dX10_ballBound_14 : decode cX10_ballBound 14 = .ok (.ishl, 1) := dc_120 (gB_l lq_cX10_ballBound (p := 14) (o := 120) rfl)
theorem dX10_ballBound_15 : decode cX10_ballBound 15 = .ok (.istore_n 3, 1) := dc_62 (gB_l lq_cX10_ballBound (p := 15) (o := 62) rfl)
theorem dX10_ballBound_16 : decode cX10_ballBound 16 = .ok (.iconst 1, 1) := dc_4 (gB_l lq_cX10_ballBound (p := 16) (o := 4) rfl)
theorem dX10_ballBound_17 : decode cX10_ballBound 17 = .ok (.istore 4, 2) := dc_54 (gB_l lq_cX10_ballBound (p := 17) (o := 54) rfl) (gB_l lq_cX10_ballBound (p := 18) (o := 4) rfl)
theorem dX10_ballBound_19 : decode cX10_ballBound 19 = .ok (.iload 4, 2) := dc_21 (gB_l lq_cX10_ballBound (p := 19) (o := 21) rfl) (gB_l lq_cX10_ballBound (p := 20) (o := 4) rfl)
theorem dX10_ballBound_21 : decode cX10_ballBound 21 = .ok (.aload_n 0, 1) := dc_42 (gB_l lq_cX10_ballBound (p := 21) (o := 42) rfl)
theorem dX10_ballBound_22 : decode cX10_ballBound 22 = .ok (.getfield 9, 3) := dc_180 (gB_l lq_cX10_ballBound (p := 22) (o := 180) rfl) (gB_l lq_cX10_ballBound (p := 23) (o := 0) rfl) (gB_l lq_cX10_ballBound (p := 24) (o := 9) rfl) rfl
theorem dX10_ballBound_25 : decode cX10_ballBound 25 = .ok (.if_icmp .ge 42, 3) := dc_162 (gB_l lq_cX10_ballBound (p := 25) (o := 162) rfl) (gB_l lq_cX10_ballBound (p := 26) (o := 0) rfl) (gB_l lq_cX10_ballBound (p := 27) (o := 42) rfl) rfl
theorem dX10_ballBound_28 : decode cX10_ballBound 28 = .ok (.aload_n 0, 1) := dc_42 (gB_l lq_cX10_ballBound (p := 28) (o := 42) rfl)
theorem dX10_ballBound_29 : decode cX10_ballBound 29 = .ok (.iload_n 3, 1) := dc_29 (gB_l lq_cX10_ballBound (p := 29) (o := 29) rfl)
theorem dX10_ballBound_30 : decode cX10_ballBound 30 = .ok (.invokestatic 38, 3) := dc_184 (gB_l lq_cX10_ballBound (p := 30) (o := 184) rfl) (gB_l lq_cX10_ballBound (p := 31) (o := 0) rfl) (gB_c lq_cX10_ballBound q1_cX10_ballBound 0 (o := 38) rfl) rfl
theorem dX10_ballBound_33 : decode cX10_ballBound 33 = .ok (.istore_n 3, 1) := dc_62 (gB_c lq_cX10_ballBound q1_cX10_ballBound 1 (o := 62) rfl)
theorem dX10_ballBound_34 : decode cX10_ballBound 34 = .ok (.iload_n 3, 1) := dc_29 (gB_c lq_cX10_ballBound q1_cX10_ballBound 2 (o := 29) rfl)
theorem dX10_ballBound_35 : decode cX10_ballBound 35 = .ok (.invokestatic 55, 3) := dc_184 (gB_c lq_cX10_ballBound q1_cX10_ballBound 3 (o := 184) rfl) (gB_c lq_cX10_ballBound q1_cX10_ballBound 4 (o := 0) rfl) (gB_c lq_cX10_ballBound q1_cX10_ballBound 5 (o := 55) rfl) rfl
theorem dX10_ballBound_38 : decode cX10_ballBound 38 = .ok (.iconst 1, 1) := dc_4 (gB_c lq_cX10_ballBound q1_cX10_ballBound 6 (o := 4) rfl)
theorem dX10_ballBound_39 : decode cX10_ballBound 39 = .ok (.isub, 1) := dc_100 (gB_c lq_cX10_ballBound q1_cX10_ballBound 7 (o := 100) rfl)
theorem dX10_ballBound_40 : decode cX10_ballBound 40 = .ok (.istore 5, 2) := dc_54 (gB_c lq_cX10_ballBound q1_cX10_ballBound 8 (o := 54) rfl) (gB_c lq_cX10_ballBound q1_cX10_ballBound 9 (o := 5) rfl)
theorem dX10_ballBound_42 : decode cX10_ballBound 42 = .ok (.iload_n 1, 1) := dc_27 (gB_c lq_cX10_ballBound q1_cX10_ballBound 10 (o := 27) rfl)
theorem dX10_ballBound_43 : decode cX10_ballBound 43 = .ok (.iload 5, 2) := dc_21 (gB_c lq_cX10_ballBound q1_cX10_ballBound 11 (o := 21) rfl) (gB_c lq_cX10_ballBound q1_cX10_ballBound 12 (o := 5) rfl)
theorem dX10_ballBound_45 : decode cX10_ballBound 45 = .ok (.iconst 2, 1) := dc_5 (gB_c lq_cX10_ballBound q1_cX10_ballBound 13 (o := 5) rfl)
theorem dX10_ballBound_46 : decode cX10_ballBound 46 = .ok (.iload 4, 2) := dc_21 (gB_c lq_cX10_ballBound q1_cX10_ballBound 14 (o := 21) rfl) (gB_c lq_cX10_ballBound q1_cX10_ballBound 15 (o := 4) rfl)
theorem dX10_ballBound_48 : decode cX10_ballBound 48 = .ok (.imul, 1) := dc_104 (gB_c lq_cX10_ballBound q1_cX10_ballBound 16 (o := 104) rfl)
theorem dX10_ballBound_49 : decode cX10_ballBound 49 = .ok (.iadd, 1) := dc_96 (gB_c lq_cX10_ballBound q1_cX10_ballBound 17 (o := 96) rfl)
theorem dX10_ballBound_50 : decode cX10_ballBound 50 = .ok (.iconst 1, 1) := dc_4 (gB_c lq_cX10_ballBound q1_cX10_ballBound 18 (o := 4) rfl)
theorem dX10_ballBound_51 : decode cX10_ballBound 51 = .ok (.isub, 1) := dc_100 (gB_c lq_cX10_ballBound q1_cX10_ballBound 19 (o := 100) rfl)
theorem dX10_ballBound_52 : decode cX10_ballBound 52 = .ok (.iconst 2, 1) := dc_5 (gB_c lq_cX10_ballBound q1_cX10_ballBound 20 (o := 5) rfl)
theorem dX10_ballBound_53 : decode cX10_ballBound 53 = .ok (.iload 4, 2) := dc_21 (gB_c lq_cX10_ballBound q1_cX10_ballBound 21 (o := 21) rfl) (gB_c lq_cX10_ballBound q1_cX10_ballBound 22 (o := 4) rfl)
theorem dX10_ballBound_55 : decode cX10_ballBound 55 = .ok (.imul, 1) := dc_104 (gB_c lq_cX10_ballBound q1_cX10_ballBound 23 (o := 104) rfl)
theorem dX10_ballBound_56 : decode cX10_ballBound 56 = .ok (.idiv, 1) := dc_108 (gB_c lq_cX10_ballBound q1_cX10_ballBound 24 (o := 108) rfl)
theorem dX10_ballBound_57 : decode cX10_ballBound 57 = .ok (.invokestatic 25, 3) := dc_184 (gB_c lq_cX10_ballBound q1_cX10_ballBound 25 (o := 184) rfl) (gB_c lq_cX10_ballBound q1_cX10_ballBound 26 (o := 0) rfl) (gB_c lq_cX10_ballBound q1_cX10_ballBound 27 (o := 25) rfl) rfl
theorem dX10_ballBound_60 : decode cX10_ballBound 60 = .ok (.istore_n 1, 1) := dc_60 (gB_c lq_cX10_ballBound q1_cX10_ballBound 28 (o := 60) rfl)
theorem dX10_ballBound_61 : decode cX10_ballBound 61 = .ok (.iinc 4 1, 3) := dc_132 (gB_c lq_cX10_ballBound q1_cX10_ballBound 29 (o := 132) rfl) (gB_c lq_cX10_ballBound q1_cX10_ballBound 30 (o := 4) rfl) (gB_c lq_cX10_ballBound q1_cX10_ballBound 31 (o := 1) rfl) rfl
theorem dX10_ballBound_64 : decode cX10_ballBound 64 = .ok (.goto (-45), 3) := dc_167 (gB_c lq_cX10_ballBound q2_cX10_ballBound 0 (o := 167) rfl) (gB_c lq_cX10_ballBound q2_cX10_ballBound 1 (o := 255) rfl) (gB_c lq_cX10_ballBound q2_cX10_ballBound 2 (o := 211) rfl) rfl
theorem dX10_ballBound_67 : decode cX10_ballBound 67 = .ok (.iinc 2 1, 3) := dc_132 (gB_c lq_cX10_ballBound q2_cX10_ballBound 3 (o := 132) rfl) (gB_c lq_cX10_ballBound q2_cX10_ballBound 4 (o := 2) rfl) (gB_c lq_cX10_ballBound q2_cX10_ballBound 5 (o := 1) rfl) rfl
theorem dX10_ballBound_70 : decode cX10_ballBound 70 = .ok (.goto (-66), 3) := dc_167 (gB_c lq_cX10_ballBound q2_cX10_ballBound 6 (o := 167) rfl) (gB_c lq_cX10_ballBound q2_cX10_ballBound 7 (o := 255) rfl) (gB_c lq_cX10_ballBound q2_cX10_ballBound 8 (o := 190) rfl) rfl
theorem dX10_ballBound_73 : decode cX10_ballBound 73 = .ok (.iload_n 1, 1) := dc_27 (gB_c lq_cX10_ballBound q2_cX10_ballBound 9 (o := 27) rfl)
theorem dX10_ballBound_74 : decode cX10_ballBound 74 = .ok (.ireturn, 1) := dc_172 (gB_c lq_cX10_ballBound q2_cX10_ballBound 10 (o := 172) rfl)
abbrev r2_cX10_core : List Nat := [203, 28, 172]
def a1_cX10_core : List Nat := [172, 28, 42, 180, 0, 34, 21, 4, 46, 27, 126, 184, 0, 55, 184, 0, 25, 61, 27, 4, 21, 4, 120, 2, 130, 126, 60, 132, 3, 1, 167, 255]
abbrev r1_cX10_core : List Nat := a1_cX10_core ++ r2_cX10_core
def a0_cX10_core : List Nat := [42, 182, 0, 48, 60, 3, 61, 3, 62, 29, 42, 180, 0, 9, 162, 0, 51, 42, 27, 27, 184, 0, 52, 54, 4, 21, 4, 2, 160, 0, 5, 28]
abbrev r0_cX10_core : List Nat := a0_cX10_core ++ r1_cX10_core
theorem lq_cX10_core : (cX10_core).data.toList.map UInt8.toNat = r0_cX10_core := by decide +kernel
theorem q1_cX10_core : ∀ i, (r0_cX10_core)[32 + i]? = (r1_cX10_core)[i]? := chn (A := a0_cX10_core) (B := r1_cX10_core) (n := 0) (k := 32) rfl (ch0 (R := r0_cX10_core))
theorem q2_cX10_core : ∀ i, (r0_cX10_core)[64 + i]? = (r2_cX10_core)[i]? := chn (A := a1_cX10_core) (B := r2_cX10_core) (n := 32) (k := 32) rfl q1_cX10_core
theorem dX10_core_0 : decode cX10_core 0 = .ok (.aload_n 0, 1) := dc_42 (gB_l lq_cX10_core (p := 0) (o := 42) rfl)
theorem dX10_core_1 : decode cX10_core 1 = .ok (.invokevirtual 48, 3) := dc_182 (gB_l lq_cX10_core (p := 1) (o := 182) rfl) (gB_l lq_cX10_core (p := 2) (o := 0) rfl) (gB_l lq_cX10_core (p := 3) (o := 48) rfl) rfl
theorem dX10_core_4 : decode cX10_core 4 = .ok (.istore_n 1, 1) := dc_60 (gB_l lq_cX10_core (p := 4) (o := 60) rfl)
theorem dX10_core_5 : decode cX10_core 5 = .ok (.iconst 0, 1) := dc_3 (gB_l lq_cX10_core (p := 5) (o := 3) rfl)
theorem dX10_core_6 : decode cX10_core 6 = .ok (.istore_n 2, 1) := dc_61 (gB_l lq_cX10_core (p := 6) (o := 61) rfl)
theorem dX10_core_7 : decode cX10_core 7 = .ok (.iconst 0, 1) := dc_3 (gB_l lq_cX10_core (p := 7) (o := 3) rfl)
theorem dX10_core_8 : decode cX10_core 8 = .ok (.istore_n 3, 1) := dc_62 (gB_l lq_cX10_core (p := 8) (o := 62) rfl)
theorem dX10_core_9 : decode cX10_core 9 = .ok (.iload_n 3, 1) := dc_29 (gB_l lq_cX10_core (p := 9) (o := 29) rfl)
theorem dX10_core_10 : decode cX10_core 10 = .ok (.aload_n 0, 1) := dc_42 (gB_l lq_cX10_core (p := 10) (o := 42) rfl)
theorem dX10_core_11 : decode cX10_core 11 = .ok (.getfield 9, 3) := dc_180 (gB_l lq_cX10_core (p := 11) (o := 180) rfl) (gB_l lq_cX10_core (p := 12) (o := 0) rfl) (gB_l lq_cX10_core (p := 13) (o := 9) rfl) rfl
theorem dX10_core_14 : decode cX10_core 14 = .ok (.if_icmp .ge 51, 3) := dc_162 (gB_l lq_cX10_core (p := 14) (o := 162) rfl) (gB_l lq_cX10_core (p := 15) (o := 0) rfl) (gB_l lq_cX10_core (p := 16) (o := 51) rfl) rfl
theorem dX10_core_17 : decode cX10_core 17 = .ok (.aload_n 0, 1) := dc_42 (gB_l lq_cX10_core (p := 17) (o := 42) rfl)
theorem dX10_core_18 : decode cX10_core 18 = .ok (.iload_n 1, 1) := dc_27 (gB_l lq_cX10_core (p := 18) (o := 27) rfl)
theorem dX10_core_19 : decode cX10_core 19 = .ok (.iload_n 1, 1) := dc_27 (gB_l lq_cX10_core (p := 19) (o := 27) rfl)
theorem dX10_core_20 : decode cX10_core 20 = .ok (.invokestatic 52, 3) := dc_184 (gB_l lq_cX10_core (p := 20) (o := 184) rfl) (gB_l lq_cX10_core (p := 21) (o := 0) rfl) (gB_l lq_cX10_core (p := 22) (o := 52) rfl) rfl
theorem dX10_core_23 : decode cX10_core 23 = .ok (.istore 4, 2) := dc_54 (gB_l lq_cX10_core (p := 23) (o := 54) rfl) (gB_l lq_cX10_core (p := 24) (o := 4) rfl)
theorem dX10_core_25 : decode cX10_core 25 = .ok (.iload 4, 2) := dc_21 (gB_l lq_cX10_core (p := 25) (o := 21) rfl) (gB_l lq_cX10_core (p := 26) (o := 4) rfl)
theorem dX10_core_27 : decode cX10_core 27 = .ok (.iconst (-1), 1) := dc_2 (gB_l lq_cX10_core (p := 27) (o := 2) rfl)
theorem dX10_core_28 : decode cX10_core 28 = .ok (.if_icmp .ne 5, 3) := dc_160 (gB_l lq_cX10_core (p := 28) (o := 160) rfl) (gB_l lq_cX10_core (p := 29) (o := 0) rfl) (gB_l lq_cX10_core (p := 30) (o := 5) rfl) rfl
theorem dX10_core_31 : decode cX10_core 31 = .ok (.iload_n 2, 1) := dc_28 (gB_l lq_cX10_core (p := 31) (o := 28) rfl)
theorem dX10_core_32 : decode cX10_core 32 = .ok (.ireturn, 1) := dc_172 (gB_c lq_cX10_core q1_cX10_core 0 (o := 172) rfl)
theorem dX10_core_33 : decode cX10_core 33 = .ok (.iload_n 2, 1) := dc_28 (gB_c lq_cX10_core q1_cX10_core 1 (o := 28) rfl)
theorem dX10_core_34 : decode cX10_core 34 = .ok (.aload_n 0, 1) := dc_42 (gB_c lq_cX10_core q1_cX10_core 2 (o := 42) rfl)
theorem dX10_core_35 : decode cX10_core 35 = .ok (.getfield 34, 3) := dc_180 (gB_c lq_cX10_core q1_cX10_core 3 (o := 180) rfl) (gB_c lq_cX10_core q1_cX10_core 4 (o := 0) rfl) (gB_c lq_cX10_core q1_cX10_core 5 (o := 34) rfl) rfl
theorem dX10_core_38 : decode cX10_core 38 = .ok (.iload 4, 2) := dc_21 (gB_c lq_cX10_core q1_cX10_core 6 (o := 21) rfl) (gB_c lq_cX10_core q1_cX10_core 7 (o := 4) rfl)
theorem dX10_core_40 : decode cX10_core 40 = .ok (.iaload, 1) := dc_46 (gB_c lq_cX10_core q1_cX10_core 8 (o := 46) rfl)
theorem dX10_core_41 : decode cX10_core 41 = .ok (.iload_n 1, 1) := dc_27 (gB_c lq_cX10_core q1_cX10_core 9 (o := 27) rfl)
theorem dX10_core_42 : decode cX10_core 42 = .ok (.iand, 1) := dc_126 (gB_c lq_cX10_core q1_cX10_core 10 (o := 126) rfl)
theorem dX10_core_43 : decode cX10_core 43 = .ok (.invokestatic 55, 3) := dc_184 (gB_c lq_cX10_core q1_cX10_core 11 (o := 184) rfl) (gB_c lq_cX10_core q1_cX10_core 12 (o := 0) rfl) (gB_c lq_cX10_core q1_cX10_core 13 (o := 55) rfl) rfl
theorem dX10_core_46 : decode cX10_core 46 = .ok (.invokestatic 25, 3) := dc_184 (gB_c lq_cX10_core q1_cX10_core 14 (o := 184) rfl) (gB_c lq_cX10_core q1_cX10_core 15 (o := 0) rfl) (gB_c lq_cX10_core q1_cX10_core 16 (o := 25) rfl) rfl
theorem dX10_core_49 : decode cX10_core 49 = .ok (.istore_n 2, 1) := dc_61 (gB_c lq_cX10_core q1_cX10_core 17 (o := 61) rfl)
theorem dX10_core_50 : decode cX10_core 50 = .ok (.iload_n 1, 1) := dc_27 (gB_c lq_cX10_core q1_cX10_core 18 (o := 27) rfl)
theorem dX10_core_51 : decode cX10_core 51 = .ok (.iconst 1, 1) := dc_4 (gB_c lq_cX10_core q1_cX10_core 19 (o := 4) rfl)
theorem dX10_core_52 : decode cX10_core 52 = .ok (.iload 4, 2) := dc_21 (gB_c lq_cX10_core q1_cX10_core 20 (o := 21) rfl) (gB_c lq_cX10_core q1_cX10_core 21 (o := 4) rfl)
theorem dX10_core_54 : decode cX10_core 54 = .ok (.ishl, 1) := dc_120 (gB_c lq_cX10_core q1_cX10_core 22 (o := 120) rfl)
theorem dX10_core_55 : decode cX10_core 55 = .ok (.iconst (-1), 1) := dc_2 (gB_c lq_cX10_core q1_cX10_core 23 (o := 2) rfl)
theorem dX10_core_56 : decode cX10_core 56 = .ok (.ixor, 1) := dc_130 (gB_c lq_cX10_core q1_cX10_core 24 (o := 130) rfl)
theorem dX10_core_57 : decode cX10_core 57 = .ok (.iand, 1) := dc_126 (gB_c lq_cX10_core q1_cX10_core 25 (o := 126) rfl)
theorem dX10_core_58 : decode cX10_core 58 = .ok (.istore_n 1, 1) := dc_60 (gB_c lq_cX10_core q1_cX10_core 26 (o := 60) rfl)
theorem dX10_core_59 : decode cX10_core 59 = .ok (.iinc 3 1, 3) := dc_132 (gB_c lq_cX10_core q1_cX10_core 27 (o := 132) rfl) (gB_c lq_cX10_core q1_cX10_core 28 (o := 3) rfl) (gB_c lq_cX10_core q1_cX10_core 29 (o := 1) rfl) rfl
theorem dX10_core_62 : decode cX10_core 62 = .ok (.goto (-53), 3) := dc_167 (gB_c lq_cX10_core q1_cX10_core 30 (o := 167) rfl) (gB_c lq_cX10_core q1_cX10_core 31 (o := 255) rfl) (gB_c lq_cX10_core q2_cX10_core 0 (o := 203) rfl) rfl
theorem dX10_core_65 : decode cX10_core 65 = .ok (.iload_n 2, 1) := dc_28 (gB_c lq_cX10_core q2_cX10_core 1 (o := 28) rfl)
theorem dX10_core_66 : decode cX10_core 66 = .ok (.ireturn, 1) := dc_172 (gB_c lq_cX10_core q2_cX10_core 2 (o := 172) rfl)
abbrev r1_cX10_diameter : List Nat := [5, 2, 172, 27, 21, 4, 184, 0, 25, 60, 132, 3, 1, 167, 255, 225, 132, 2, 1, 167, 255, 209, 27, 172]
def a0_cX10_diameter : List Nat := [3, 60, 3, 61, 28, 42, 180, 0, 9, 162, 0, 45, 3, 62, 29, 28, 162, 0, 32, 42, 28, 29, 184, 0, 44, 54, 4, 21, 4, 2, 160, 0]
abbrev r0_cX10_diameter : List Nat := a0_cX10_diameter ++ r1_cX10_diameter
theorem lq_cX10_diameter : (cX10_diameter).data.toList.map UInt8.toNat = r0_cX10_diameter := by decide +kernel
theorem q1_cX10_diameter : ∀ i, (r0_cX10_diameter)[32 + i]? = (r1_cX10_diameter)[i]? := chn (A := a0_cX10_diameter) (B := r1_cX10_diameter) (n := 0) (k := 32) rfl (ch0 (R := r0_cX10_diameter))
theorem dX10_diameter_0 : decode cX10_diameter 0 = .ok (.iconst 0, 1) := dc_3 (gB_l lq_cX10_diameter (p := 0) (o := 3) rfl)
theorem dX10_diameter_1 : decode cX10_diameter 1 = .ok (.istore_n 1, 1) := dc_60 (gB_l lq_cX10_diameter (p := 1) (o := 60) rfl)
theorem dX10_diameter_2 : decode cX10_diameter 2 = .ok (.iconst 0, 1) := dc_3 (gB_l lq_cX10_diameter (p := 2) (o := 3) rfl)
theorem dX10_diameter_3 : decode cX10_diameter 3 = .ok (.istore_n 2, 1) := dc_61 (gB_l lq_cX10_diameter (p := 3) (o := 61) rfl)
theorem dX10_diameter_4 : decode cX10_diameter 4 = .ok (.iload_n 2, 1) := dc_28 (gB_l lq_cX10_diameter (p := 4) (o := 28) rfl)
theorem dX10_diameter_5 : decode cX10_diameter 5 = .ok (.aload_n 0, 1) := dc_42 (gB_l lq_cX10_diameter (p := 5) (o := 42) rfl)
theorem dX10_diameter_6 : decode cX10_diameter 6 = .ok (.getfield 9, 3) := dc_180 (gB_l lq_cX10_diameter (p := 6) (o := 180) rfl) (gB_l lq_cX10_diameter (p := 7) (o := 0) rfl) (gB_l lq_cX10_diameter (p := 8) (o := 9) rfl) rfl
theorem dX10_diameter_9 : decode cX10_diameter 9 = .ok (.if_icmp .ge 45, 3) := dc_162 (gB_l lq_cX10_diameter (p := 9) (o := 162) rfl) (gB_l lq_cX10_diameter (p := 10) (o := 0) rfl) (gB_l lq_cX10_diameter (p := 11) (o := 45) rfl) rfl
theorem dX10_diameter_12 : decode cX10_diameter 12 = .ok (.iconst 0, 1) := dc_3 (gB_l lq_cX10_diameter (p := 12) (o := 3) rfl)
theorem dX10_diameter_13 : decode cX10_diameter 13 = .ok (.istore_n 3, 1) := dc_62 (gB_l lq_cX10_diameter (p := 13) (o := 62) rfl)
theorem dX10_diameter_14 : decode cX10_diameter 14 = .ok (.iload_n 3, 1) := dc_29 (gB_l lq_cX10_diameter (p := 14) (o := 29) rfl)
theorem dX10_diameter_15 : decode cX10_diameter 15 = .ok (.iload_n 2, 1) := dc_28 (gB_l lq_cX10_diameter (p := 15) (o := 28) rfl)
theorem dX10_diameter_16 : decode cX10_diameter 16 = .ok (.if_icmp .ge 32, 3) := dc_162 (gB_l lq_cX10_diameter (p := 16) (o := 162) rfl) (gB_l lq_cX10_diameter (p := 17) (o := 0) rfl) (gB_l lq_cX10_diameter (p := 18) (o := 32) rfl) rfl
theorem dX10_diameter_19 : decode cX10_diameter 19 = .ok (.aload_n 0, 1) := dc_42 (gB_l lq_cX10_diameter (p := 19) (o := 42) rfl)
theorem dX10_diameter_20 : decode cX10_diameter 20 = .ok (.iload_n 2, 1) := dc_28 (gB_l lq_cX10_diameter (p := 20) (o := 28) rfl)
theorem dX10_diameter_21 : decode cX10_diameter 21 = .ok (.iload_n 3, 1) := dc_29 (gB_l lq_cX10_diameter (p := 21) (o := 29) rfl)
theorem dX10_diameter_22 : decode cX10_diameter 22 = .ok (.invokestatic 44, 3) := dc_184 (gB_l lq_cX10_diameter (p := 22) (o := 184) rfl) (gB_l lq_cX10_diameter (p := 23) (o := 0) rfl) (gB_l lq_cX10_diameter (p := 24) (o := 44) rfl) rfl
theorem dX10_diameter_25 : decode cX10_diameter 25 = .ok (.istore 4, 2) := dc_54 (gB_l lq_cX10_diameter (p := 25) (o := 54) rfl) (gB_l lq_cX10_diameter (p := 26) (o := 4) rfl)
theorem dX10_diameter_27 : decode cX10_diameter 27 = .ok (.iload 4, 2) := dc_21 (gB_l lq_cX10_diameter (p := 27) (o := 21) rfl) (gB_l lq_cX10_diameter (p := 28) (o := 4) rfl)
theorem dX10_diameter_29 : decode cX10_diameter 29 = .ok (.iconst (-1), 1) := dc_2 (gB_l lq_cX10_diameter (p := 29) (o := 2) rfl)
theorem dX10_diameter_30 : decode cX10_diameter 30 = .ok (.if_icmp .ne 5, 3) := dc_160 (gB_l lq_cX10_diameter (p := 30) (o := 160) rfl) (gB_l lq_cX10_diameter (p := 31) (o := 0) rfl) (gB_c lq_cX10_diameter q1_cX10_diameter 0 (o := 5) rfl) rfl
theorem dX10_diameter_33 : decode cX10_diameter 33 = .ok (.iconst (-1), 1) := dc_2 (gB_c lq_cX10_diameter q1_cX10_diameter 1 (o := 2) rfl)
theorem dX10_diameter_34 : decode cX10_diameter 34 = .ok (.ireturn, 1) := dc_172 (gB_c lq_cX10_diameter q1_cX10_diameter 2 (o := 172) rfl)
theorem dX10_diameter_35 : decode cX10_diameter 35 = .ok (.iload_n 1, 1) := dc_27 (gB_c lq_cX10_diameter q1_cX10_diameter 3 (o := 27) rfl)
theorem dX10_diameter_36 : decode cX10_diameter 36 = .ok (.iload 4, 2) := dc_21 (gB_c lq_cX10_diameter q1_cX10_diameter 4 (o := 21) rfl) (gB_c lq_cX10_diameter q1_cX10_diameter 5 (o := 4) rfl)
theorem dX10_diameter_38 : decode cX10_diameter 38 = .ok (.invokestatic 25, 3) := dc_184 (gB_c lq_cX10_diameter q1_cX10_diameter 6 (o := 184) rfl) (gB_c lq_cX10_diameter q1_cX10_diameter 7 (o := 0) rfl) (gB_c lq_cX10_diameter q1_cX10_diameter 8 (o := 25) rfl) rfl
theorem dX10_diameter_41 : decode cX10_diameter 41 = .ok (.istore_n 1, 1) := dc_60 (gB_c lq_cX10_diameter q1_cX10_diameter 9 (o := 60) rfl)
theorem dX10_diameter_42 : decode cX10_diameter 42 = .ok (.iinc 3 1, 3) := dc_132 (gB_c lq_cX10_diameter q1_cX10_diameter 10 (o := 132) rfl) (gB_c lq_cX10_diameter q1_cX10_diameter 11 (o := 3) rfl) (gB_c lq_cX10_diameter q1_cX10_diameter 12 (o := 1) rfl) rfl
theorem dX10_diameter_45 : decode cX10_diameter 45 = .ok (.goto (-31), 3) := dc_167 (gB_c lq_cX10_diameter q1_cX10_diameter 13 (o := 167) rfl) (gB_c lq_cX10_diameter q1_cX10_diameter 14 (o := 255) rfl) (gB_c lq_cX10_diameter q1_cX10_diameter 15 (o := 225) rfl) rfl
theorem dX10_diameter_48 : decode cX10_diameter 48 = .ok (.iinc 2 1, 3) := dc_132 (gB_c lq_cX10_diameter q1_cX10_diameter 16 (o := 132) rfl) (gB_c lq_cX10_diameter q1_cX10_diameter 17 (o := 2) rfl) (gB_c lq_cX10_diameter q1_cX10_diameter 18 (o := 1) rfl) rfl
theorem dX10_diameter_51 : decode cX10_diameter 51 = .ok (.goto (-47), 3) := dc_167 (gB_c lq_cX10_diameter q1_cX10_diameter 19 (o := 167) rfl) (gB_c lq_cX10_diameter q1_cX10_diameter 20 (o := 255) rfl) (gB_c lq_cX10_diameter q1_cX10_diameter 21 (o := 209) rfl) rfl
theorem dX10_diameter_54 : decode cX10_diameter 54 = .ok (.iload_n 1, 1) := dc_27 (gB_c lq_cX10_diameter q1_cX10_diameter 22 (o := 27) rfl)
theorem dX10_diameter_55 : decode cX10_diameter 55 = .ok (.ireturn, 1) := dc_172 (gB_c lq_cX10_diameter q1_cX10_diameter 23 (o := 172) rfl)
abbrev r1_cX10_distance : List Nat := [62, 132, 4, 1, 167, 255, 227, 2, 172]
def a0_cX10_distance : List Nat := [4, 27, 120, 62, 3, 54, 4, 21, 4, 42, 180, 0, 9, 162, 0, 26, 29, 28, 122, 4, 126, 153, 0, 6, 21, 4, 172, 42, 29, 184, 0, 38]
abbrev r0_cX10_distance : List Nat := a0_cX10_distance ++ r1_cX10_distance
theorem lq_cX10_distance : (cX10_distance).data.toList.map UInt8.toNat = r0_cX10_distance := by decide +kernel
theorem q1_cX10_distance : ∀ i, (r0_cX10_distance)[32 + i]? = (r1_cX10_distance)[i]? := chn (A := a0_cX10_distance) (B := r1_cX10_distance) (n := 0) (k := 32) rfl (ch0 (R := r0_cX10_distance))
theorem dX10_distance_0 : decode cX10_distance 0 = .ok (.iconst 1, 1) := dc_4 (gB_l lq_cX10_distance (p := 0) (o := 4) rfl)
theorem dX10_distance_1 : decode cX10_distance 1 = .ok (.iload_n 1, 1) := dc_27 (gB_l lq_cX10_distance (p := 1) (o := 27) rfl)
theorem dX10_distance_2 : decode cX10_distance 2 = .ok (.ishl, 1) := dc_120 (gB_l lq_cX10_distance (p := 2) (o := 120) rfl)
theorem dX10_distance_3 : decode cX10_distance 3 = .ok (.istore_n 3, 1) := dc_62 (gB_l lq_cX10_distance (p := 3) (o := 62) rfl)
theorem dX10_distance_4 : decode cX10_distance 4 = .ok (.iconst 0, 1) := dc_3 (gB_l lq_cX10_distance (p := 4) (o := 3) rfl)
theorem dX10_distance_5 : decode cX10_distance 5 = .ok (.istore 4, 2) := dc_54 (gB_l lq_cX10_distance (p := 5) (o := 54) rfl) (gB_l lq_cX10_distance (p := 6) (o := 4) rfl)
theorem dX10_distance_7 : decode cX10_distance 7 = .ok (.iload 4, 2) := dc_21 (gB_l lq_cX10_distance (p := 7) (o := 21) rfl) (gB_l lq_cX10_distance (p := 8) (o := 4) rfl)
theorem dX10_distance_9 : decode cX10_distance 9 = .ok (.aload_n 0, 1) := dc_42 (gB_l lq_cX10_distance (p := 9) (o := 42) rfl)
theorem dX10_distance_10 : decode cX10_distance 10 = .ok (.getfield 9, 3) := dc_180 (gB_l lq_cX10_distance (p := 10) (o := 180) rfl) (gB_l lq_cX10_distance (p := 11) (o := 0) rfl) (gB_l lq_cX10_distance (p := 12) (o := 9) rfl) rfl
theorem dX10_distance_13 : decode cX10_distance 13 = .ok (.if_icmp .ge 26, 3) := dc_162 (gB_l lq_cX10_distance (p := 13) (o := 162) rfl) (gB_l lq_cX10_distance (p := 14) (o := 0) rfl) (gB_l lq_cX10_distance (p := 15) (o := 26) rfl) rfl
theorem dX10_distance_16 : decode cX10_distance 16 = .ok (.iload_n 3, 1) := dc_29 (gB_l lq_cX10_distance (p := 16) (o := 29) rfl)
theorem dX10_distance_17 : decode cX10_distance 17 = .ok (.iload_n 2, 1) := dc_28 (gB_l lq_cX10_distance (p := 17) (o := 28) rfl)
theorem dX10_distance_18 : decode cX10_distance 18 = .ok (.ishr, 1) := dc_122 (gB_l lq_cX10_distance (p := 18) (o := 122) rfl)
theorem dX10_distance_19 : decode cX10_distance 19 = .ok (.iconst 1, 1) := dc_4 (gB_l lq_cX10_distance (p := 19) (o := 4) rfl)
theorem dX10_distance_20 : decode cX10_distance 20 = .ok (.iand, 1) := dc_126 (gB_l lq_cX10_distance (p := 20) (o := 126) rfl)
theorem dX10_distance_21 : decode cX10_distance 21 = .ok (.ifCond .eq 6, 3) := dc_153 (gB_l lq_cX10_distance (p := 21) (o := 153) rfl) (gB_l lq_cX10_distance (p := 22) (o := 0) rfl) (gB_l lq_cX10_distance (p := 23) (o := 6) rfl) rfl
theorem dX10_distance_24 : decode cX10_distance 24 = .ok (.iload 4, 2) := dc_21 (gB_l lq_cX10_distance (p := 24) (o := 21) rfl) (gB_l lq_cX10_distance (p := 25) (o := 4) rfl)
theorem dX10_distance_26 : decode cX10_distance 26 = .ok (.ireturn, 1) := dc_172 (gB_l lq_cX10_distance (p := 26) (o := 172) rfl)
theorem dX10_distance_27 : decode cX10_distance 27 = .ok (.aload_n 0, 1) := dc_42 (gB_l lq_cX10_distance (p := 27) (o := 42) rfl)
theorem dX10_distance_28 : decode cX10_distance 28 = .ok (.iload_n 3, 1) := dc_29 (gB_l lq_cX10_distance (p := 28) (o := 29) rfl)
theorem dX10_distance_29 : decode cX10_distance 29 = .ok (.invokestatic 38, 3) := dc_184 (gB_l lq_cX10_distance (p := 29) (o := 184) rfl) (gB_l lq_cX10_distance (p := 30) (o := 0) rfl) (gB_l lq_cX10_distance (p := 31) (o := 38) rfl) rfl
theorem dX10_distance_32 : decode cX10_distance 32 = .ok (.istore_n 3, 1) := dc_62 (gB_c lq_cX10_distance q1_cX10_distance 0 (o := 62) rfl)
theorem dX10_distance_33 : decode cX10_distance 33 = .ok (.iinc 4 1, 3) := dc_132 (gB_c lq_cX10_distance q1_cX10_distance 1 (o := 132) rfl) (gB_c lq_cX10_distance q1_cX10_distance 2 (o := 4) rfl) (gB_c lq_cX10_distance q1_cX10_distance 3 (o := 1) rfl) rfl
theorem dX10_distance_36 : decode cX10_distance 36 = .ok (.goto (-29), 3) := dc_167 (gB_c lq_cX10_distance q1_cX10_distance 4 (o := 167) rfl) (gB_c lq_cX10_distance q1_cX10_distance 5 (o := 255) rfl) (gB_c lq_cX10_distance q1_cX10_distance 6 (o := 227) rfl) rfl
theorem dX10_distance_39 : decode cX10_distance 39 = .ok (.iconst (-1), 1) := dc_2 (gB_c lq_cX10_distance q1_cX10_distance 7 (o := 2) rfl)
theorem dX10_distance_40 : decode cX10_distance 40 = .ok (.ireturn, 1) := dc_172 (gB_c lq_cX10_distance q1_cX10_distance 8 (o := 172) rfl)
abbrev r1_cX10_fewestLines : List Nat := [27, 21, 5, 122, 4, 126, 153, 0, 17, 21, 6, 21, 4, 162, 0, 10, 21, 5, 62, 21, 6, 54, 4, 132, 5, 1, 167, 255, 207, 29, 172]
def a0_cX10_fewestLines : List Nat := [2, 62, 16, 9, 54, 4, 3, 54, 5, 21, 5, 42, 180, 0, 9, 162, 0, 46, 42, 180, 0, 34, 21, 5, 46, 28, 126, 184, 0, 55, 54, 6]
abbrev r0_cX10_fewestLines : List Nat := a0_cX10_fewestLines ++ r1_cX10_fewestLines
theorem lq_cX10_fewestLines : (cX10_fewestLines).data.toList.map UInt8.toNat = r0_cX10_fewestLines := by decide +kernel
theorem q1_cX10_fewestLines : ∀ i, (r0_cX10_fewestLines)[32 + i]? = (r1_cX10_fewestLines)[i]? := chn (A := a0_cX10_fewestLines) (B := r1_cX10_fewestLines) (n := 0) (k := 32) rfl (ch0 (R := r0_cX10_fewestLines))
theorem dX10_fewestLines_0 : decode cX10_fewestLines 0 = .ok (.iconst (-1), 1) := dc_2 (gB_l lq_cX10_fewestLines (p := 0) (o := 2) rfl)
theorem dX10_fewestLines_1 : decode cX10_fewestLines 1 = .ok (.istore_n 3, 1) := dc_62 (gB_l lq_cX10_fewestLines (p := 1) (o := 62) rfl)
theorem dX10_fewestLines_2 : decode cX10_fewestLines 2 = .ok (.bipush 9, 2) := dc_16 (gB_l lq_cX10_fewestLines (p := 2) (o := 16) rfl) (gB_l lq_cX10_fewestLines (p := 3) (o := 9) rfl) rfl
theorem dX10_fewestLines_4 : decode cX10_fewestLines 4 = .ok (.istore 4, 2) := dc_54 (gB_l lq_cX10_fewestLines (p := 4) (o := 54) rfl) (gB_l lq_cX10_fewestLines (p := 5) (o := 4) rfl)
theorem dX10_fewestLines_6 : decode cX10_fewestLines 6 = .ok (.iconst 0, 1) := dc_3 (gB_l lq_cX10_fewestLines (p := 6) (o := 3) rfl)
theorem dX10_fewestLines_7 : decode cX10_fewestLines 7 = .ok (.istore 5, 2) := dc_54 (gB_l lq_cX10_fewestLines (p := 7) (o := 54) rfl) (gB_l lq_cX10_fewestLines (p := 8) (o := 5) rfl)
theorem dX10_fewestLines_9 : decode cX10_fewestLines 9 = .ok (.iload 5, 2) := dc_21 (gB_l lq_cX10_fewestLines (p := 9) (o := 21) rfl) (gB_l lq_cX10_fewestLines (p := 10) (o := 5) rfl)
theorem dX10_fewestLines_11 : decode cX10_fewestLines 11 = .ok (.aload_n 0, 1) := dc_42 (gB_l lq_cX10_fewestLines (p := 11) (o := 42) rfl)
theorem dX10_fewestLines_12 : decode cX10_fewestLines 12 = .ok (.getfield 9, 3) := dc_180 (gB_l lq_cX10_fewestLines (p := 12) (o := 180) rfl) (gB_l lq_cX10_fewestLines (p := 13) (o := 0) rfl) (gB_l lq_cX10_fewestLines (p := 14) (o := 9) rfl) rfl
theorem dX10_fewestLines_15 : decode cX10_fewestLines 15 = .ok (.if_icmp .ge 46, 3) := dc_162 (gB_l lq_cX10_fewestLines (p := 15) (o := 162) rfl) (gB_l lq_cX10_fewestLines (p := 16) (o := 0) rfl) (gB_l lq_cX10_fewestLines (p := 17) (o := 46) rfl) rfl
theorem dX10_fewestLines_18 : decode cX10_fewestLines 18 = .ok (.aload_n 0, 1) := dc_42 (gB_l lq_cX10_fewestLines (p := 18) (o := 42) rfl)
theorem dX10_fewestLines_19 : decode cX10_fewestLines 19 = .ok (.getfield 34, 3) := dc_180 (gB_l lq_cX10_fewestLines (p := 19) (o := 180) rfl) (gB_l lq_cX10_fewestLines (p := 20) (o := 0) rfl) (gB_l lq_cX10_fewestLines (p := 21) (o := 34) rfl) rfl
theorem dX10_fewestLines_22 : decode cX10_fewestLines 22 = .ok (.iload 5, 2) := dc_21 (gB_l lq_cX10_fewestLines (p := 22) (o := 21) rfl) (gB_l lq_cX10_fewestLines (p := 23) (o := 5) rfl)
theorem dX10_fewestLines_24 : decode cX10_fewestLines 24 = .ok (.iaload, 1) := dc_46 (gB_l lq_cX10_fewestLines (p := 24) (o := 46) rfl)
theorem dX10_fewestLines_25 : decode cX10_fewestLines 25 = .ok (.iload_n 2, 1) := dc_28 (gB_l lq_cX10_fewestLines (p := 25) (o := 28) rfl)
theorem dX10_fewestLines_26 : decode cX10_fewestLines 26 = .ok (.iand, 1) := dc_126 (gB_l lq_cX10_fewestLines (p := 26) (o := 126) rfl)
theorem dX10_fewestLines_27 : decode cX10_fewestLines 27 = .ok (.invokestatic 55, 3) := dc_184 (gB_l lq_cX10_fewestLines (p := 27) (o := 184) rfl) (gB_l lq_cX10_fewestLines (p := 28) (o := 0) rfl) (gB_l lq_cX10_fewestLines (p := 29) (o := 55) rfl) rfl
theorem dX10_fewestLines_30 : decode cX10_fewestLines 30 = .ok (.istore 6, 2) := dc_54 (gB_l lq_cX10_fewestLines (p := 30) (o := 54) rfl) (gB_l lq_cX10_fewestLines (p := 31) (o := 6) rfl)
theorem dX10_fewestLines_32 : decode cX10_fewestLines 32 = .ok (.iload_n 1, 1) := dc_27 (gB_c lq_cX10_fewestLines q1_cX10_fewestLines 0 (o := 27) rfl)
theorem dX10_fewestLines_33 : decode cX10_fewestLines 33 = .ok (.iload 5, 2) := dc_21 (gB_c lq_cX10_fewestLines q1_cX10_fewestLines 1 (o := 21) rfl) (gB_c lq_cX10_fewestLines q1_cX10_fewestLines 2 (o := 5) rfl)
theorem dX10_fewestLines_35 : decode cX10_fewestLines 35 = .ok (.ishr, 1) := dc_122 (gB_c lq_cX10_fewestLines q1_cX10_fewestLines 3 (o := 122) rfl)
theorem dX10_fewestLines_36 : decode cX10_fewestLines 36 = .ok (.iconst 1, 1) := dc_4 (gB_c lq_cX10_fewestLines q1_cX10_fewestLines 4 (o := 4) rfl)
theorem dX10_fewestLines_37 : decode cX10_fewestLines 37 = .ok (.iand, 1) := dc_126 (gB_c lq_cX10_fewestLines q1_cX10_fewestLines 5 (o := 126) rfl)
theorem dX10_fewestLines_38 : decode cX10_fewestLines 38 = .ok (.ifCond .eq 17, 3) := dc_153 (gB_c lq_cX10_fewestLines q1_cX10_fewestLines 6 (o := 153) rfl) (gB_c lq_cX10_fewestLines q1_cX10_fewestLines 7 (o := 0) rfl) (gB_c lq_cX10_fewestLines q1_cX10_fewestLines 8 (o := 17) rfl) rfl
theorem dX10_fewestLines_41 : decode cX10_fewestLines 41 = .ok (.iload 6, 2) := dc_21 (gB_c lq_cX10_fewestLines q1_cX10_fewestLines 9 (o := 21) rfl) (gB_c lq_cX10_fewestLines q1_cX10_fewestLines 10 (o := 6) rfl)
theorem dX10_fewestLines_43 : decode cX10_fewestLines 43 = .ok (.iload 4, 2) := dc_21 (gB_c lq_cX10_fewestLines q1_cX10_fewestLines 11 (o := 21) rfl) (gB_c lq_cX10_fewestLines q1_cX10_fewestLines 12 (o := 4) rfl)
theorem dX10_fewestLines_45 : decode cX10_fewestLines 45 = .ok (.if_icmp .ge 10, 3) := dc_162 (gB_c lq_cX10_fewestLines q1_cX10_fewestLines 13 (o := 162) rfl) (gB_c lq_cX10_fewestLines q1_cX10_fewestLines 14 (o := 0) rfl) (gB_c lq_cX10_fewestLines q1_cX10_fewestLines 15 (o := 10) rfl) rfl
theorem dX10_fewestLines_48 : decode cX10_fewestLines 48 = .ok (.iload 5, 2) := dc_21 (gB_c lq_cX10_fewestLines q1_cX10_fewestLines 16 (o := 21) rfl) (gB_c lq_cX10_fewestLines q1_cX10_fewestLines 17 (o := 5) rfl)
theorem dX10_fewestLines_50 : decode cX10_fewestLines 50 = .ok (.istore_n 3, 1) := dc_62 (gB_c lq_cX10_fewestLines q1_cX10_fewestLines 18 (o := 62) rfl)
theorem dX10_fewestLines_51 : decode cX10_fewestLines 51 = .ok (.iload 6, 2) := dc_21 (gB_c lq_cX10_fewestLines q1_cX10_fewestLines 19 (o := 21) rfl) (gB_c lq_cX10_fewestLines q1_cX10_fewestLines 20 (o := 6) rfl)
theorem dX10_fewestLines_53 : decode cX10_fewestLines 53 = .ok (.istore 4, 2) := dc_54 (gB_c lq_cX10_fewestLines q1_cX10_fewestLines 21 (o := 54) rfl) (gB_c lq_cX10_fewestLines q1_cX10_fewestLines 22 (o := 4) rfl)
theorem dX10_fewestLines_55 : decode cX10_fewestLines 55 = .ok (.iinc 5 1, 3) := dc_132 (gB_c lq_cX10_fewestLines q1_cX10_fewestLines 23 (o := 132) rfl) (gB_c lq_cX10_fewestLines q1_cX10_fewestLines 24 (o := 5) rfl) (gB_c lq_cX10_fewestLines q1_cX10_fewestLines 25 (o := 1) rfl) rfl
theorem dX10_fewestLines_58 : decode cX10_fewestLines 58 = .ok (.goto (-49), 3) := dc_167 (gB_c lq_cX10_fewestLines q1_cX10_fewestLines 26 (o := 167) rfl) (gB_c lq_cX10_fewestLines q1_cX10_fewestLines 27 (o := 255) rfl) (gB_c lq_cX10_fewestLines q1_cX10_fewestLines 28 (o := 207) rfl) rfl
theorem dX10_fewestLines_61 : decode cX10_fewestLines 61 = .ok (.iload_n 3, 1) := dc_29 (gB_c lq_cX10_fewestLines q1_cX10_fewestLines 29 (o := 29) rfl)
theorem dX10_fewestLines_62 : decode cX10_fewestLines 62 = .ok (.ireturn, 1) := dc_172 (gB_c lq_cX10_fewestLines q1_cX10_fewestLines 30 (o := 172) rfl)
abbrev r1_cX10_grown : List Nat := [167, 255, 228, 28, 172]
def a0_cX10_grown : List Nat := [27, 61, 3, 62, 29, 42, 180, 0, 9, 162, 0, 26, 27, 29, 122, 4, 126, 153, 0, 12, 28, 42, 180, 0, 34, 29, 46, 128, 61, 132, 3, 1]
abbrev r0_cX10_grown : List Nat := a0_cX10_grown ++ r1_cX10_grown
theorem lq_cX10_grown : (cX10_grown).data.toList.map UInt8.toNat = r0_cX10_grown := by decide +kernel
theorem q1_cX10_grown : ∀ i, (r0_cX10_grown)[32 + i]? = (r1_cX10_grown)[i]? := chn (A := a0_cX10_grown) (B := r1_cX10_grown) (n := 0) (k := 32) rfl (ch0 (R := r0_cX10_grown))
theorem dX10_grown_0 : decode cX10_grown 0 = .ok (.iload_n 1, 1) := dc_27 (gB_l lq_cX10_grown (p := 0) (o := 27) rfl)
theorem dX10_grown_1 : decode cX10_grown 1 = .ok (.istore_n 2, 1) := dc_61 (gB_l lq_cX10_grown (p := 1) (o := 61) rfl)
theorem dX10_grown_2 : decode cX10_grown 2 = .ok (.iconst 0, 1) := dc_3 (gB_l lq_cX10_grown (p := 2) (o := 3) rfl)
theorem dX10_grown_3 : decode cX10_grown 3 = .ok (.istore_n 3, 1) := dc_62 (gB_l lq_cX10_grown (p := 3) (o := 62) rfl)
theorem dX10_grown_4 : decode cX10_grown 4 = .ok (.iload_n 3, 1) := dc_29 (gB_l lq_cX10_grown (p := 4) (o := 29) rfl)
theorem dX10_grown_5 : decode cX10_grown 5 = .ok (.aload_n 0, 1) := dc_42 (gB_l lq_cX10_grown (p := 5) (o := 42) rfl)
theorem dX10_grown_6 : decode cX10_grown 6 = .ok (.getfield 9, 3) := dc_180 (gB_l lq_cX10_grown (p := 6) (o := 180) rfl) (gB_l lq_cX10_grown (p := 7) (o := 0) rfl) (gB_l lq_cX10_grown (p := 8) (o := 9) rfl) rfl
theorem dX10_grown_9 : decode cX10_grown 9 = .ok (.if_icmp .ge 26, 3) := dc_162 (gB_l lq_cX10_grown (p := 9) (o := 162) rfl) (gB_l lq_cX10_grown (p := 10) (o := 0) rfl) (gB_l lq_cX10_grown (p := 11) (o := 26) rfl) rfl
theorem dX10_grown_12 : decode cX10_grown 12 = .ok (.iload_n 1, 1) := dc_27 (gB_l lq_cX10_grown (p := 12) (o := 27) rfl)
theorem dX10_grown_13 : decode cX10_grown 13 = .ok (.iload_n 3, 1) := dc_29 (gB_l lq_cX10_grown (p := 13) (o := 29) rfl)
theorem dX10_grown_14 : decode cX10_grown 14 = .ok (.ishr, 1) := dc_122 (gB_l lq_cX10_grown (p := 14) (o := 122) rfl)
theorem dX10_grown_15 : decode cX10_grown 15 = .ok (.iconst 1, 1) := dc_4 (gB_l lq_cX10_grown (p := 15) (o := 4) rfl)
theorem dX10_grown_16 : decode cX10_grown 16 = .ok (.iand, 1) := dc_126 (gB_l lq_cX10_grown (p := 16) (o := 126) rfl)
theorem dX10_grown_17 : decode cX10_grown 17 = .ok (.ifCond .eq 12, 3) := dc_153 (gB_l lq_cX10_grown (p := 17) (o := 153) rfl) (gB_l lq_cX10_grown (p := 18) (o := 0) rfl) (gB_l lq_cX10_grown (p := 19) (o := 12) rfl) rfl
theorem dX10_grown_20 : decode cX10_grown 20 = .ok (.iload_n 2, 1) := dc_28 (gB_l lq_cX10_grown (p := 20) (o := 28) rfl)
theorem dX10_grown_21 : decode cX10_grown 21 = .ok (.aload_n 0, 1) := dc_42 (gB_l lq_cX10_grown (p := 21) (o := 42) rfl)
theorem dX10_grown_22 : decode cX10_grown 22 = .ok (.getfield 34, 3) := dc_180 (gB_l lq_cX10_grown (p := 22) (o := 180) rfl) (gB_l lq_cX10_grown (p := 23) (o := 0) rfl) (gB_l lq_cX10_grown (p := 24) (o := 34) rfl) rfl
theorem dX10_grown_25 : decode cX10_grown 25 = .ok (.iload_n 3, 1) := dc_29 (gB_l lq_cX10_grown (p := 25) (o := 29) rfl)
theorem dX10_grown_26 : decode cX10_grown 26 = .ok (.iaload, 1) := dc_46 (gB_l lq_cX10_grown (p := 26) (o := 46) rfl)
theorem dX10_grown_27 : decode cX10_grown 27 = .ok (.ior, 1) := dc_128 (gB_l lq_cX10_grown (p := 27) (o := 128) rfl)
theorem dX10_grown_28 : decode cX10_grown 28 = .ok (.istore_n 2, 1) := dc_61 (gB_l lq_cX10_grown (p := 28) (o := 61) rfl)
theorem dX10_grown_29 : decode cX10_grown 29 = .ok (.iinc 3 1, 3) := dc_132 (gB_l lq_cX10_grown (p := 29) (o := 132) rfl) (gB_l lq_cX10_grown (p := 30) (o := 3) rfl) (gB_l lq_cX10_grown (p := 31) (o := 1) rfl) rfl
theorem dX10_grown_32 : decode cX10_grown 32 = .ok (.goto (-28), 3) := dc_167 (gB_c lq_cX10_grown q1_cX10_grown 0 (o := 167) rfl) (gB_c lq_cX10_grown q1_cX10_grown 1 (o := 255) rfl) (gB_c lq_cX10_grown q1_cX10_grown 2 (o := 228) rfl) rfl
theorem dX10_grown_35 : decode cX10_grown 35 = .ok (.iload_n 2, 1) := dc_28 (gB_c lq_cX10_grown q1_cX10_grown 3 (o := 28) rfl)
theorem dX10_grown_36 : decode cX10_grown 36 = .ok (.ireturn, 1) := dc_172 (gB_c lq_cX10_grown q1_cX10_grown 4 (o := 172) rfl)
abbrev r1_cX10_lineBound : List Nat := [67, 172]
def a0_cX10_lineBound : List Nat := [27, 154, 0, 12, 42, 184, 0, 60, 4, 96, 5, 108, 172, 27, 5, 160, 0, 14, 42, 184, 0, 64, 4, 96, 5, 108, 167, 0, 7, 42, 184, 0]
abbrev r0_cX10_lineBound : List Nat := a0_cX10_lineBound ++ r1_cX10_lineBound
theorem lq_cX10_lineBound : (cX10_lineBound).data.toList.map UInt8.toNat = r0_cX10_lineBound := by decide +kernel
theorem q1_cX10_lineBound : ∀ i, (r0_cX10_lineBound)[32 + i]? = (r1_cX10_lineBound)[i]? := chn (A := a0_cX10_lineBound) (B := r1_cX10_lineBound) (n := 0) (k := 32) rfl (ch0 (R := r0_cX10_lineBound))
theorem dX10_lineBound_0 : decode cX10_lineBound 0 = .ok (.iload_n 1, 1) := dc_27 (gB_l lq_cX10_lineBound (p := 0) (o := 27) rfl)
theorem dX10_lineBound_1 : decode cX10_lineBound 1 = .ok (.ifCond .ne 12, 3) := dc_154 (gB_l lq_cX10_lineBound (p := 1) (o := 154) rfl) (gB_l lq_cX10_lineBound (p := 2) (o := 0) rfl) (gB_l lq_cX10_lineBound (p := 3) (o := 12) rfl) rfl
theorem dX10_lineBound_4 : decode cX10_lineBound 4 = .ok (.aload_n 0, 1) := dc_42 (gB_l lq_cX10_lineBound (p := 4) (o := 42) rfl)
theorem dX10_lineBound_5 : decode cX10_lineBound 5 = .ok (.invokestatic 60, 3) := dc_184 (gB_l lq_cX10_lineBound (p := 5) (o := 184) rfl) (gB_l lq_cX10_lineBound (p := 6) (o := 0) rfl) (gB_l lq_cX10_lineBound (p := 7) (o := 60) rfl) rfl
theorem dX10_lineBound_8 : decode cX10_lineBound 8 = .ok (.iconst 1, 1) := dc_4 (gB_l lq_cX10_lineBound (p := 8) (o := 4) rfl)
theorem dX10_lineBound_9 : decode cX10_lineBound 9 = .ok (.iadd, 1) := dc_96 (gB_l lq_cX10_lineBound (p := 9) (o := 96) rfl)
theorem dX10_lineBound_10 : decode cX10_lineBound 10 = .ok (.iconst 2, 1) := dc_5 (gB_l lq_cX10_lineBound (p := 10) (o := 5) rfl)
theorem dX10_lineBound_11 : decode cX10_lineBound 11 = .ok (.idiv, 1) := dc_108 (gB_l lq_cX10_lineBound (p := 11) (o := 108) rfl)
theorem dX10_lineBound_12 : decode cX10_lineBound 12 = .ok (.ireturn, 1) := dc_172 (gB_l lq_cX10_lineBound (p := 12) (o := 172) rfl)
theorem dX10_lineBound_13 : decode cX10_lineBound 13 = .ok (.iload_n 1, 1) := dc_27 (gB_l lq_cX10_lineBound (p := 13) (o := 27) rfl)
theorem dX10_lineBound_14 : decode cX10_lineBound 14 = .ok (.iconst 2, 1) := dc_5 (gB_l lq_cX10_lineBound (p := 14) (o := 5) rfl)
theorem dX10_lineBound_15 : decode cX10_lineBound 15 = .ok (.if_icmp .ne 14, 3) := dc_160 (gB_l lq_cX10_lineBound (p := 15) (o := 160) rfl) (gB_l lq_cX10_lineBound (p := 16) (o := 0) rfl) (gB_l lq_cX10_lineBound (p := 17) (o := 14) rfl) rfl
theorem dX10_lineBound_18 : decode cX10_lineBound 18 = .ok (.aload_n 0, 1) := dc_42 (gB_l lq_cX10_lineBound (p := 18) (o := 42) rfl)
theorem dX10_lineBound_19 : decode cX10_lineBound 19 = .ok (.invokestatic 64, 3) := dc_184 (gB_l lq_cX10_lineBound (p := 19) (o := 184) rfl) (gB_l lq_cX10_lineBound (p := 20) (o := 0) rfl) (gB_l lq_cX10_lineBound (p := 21) (o := 64) rfl) rfl
theorem dX10_lineBound_22 : decode cX10_lineBound 22 = .ok (.iconst 1, 1) := dc_4 (gB_l lq_cX10_lineBound (p := 22) (o := 4) rfl)
theorem dX10_lineBound_23 : decode cX10_lineBound 23 = .ok (.iadd, 1) := dc_96 (gB_l lq_cX10_lineBound (p := 23) (o := 96) rfl)
theorem dX10_lineBound_24 : decode cX10_lineBound 24 = .ok (.iconst 2, 1) := dc_5 (gB_l lq_cX10_lineBound (p := 24) (o := 5) rfl)
theorem dX10_lineBound_25 : decode cX10_lineBound 25 = .ok (.idiv, 1) := dc_108 (gB_l lq_cX10_lineBound (p := 25) (o := 108) rfl)
theorem dX10_lineBound_26 : decode cX10_lineBound 26 = .ok (.goto 7, 3) := dc_167 (gB_l lq_cX10_lineBound (p := 26) (o := 167) rfl) (gB_l lq_cX10_lineBound (p := 27) (o := 0) rfl) (gB_l lq_cX10_lineBound (p := 28) (o := 7) rfl) rfl
theorem dX10_lineBound_29 : decode cX10_lineBound 29 = .ok (.aload_n 0, 1) := dc_42 (gB_l lq_cX10_lineBound (p := 29) (o := 42) rfl)
theorem dX10_lineBound_30 : decode cX10_lineBound 30 = .ok (.invokestatic 67, 3) := dc_184 (gB_l lq_cX10_lineBound (p := 30) (o := 184) rfl) (gB_l lq_cX10_lineBound (p := 31) (o := 0) rfl) (gB_c lq_cX10_lineBound q1_cX10_lineBound 0 (o := 67) rfl) rfl
theorem dX10_lineBound_33 : decode cX10_lineBound 33 = .ok (.ireturn, 1) := dc_172 (gB_c lq_cX10_lineBound q1_cX10_lineBound 1 (o := 172) rfl)
abbrev r0_cX10_mostLinesAtPoint : List Nat := [3, 60, 3, 61, 28, 42, 180, 0, 9, 162, 0, 19, 27, 42, 28, 182, 0, 30, 184, 0, 25, 60, 132, 2, 1, 167, 255, 235, 27, 172]
theorem lq_cX10_mostLinesAtPoint : (cX10_mostLinesAtPoint).data.toList.map UInt8.toNat = r0_cX10_mostLinesAtPoint := by decide +kernel
theorem dX10_mostLinesAtPoint_0 : decode cX10_mostLinesAtPoint 0 = .ok (.iconst 0, 1) := dc_3 (gB_l lq_cX10_mostLinesAtPoint (p := 0) (o := 3) rfl)
theorem dX10_mostLinesAtPoint_1 : decode cX10_mostLinesAtPoint 1 = .ok (.istore_n 1, 1) := dc_60 (gB_l lq_cX10_mostLinesAtPoint (p := 1) (o := 60) rfl)
theorem dX10_mostLinesAtPoint_2 : decode cX10_mostLinesAtPoint 2 = .ok (.iconst 0, 1) := dc_3 (gB_l lq_cX10_mostLinesAtPoint (p := 2) (o := 3) rfl)
theorem dX10_mostLinesAtPoint_3 : decode cX10_mostLinesAtPoint 3 = .ok (.istore_n 2, 1) := dc_61 (gB_l lq_cX10_mostLinesAtPoint (p := 3) (o := 61) rfl)
theorem dX10_mostLinesAtPoint_4 : decode cX10_mostLinesAtPoint 4 = .ok (.iload_n 2, 1) := dc_28 (gB_l lq_cX10_mostLinesAtPoint (p := 4) (o := 28) rfl)
theorem dX10_mostLinesAtPoint_5 : decode cX10_mostLinesAtPoint 5 = .ok (.aload_n 0, 1) := dc_42 (gB_l lq_cX10_mostLinesAtPoint (p := 5) (o := 42) rfl)
theorem dX10_mostLinesAtPoint_6 : decode cX10_mostLinesAtPoint 6 = .ok (.getfield 9, 3) := dc_180 (gB_l lq_cX10_mostLinesAtPoint (p := 6) (o := 180) rfl) (gB_l lq_cX10_mostLinesAtPoint (p := 7) (o := 0) rfl) (gB_l lq_cX10_mostLinesAtPoint (p := 8) (o := 9) rfl) rfl
theorem dX10_mostLinesAtPoint_9 : decode cX10_mostLinesAtPoint 9 = .ok (.if_icmp .ge 19, 3) := dc_162 (gB_l lq_cX10_mostLinesAtPoint (p := 9) (o := 162) rfl) (gB_l lq_cX10_mostLinesAtPoint (p := 10) (o := 0) rfl) (gB_l lq_cX10_mostLinesAtPoint (p := 11) (o := 19) rfl) rfl
theorem dX10_mostLinesAtPoint_12 : decode cX10_mostLinesAtPoint 12 = .ok (.iload_n 1, 1) := dc_27 (gB_l lq_cX10_mostLinesAtPoint (p := 12) (o := 27) rfl)
theorem dX10_mostLinesAtPoint_13 : decode cX10_mostLinesAtPoint 13 = .ok (.aload_n 0, 1) := dc_42 (gB_l lq_cX10_mostLinesAtPoint (p := 13) (o := 42) rfl)
theorem dX10_mostLinesAtPoint_14 : decode cX10_mostLinesAtPoint 14 = .ok (.iload_n 2, 1) := dc_28 (gB_l lq_cX10_mostLinesAtPoint (p := 14) (o := 28) rfl)
theorem dX10_mostLinesAtPoint_15 : decode cX10_mostLinesAtPoint 15 = .ok (.invokevirtual 30, 3) := dc_182 (gB_l lq_cX10_mostLinesAtPoint (p := 15) (o := 182) rfl) (gB_l lq_cX10_mostLinesAtPoint (p := 16) (o := 0) rfl) (gB_l lq_cX10_mostLinesAtPoint (p := 17) (o := 30) rfl) rfl
theorem dX10_mostLinesAtPoint_18 : decode cX10_mostLinesAtPoint 18 = .ok (.invokestatic 25, 3) := dc_184 (gB_l lq_cX10_mostLinesAtPoint (p := 18) (o := 184) rfl) (gB_l lq_cX10_mostLinesAtPoint (p := 19) (o := 0) rfl) (gB_l lq_cX10_mostLinesAtPoint (p := 20) (o := 25) rfl) rfl
theorem dX10_mostLinesAtPoint_21 : decode cX10_mostLinesAtPoint 21 = .ok (.istore_n 1, 1) := dc_60 (gB_l lq_cX10_mostLinesAtPoint (p := 21) (o := 60) rfl)
theorem dX10_mostLinesAtPoint_22 : decode cX10_mostLinesAtPoint 22 = .ok (.iinc 2 1, 3) := dc_132 (gB_l lq_cX10_mostLinesAtPoint (p := 22) (o := 132) rfl) (gB_l lq_cX10_mostLinesAtPoint (p := 23) (o := 2) rfl) (gB_l lq_cX10_mostLinesAtPoint (p := 24) (o := 1) rfl) rfl
theorem dX10_mostLinesAtPoint_25 : decode cX10_mostLinesAtPoint 25 = .ok (.goto (-21), 3) := dc_167 (gB_l lq_cX10_mostLinesAtPoint (p := 25) (o := 167) rfl) (gB_l lq_cX10_mostLinesAtPoint (p := 26) (o := 255) rfl) (gB_l lq_cX10_mostLinesAtPoint (p := 27) (o := 235) rfl) rfl
theorem dX10_mostLinesAtPoint_28 : decode cX10_mostLinesAtPoint 28 = .ok (.iload_n 1, 1) := dc_27 (gB_l lq_cX10_mostLinesAtPoint (p := 28) (o := 27) rfl)
theorem dX10_mostLinesAtPoint_29 : decode cX10_mostLinesAtPoint 29 = .ok (.ireturn, 1) := dc_172 (gB_l lq_cX10_mostLinesAtPoint (p := 29) (o := 172) rfl)
abbrev r0_cX10_mostWeightAtPoint : List Nat := [3, 60, 3, 61, 28, 42, 180, 0, 9, 162, 0, 19, 27, 42, 28, 184, 0, 15, 184, 0, 25, 60, 132, 2, 1, 167, 255, 235, 27, 172]
theorem lq_cX10_mostWeightAtPoint : (cX10_mostWeightAtPoint).data.toList.map UInt8.toNat = r0_cX10_mostWeightAtPoint := by decide +kernel
theorem dX10_mostWeightAtPoint_0 : decode cX10_mostWeightAtPoint 0 = .ok (.iconst 0, 1) := dc_3 (gB_l lq_cX10_mostWeightAtPoint (p := 0) (o := 3) rfl)
theorem dX10_mostWeightAtPoint_1 : decode cX10_mostWeightAtPoint 1 = .ok (.istore_n 1, 1) := dc_60 (gB_l lq_cX10_mostWeightAtPoint (p := 1) (o := 60) rfl)
theorem dX10_mostWeightAtPoint_2 : decode cX10_mostWeightAtPoint 2 = .ok (.iconst 0, 1) := dc_3 (gB_l lq_cX10_mostWeightAtPoint (p := 2) (o := 3) rfl)
theorem dX10_mostWeightAtPoint_3 : decode cX10_mostWeightAtPoint 3 = .ok (.istore_n 2, 1) := dc_61 (gB_l lq_cX10_mostWeightAtPoint (p := 3) (o := 61) rfl)
theorem dX10_mostWeightAtPoint_4 : decode cX10_mostWeightAtPoint 4 = .ok (.iload_n 2, 1) := dc_28 (gB_l lq_cX10_mostWeightAtPoint (p := 4) (o := 28) rfl)
theorem dX10_mostWeightAtPoint_5 : decode cX10_mostWeightAtPoint 5 = .ok (.aload_n 0, 1) := dc_42 (gB_l lq_cX10_mostWeightAtPoint (p := 5) (o := 42) rfl)
theorem dX10_mostWeightAtPoint_6 : decode cX10_mostWeightAtPoint 6 = .ok (.getfield 9, 3) := dc_180 (gB_l lq_cX10_mostWeightAtPoint (p := 6) (o := 180) rfl) (gB_l lq_cX10_mostWeightAtPoint (p := 7) (o := 0) rfl) (gB_l lq_cX10_mostWeightAtPoint (p := 8) (o := 9) rfl) rfl
theorem dX10_mostWeightAtPoint_9 : decode cX10_mostWeightAtPoint 9 = .ok (.if_icmp .ge 19, 3) := dc_162 (gB_l lq_cX10_mostWeightAtPoint (p := 9) (o := 162) rfl) (gB_l lq_cX10_mostWeightAtPoint (p := 10) (o := 0) rfl) (gB_l lq_cX10_mostWeightAtPoint (p := 11) (o := 19) rfl) rfl
theorem dX10_mostWeightAtPoint_12 : decode cX10_mostWeightAtPoint 12 = .ok (.iload_n 1, 1) := dc_27 (gB_l lq_cX10_mostWeightAtPoint (p := 12) (o := 27) rfl)
theorem dX10_mostWeightAtPoint_13 : decode cX10_mostWeightAtPoint 13 = .ok (.aload_n 0, 1) := dc_42 (gB_l lq_cX10_mostWeightAtPoint (p := 13) (o := 42) rfl)
theorem dX10_mostWeightAtPoint_14 : decode cX10_mostWeightAtPoint 14 = .ok (.iload_n 2, 1) := dc_28 (gB_l lq_cX10_mostWeightAtPoint (p := 14) (o := 28) rfl)
theorem dX10_mostWeightAtPoint_15 : decode cX10_mostWeightAtPoint 15 = .ok (.invokestatic 15, 3) := dc_184 (gB_l lq_cX10_mostWeightAtPoint (p := 15) (o := 184) rfl) (gB_l lq_cX10_mostWeightAtPoint (p := 16) (o := 0) rfl) (gB_l lq_cX10_mostWeightAtPoint (p := 17) (o := 15) rfl) rfl
theorem dX10_mostWeightAtPoint_18 : decode cX10_mostWeightAtPoint 18 = .ok (.invokestatic 25, 3) := dc_184 (gB_l lq_cX10_mostWeightAtPoint (p := 18) (o := 184) rfl) (gB_l lq_cX10_mostWeightAtPoint (p := 19) (o := 0) rfl) (gB_l lq_cX10_mostWeightAtPoint (p := 20) (o := 25) rfl) rfl
theorem dX10_mostWeightAtPoint_21 : decode cX10_mostWeightAtPoint 21 = .ok (.istore_n 1, 1) := dc_60 (gB_l lq_cX10_mostWeightAtPoint (p := 21) (o := 60) rfl)
theorem dX10_mostWeightAtPoint_22 : decode cX10_mostWeightAtPoint 22 = .ok (.iinc 2 1, 3) := dc_132 (gB_l lq_cX10_mostWeightAtPoint (p := 22) (o := 132) rfl) (gB_l lq_cX10_mostWeightAtPoint (p := 23) (o := 2) rfl) (gB_l lq_cX10_mostWeightAtPoint (p := 24) (o := 1) rfl) rfl
theorem dX10_mostWeightAtPoint_25 : decode cX10_mostWeightAtPoint 25 = .ok (.goto (-21), 3) := dc_167 (gB_l lq_cX10_mostWeightAtPoint (p := 25) (o := 167) rfl) (gB_l lq_cX10_mostWeightAtPoint (p := 26) (o := 255) rfl) (gB_l lq_cX10_mostWeightAtPoint (p := 27) (o := 235) rfl) rfl
theorem dX10_mostWeightAtPoint_28 : decode cX10_mostWeightAtPoint 28 = .ok (.iload_n 1, 1) := dc_27 (gB_l lq_cX10_mostWeightAtPoint (p := 28) (o := 27) rfl)
theorem dX10_mostWeightAtPoint_29 : decode cX10_mostWeightAtPoint 29 = .ok (.ireturn, 1) := dc_172 (gB_l lq_cX10_mostWeightAtPoint (p := 29) (o := 172) rfl)
abbrev r1_cX10_partCount : List Nat := [61, 132, 3, 1, 167, 255, 226, 27, 172]
def a0_cX10_partCount : List Nat := [3, 60, 3, 61, 3, 62, 29, 42, 180, 0, 9, 162, 0, 28, 28, 29, 122, 4, 126, 154, 0, 14, 132, 1, 1, 28, 42, 29, 184, 0, 41, 128]
abbrev r0_cX10_partCount : List Nat := a0_cX10_partCount ++ r1_cX10_partCount
theorem lq_cX10_partCount : (cX10_partCount).data.toList.map UInt8.toNat = r0_cX10_partCount := by decide +kernel
theorem q1_cX10_partCount : ∀ i, (r0_cX10_partCount)[32 + i]? = (r1_cX10_partCount)[i]? := chn (A := a0_cX10_partCount) (B := r1_cX10_partCount) (n := 0) (k := 32) rfl (ch0 (R := r0_cX10_partCount))
theorem dX10_partCount_0 : decode cX10_partCount 0 = .ok (.iconst 0, 1) := dc_3 (gB_l lq_cX10_partCount (p := 0) (o := 3) rfl)
theorem dX10_partCount_1 : decode cX10_partCount 1 = .ok (.istore_n 1, 1) := dc_60 (gB_l lq_cX10_partCount (p := 1) (o := 60) rfl)
theorem dX10_partCount_2 : decode cX10_partCount 2 = .ok (.iconst 0, 1) := dc_3 (gB_l lq_cX10_partCount (p := 2) (o := 3) rfl)
theorem dX10_partCount_3 : decode cX10_partCount 3 = .ok (.istore_n 2, 1) := dc_61 (gB_l lq_cX10_partCount (p := 3) (o := 61) rfl)
theorem dX10_partCount_4 : decode cX10_partCount 4 = .ok (.iconst 0, 1) := dc_3 (gB_l lq_cX10_partCount (p := 4) (o := 3) rfl)
theorem dX10_partCount_5 : decode cX10_partCount 5 = .ok (.istore_n 3, 1) := dc_62 (gB_l lq_cX10_partCount (p := 5) (o := 62) rfl)
theorem dX10_partCount_6 : decode cX10_partCount 6 = .ok (.iload_n 3, 1) := dc_29 (gB_l lq_cX10_partCount (p := 6) (o := 29) rfl)
theorem dX10_partCount_7 : decode cX10_partCount 7 = .ok (.aload_n 0, 1) := dc_42 (gB_l lq_cX10_partCount (p := 7) (o := 42) rfl)
theorem dX10_partCount_8 : decode cX10_partCount 8 = .ok (.getfield 9, 3) := dc_180 (gB_l lq_cX10_partCount (p := 8) (o := 180) rfl) (gB_l lq_cX10_partCount (p := 9) (o := 0) rfl) (gB_l lq_cX10_partCount (p := 10) (o := 9) rfl) rfl
theorem dX10_partCount_11 : decode cX10_partCount 11 = .ok (.if_icmp .ge 28, 3) := dc_162 (gB_l lq_cX10_partCount (p := 11) (o := 162) rfl) (gB_l lq_cX10_partCount (p := 12) (o := 0) rfl) (gB_l lq_cX10_partCount (p := 13) (o := 28) rfl) rfl
theorem dX10_partCount_14 : decode cX10_partCount 14 = .ok (.iload_n 2, 1) := dc_28 (gB_l lq_cX10_partCount (p := 14) (o := 28) rfl)
theorem dX10_partCount_15 : decode cX10_partCount 15 = .ok (.iload_n 3, 1) := dc_29 (gB_l lq_cX10_partCount (p := 15) (o := 29) rfl)
theorem dX10_partCount_16 : decode cX10_partCount 16 = .ok (.ishr, 1) := dc_122 (gB_l lq_cX10_partCount (p := 16) (o := 122) rfl)
theorem dX10_partCount_17 : decode cX10_partCount 17 = .ok (.iconst 1, 1) := dc_4 (gB_l lq_cX10_partCount (p := 17) (o := 4) rfl)
theorem dX10_partCount_18 : decode cX10_partCount 18 = .ok (.iand, 1) := dc_126 (gB_l lq_cX10_partCount (p := 18) (o := 126) rfl)
theorem dX10_partCount_19 : decode cX10_partCount 19 = .ok (.ifCond .ne 14, 3) := dc_154 (gB_l lq_cX10_partCount (p := 19) (o := 154) rfl) (gB_l lq_cX10_partCount (p := 20) (o := 0) rfl) (gB_l lq_cX10_partCount (p := 21) (o := 14) rfl) rfl
theorem dX10_partCount_22 : decode cX10_partCount 22 = .ok (.iinc 1 1, 3) := dc_132 (gB_l lq_cX10_partCount (p := 22) (o := 132) rfl) (gB_l lq_cX10_partCount (p := 23) (o := 1) rfl) (gB_l lq_cX10_partCount (p := 24) (o := 1) rfl) rfl
theorem dX10_partCount_25 : decode cX10_partCount 25 = .ok (.iload_n 2, 1) := dc_28 (gB_l lq_cX10_partCount (p := 25) (o := 28) rfl)
theorem dX10_partCount_26 : decode cX10_partCount 26 = .ok (.aload_n 0, 1) := dc_42 (gB_l lq_cX10_partCount (p := 26) (o := 42) rfl)
theorem dX10_partCount_27 : decode cX10_partCount 27 = .ok (.iload_n 3, 1) := dc_29 (gB_l lq_cX10_partCount (p := 27) (o := 29) rfl)
theorem dX10_partCount_28 : decode cX10_partCount 28 = .ok (.invokestatic 41, 3) := dc_184 (gB_l lq_cX10_partCount (p := 28) (o := 184) rfl) (gB_l lq_cX10_partCount (p := 29) (o := 0) rfl) (gB_l lq_cX10_partCount (p := 30) (o := 41) rfl) rfl
theorem dX10_partCount_31 : decode cX10_partCount 31 = .ok (.ior, 1) := dc_128 (gB_l lq_cX10_partCount (p := 31) (o := 128) rfl)
theorem dX10_partCount_32 : decode cX10_partCount 32 = .ok (.istore_n 2, 1) := dc_61 (gB_c lq_cX10_partCount q1_cX10_partCount 0 (o := 61) rfl)
theorem dX10_partCount_33 : decode cX10_partCount 33 = .ok (.iinc 3 1, 3) := dc_132 (gB_c lq_cX10_partCount q1_cX10_partCount 1 (o := 132) rfl) (gB_c lq_cX10_partCount q1_cX10_partCount 2 (o := 3) rfl) (gB_c lq_cX10_partCount q1_cX10_partCount 3 (o := 1) rfl) rfl
theorem dX10_partCount_36 : decode cX10_partCount 36 = .ok (.goto (-30), 3) := dc_167 (gB_c lq_cX10_partCount q1_cX10_partCount 4 (o := 167) rfl) (gB_c lq_cX10_partCount q1_cX10_partCount 5 (o := 255) rfl) (gB_c lq_cX10_partCount q1_cX10_partCount 6 (o := 226) rfl) rfl
theorem dX10_partCount_39 : decode cX10_partCount 39 = .ok (.iload_n 1, 1) := dc_27 (gB_c lq_cX10_partCount q1_cX10_partCount 7 (o := 27) rfl)
theorem dX10_partCount_40 : decode cX10_partCount 40 = .ok (.ireturn, 1) := dc_172 (gB_c lq_cX10_partCount q1_cX10_partCount 8 (o := 172) rfl)
abbrev r0_cX10_partOf : List Nat := [4, 27, 120, 61, 4, 62, 29, 42, 180, 0, 9, 162, 0, 15, 42, 28, 184, 0, 38, 61, 132, 3, 1, 167, 255, 239, 28, 172]
theorem lq_cX10_partOf : (cX10_partOf).data.toList.map UInt8.toNat = r0_cX10_partOf := by decide +kernel
theorem dX10_partOf_0 : decode cX10_partOf 0 = .ok (.iconst 1, 1) := dc_4 (gB_l lq_cX10_partOf (p := 0) (o := 4) rfl)
theorem dX10_partOf_1 : decode cX10_partOf 1 = .ok (.iload_n 1, 1) := dc_27 (gB_l lq_cX10_partOf (p := 1) (o := 27) rfl)
theorem dX10_partOf_2 : decode cX10_partOf 2 = .ok (.ishl, 1) := dc_120 (gB_l lq_cX10_partOf (p := 2) (o := 120) rfl)
theorem dX10_partOf_3 : decode cX10_partOf 3 = .ok (.istore_n 2, 1) := dc_61 (gB_l lq_cX10_partOf (p := 3) (o := 61) rfl)
theorem dX10_partOf_4 : decode cX10_partOf 4 = .ok (.iconst 1, 1) := dc_4 (gB_l lq_cX10_partOf (p := 4) (o := 4) rfl)
theorem dX10_partOf_5 : decode cX10_partOf 5 = .ok (.istore_n 3, 1) := dc_62 (gB_l lq_cX10_partOf (p := 5) (o := 62) rfl)
theorem dX10_partOf_6 : decode cX10_partOf 6 = .ok (.iload_n 3, 1) := dc_29 (gB_l lq_cX10_partOf (p := 6) (o := 29) rfl)
theorem dX10_partOf_7 : decode cX10_partOf 7 = .ok (.aload_n 0, 1) := dc_42 (gB_l lq_cX10_partOf (p := 7) (o := 42) rfl)
theorem dX10_partOf_8 : decode cX10_partOf 8 = .ok (.getfield 9, 3) := dc_180 (gB_l lq_cX10_partOf (p := 8) (o := 180) rfl) (gB_l lq_cX10_partOf (p := 9) (o := 0) rfl) (gB_l lq_cX10_partOf (p := 10) (o := 9) rfl) rfl
theorem dX10_partOf_11 : decode cX10_partOf 11 = .ok (.if_icmp .ge 15, 3) := dc_162 (gB_l lq_cX10_partOf (p := 11) (o := 162) rfl) (gB_l lq_cX10_partOf (p := 12) (o := 0) rfl) (gB_l lq_cX10_partOf (p := 13) (o := 15) rfl) rfl
theorem dX10_partOf_14 : decode cX10_partOf 14 = .ok (.aload_n 0, 1) := dc_42 (gB_l lq_cX10_partOf (p := 14) (o := 42) rfl)
theorem dX10_partOf_15 : decode cX10_partOf 15 = .ok (.iload_n 2, 1) := dc_28 (gB_l lq_cX10_partOf (p := 15) (o := 28) rfl)
theorem dX10_partOf_16 : decode cX10_partOf 16 = .ok (.invokestatic 38, 3) := dc_184 (gB_l lq_cX10_partOf (p := 16) (o := 184) rfl) (gB_l lq_cX10_partOf (p := 17) (o := 0) rfl) (gB_l lq_cX10_partOf (p := 18) (o := 38) rfl) rfl
theorem dX10_partOf_19 : decode cX10_partOf 19 = .ok (.istore_n 2, 1) := dc_61 (gB_l lq_cX10_partOf (p := 19) (o := 61) rfl)
theorem dX10_partOf_20 : decode cX10_partOf 20 = .ok (.iinc 3 1, 3) := dc_132 (gB_l lq_cX10_partOf (p := 20) (o := 132) rfl) (gB_l lq_cX10_partOf (p := 21) (o := 3) rfl) (gB_l lq_cX10_partOf (p := 22) (o := 1) rfl) rfl
theorem dX10_partOf_23 : decode cX10_partOf 23 = .ok (.goto (-17), 3) := dc_167 (gB_l lq_cX10_partOf (p := 23) (o := 167) rfl) (gB_l lq_cX10_partOf (p := 24) (o := 255) rfl) (gB_l lq_cX10_partOf (p := 25) (o := 239) rfl) rfl
theorem dX10_partOf_26 : decode cX10_partOf 26 = .ok (.iload_n 2, 1) := dc_28 (gB_l lq_cX10_partOf (p := 26) (o := 28) rfl)
theorem dX10_partOf_27 : decode cX10_partOf 27 = .ok (.ireturn, 1) := dc_172 (gB_l lq_cX10_partOf (p := 27) (o := 172) rfl)
abbrev r2_cX10_shrinkAway : List Nat := [21, 6, 2, 160, 0, 12, 42, 21, 5, 182, 0, 70, 167, 0, 11, 42, 21, 5, 21, 6, 182, 0, 74, 132, 3, 1, 167, 255, 175, 27, 172]
def a1_cX10_shrinkAway : List Nat := [2, 160, 0, 5, 27, 172, 27, 42, 21, 5, 182, 0, 30, 184, 0, 25, 60, 42, 42, 180, 0, 34, 21, 5, 46, 21, 4, 184, 0, 52, 54, 6]
abbrev r1_cX10_shrinkAway : List Nat := a1_cX10_shrinkAway ++ r2_cX10_shrinkAway
def a0_cX10_shrinkAway : List Nat := [3, 60, 42, 180, 0, 9, 61, 3, 62, 29, 28, 162, 0, 82, 42, 182, 0, 48, 54, 4, 42, 21, 4, 21, 4, 184, 0, 52, 54, 5, 21, 5]
abbrev r0_cX10_shrinkAway : List Nat := a0_cX10_shrinkAway ++ r1_cX10_shrinkAway
theorem lq_cX10_shrinkAway : (cX10_shrinkAway).data.toList.map UInt8.toNat = r0_cX10_shrinkAway := by decide +kernel
theorem q1_cX10_shrinkAway : ∀ i, (r0_cX10_shrinkAway)[32 + i]? = (r1_cX10_shrinkAway)[i]? := chn (A := a0_cX10_shrinkAway) (B := r1_cX10_shrinkAway) (n := 0) (k := 32) rfl (ch0 (R := r0_cX10_shrinkAway))
theorem q2_cX10_shrinkAway : ∀ i, (r0_cX10_shrinkAway)[64 + i]? = (r2_cX10_shrinkAway)[i]? := chn (A := a1_cX10_shrinkAway) (B := r2_cX10_shrinkAway) (n := 32) (k := 32) rfl q1_cX10_shrinkAway
theorem dX10_shrinkAway_0 : decode cX10_shrinkAway 0 = .ok (.iconst 0, 1) := dc_3 (gB_l lq_cX10_shrinkAway (p := 0) (o := 3) rfl)
theorem dX10_shrinkAway_1 : decode cX10_shrinkAway 1 = .ok (.istore_n 1, 1) := dc_60 (gB_l lq_cX10_shrinkAway (p := 1) (o := 60) rfl)
theorem dX10_shrinkAway_2 : decode cX10_shrinkAway 2 = .ok (.aload_n 0, 1) := dc_42 (gB_l lq_cX10_shrinkAway (p := 2) (o := 42) rfl)
theorem dX10_shrinkAway_3 : decode cX10_shrinkAway 3 = .ok (.getfield 9, 3) := dc_180 (gB_l lq_cX10_shrinkAway (p := 3) (o := 180) rfl) (gB_l lq_cX10_shrinkAway (p := 4) (o := 0) rfl) (gB_l lq_cX10_shrinkAway (p := 5) (o := 9) rfl) rfl
theorem dX10_shrinkAway_6 : decode cX10_shrinkAway 6 = .ok (.istore_n 2, 1) := dc_61 (gB_l lq_cX10_shrinkAway (p := 6) (o := 61) rfl)
theorem dX10_shrinkAway_7 : decode cX10_shrinkAway 7 = .ok (.iconst 0, 1) := dc_3 (gB_l lq_cX10_shrinkAway (p := 7) (o := 3) rfl)
theorem dX10_shrinkAway_8 : decode cX10_shrinkAway 8 = .ok (.istore_n 3, 1) := dc_62 (gB_l lq_cX10_shrinkAway (p := 8) (o := 62) rfl)
theorem dX10_shrinkAway_9 : decode cX10_shrinkAway 9 = .ok (.iload_n 3, 1) := dc_29 (gB_l lq_cX10_shrinkAway (p := 9) (o := 29) rfl)
theorem dX10_shrinkAway_10 : decode cX10_shrinkAway 10 = .ok (.iload_n 2, 1) := dc_28 (gB_l lq_cX10_shrinkAway (p := 10) (o := 28) rfl)
theorem dX10_shrinkAway_11 : decode cX10_shrinkAway 11 = .ok (.if_icmp .ge 82, 3) := dc_162 (gB_l lq_cX10_shrinkAway (p := 11) (o := 162) rfl) (gB_l lq_cX10_shrinkAway (p := 12) (o := 0) rfl) (gB_l lq_cX10_shrinkAway (p := 13) (o := 82) rfl) rfl
theorem dX10_shrinkAway_14 : decode cX10_shrinkAway 14 = .ok (.aload_n 0, 1) := dc_42 (gB_l lq_cX10_shrinkAway (p := 14) (o := 42) rfl)
theorem dX10_shrinkAway_15 : decode cX10_shrinkAway 15 = .ok (.invokevirtual 48, 3) := dc_182 (gB_l lq_cX10_shrinkAway (p := 15) (o := 182) rfl) (gB_l lq_cX10_shrinkAway (p := 16) (o := 0) rfl) (gB_l lq_cX10_shrinkAway (p := 17) (o := 48) rfl) rfl
theorem dX10_shrinkAway_18 : decode cX10_shrinkAway 18 = .ok (.istore 4, 2) := dc_54 (gB_l lq_cX10_shrinkAway (p := 18) (o := 54) rfl) (gB_l lq_cX10_shrinkAway (p := 19) (o := 4) rfl)
theorem dX10_shrinkAway_20 : decode cX10_shrinkAway 20 = .ok (.aload_n 0, 1) := dc_42 (gB_l lq_cX10_shrinkAway (p := 20) (o := 42) rfl)
theorem dX10_shrinkAway_21 : decode cX10_shrinkAway 21 = .ok (.iload 4, 2) := dc_21 (gB_l lq_cX10_shrinkAway (p := 21) (o := 21) rfl) (gB_l lq_cX10_shrinkAway (p := 22) (o := 4) rfl)
theorem dX10_shrinkAway_23 : decode cX10_shrinkAway 23 = .ok (.iload 4, 2) := dc_21 (gB_l lq_cX10_shrinkAway (p := 23) (o := 21) rfl) (gB_l lq_cX10_shrinkAway (p := 24) (o := 4) rfl)
theorem dX10_shrinkAway_25 : decode cX10_shrinkAway 25 = .ok (.invokestatic 52, 3) := dc_184 (gB_l lq_cX10_shrinkAway (p := 25) (o := 184) rfl) (gB_l lq_cX10_shrinkAway (p := 26) (o := 0) rfl) (gB_l lq_cX10_shrinkAway (p := 27) (o := 52) rfl) rfl
theorem dX10_shrinkAway_28 : decode cX10_shrinkAway 28 = .ok (.istore 5, 2) := dc_54 (gB_l lq_cX10_shrinkAway (p := 28) (o := 54) rfl) (gB_l lq_cX10_shrinkAway (p := 29) (o := 5) rfl)
theorem dX10_shrinkAway_30 : decode cX10_shrinkAway 30 = .ok (.iload 5, 2) := dc_21 (gB_l lq_cX10_shrinkAway (p := 30) (o := 21) rfl) (gB_l lq_cX10_shrinkAway (p := 31) (o := 5) rfl)
theorem dX10_shrinkAway_32 : decode cX10_shrinkAway 32 = .ok (.iconst (-1), 1) := dc_2 (gB_c lq_cX10_shrinkAway q1_cX10_shrinkAway 0 (o := 2) rfl)
theorem dX10_shrinkAway_33 : decode cX10_shrinkAway 33 = .ok (.if_icmp .ne 5, 3) := dc_160 (gB_c lq_cX10_shrinkAway q1_cX10_shrinkAway 1 (o := 160) rfl) (gB_c lq_cX10_shrinkAway q1_cX10_shrinkAway 2 (o := 0) rfl) (gB_c lq_cX10_shrinkAway q1_cX10_shrinkAway 3 (o := 5) rfl) rfl
theorem dX10_shrinkAway_36 : decode cX10_shrinkAway 36 = .ok (.iload_n 1, 1) := dc_27 (gB_c lq_cX10_shrinkAway q1_cX10_shrinkAway 4 (o := 27) rfl)
theorem dX10_shrinkAway_37 : decode cX10_shrinkAway 37 = .ok (.ireturn, 1) := dc_172 (gB_c lq_cX10_shrinkAway q1_cX10_shrinkAway 5 (o := 172) rfl)
theorem dX10_shrinkAway_38 : decode cX10_shrinkAway 38 = .ok (.iload_n 1, 1) := dc_27 (gB_c lq_cX10_shrinkAway q1_cX10_shrinkAway 6 (o := 27) rfl)
theorem dX10_shrinkAway_39 : decode cX10_shrinkAway 39 = .ok (.aload_n 0, 1) := dc_42 (gB_c lq_cX10_shrinkAway q1_cX10_shrinkAway 7 (o := 42) rfl)
theorem dX10_shrinkAway_40 : decode cX10_shrinkAway 40 = .ok (.iload 5, 2) := dc_21 (gB_c lq_cX10_shrinkAway q1_cX10_shrinkAway 8 (o := 21) rfl) (gB_c lq_cX10_shrinkAway q1_cX10_shrinkAway 9 (o := 5) rfl)
theorem dX10_shrinkAway_42 : decode cX10_shrinkAway 42 = .ok (.invokevirtual 30, 3) := dc_182 (gB_c lq_cX10_shrinkAway q1_cX10_shrinkAway 10 (o := 182) rfl) (gB_c lq_cX10_shrinkAway q1_cX10_shrinkAway 11 (o := 0) rfl) (gB_c lq_cX10_shrinkAway q1_cX10_shrinkAway 12 (o := 30) rfl) rfl
theorem dX10_shrinkAway_45 : decode cX10_shrinkAway 45 = .ok (.invokestatic 25, 3) := dc_184 (gB_c lq_cX10_shrinkAway q1_cX10_shrinkAway 13 (o := 184) rfl) (gB_c lq_cX10_shrinkAway q1_cX10_shrinkAway 14 (o := 0) rfl) (gB_c lq_cX10_shrinkAway q1_cX10_shrinkAway 15 (o := 25) rfl) rfl
theorem dX10_shrinkAway_48 : decode cX10_shrinkAway 48 = .ok (.istore_n 1, 1) := dc_60 (gB_c lq_cX10_shrinkAway q1_cX10_shrinkAway 16 (o := 60) rfl)
theorem dX10_shrinkAway_49 : decode cX10_shrinkAway 49 = .ok (.aload_n 0, 1) := dc_42 (gB_c lq_cX10_shrinkAway q1_cX10_shrinkAway 17 (o := 42) rfl)
theorem dX10_shrinkAway_50 : decode cX10_shrinkAway 50 = .ok (.aload_n 0, 1) := dc_42 (gB_c lq_cX10_shrinkAway q1_cX10_shrinkAway 18 (o := 42) rfl)
theorem dX10_shrinkAway_51 : decode cX10_shrinkAway 51 = .ok (.getfield 34, 3) := dc_180 (gB_c lq_cX10_shrinkAway q1_cX10_shrinkAway 19 (o := 180) rfl) (gB_c lq_cX10_shrinkAway q1_cX10_shrinkAway 20 (o := 0) rfl) (gB_c lq_cX10_shrinkAway q1_cX10_shrinkAway 21 (o := 34) rfl) rfl
theorem dX10_shrinkAway_54 : decode cX10_shrinkAway 54 = .ok (.iload 5, 2) := dc_21 (gB_c lq_cX10_shrinkAway q1_cX10_shrinkAway 22 (o := 21) rfl) (gB_c lq_cX10_shrinkAway q1_cX10_shrinkAway 23 (o := 5) rfl)
theorem dX10_shrinkAway_56 : decode cX10_shrinkAway 56 = .ok (.iaload, 1) := dc_46 (gB_c lq_cX10_shrinkAway q1_cX10_shrinkAway 24 (o := 46) rfl)
theorem dX10_shrinkAway_57 : decode cX10_shrinkAway 57 = .ok (.iload 4, 2) := dc_21 (gB_c lq_cX10_shrinkAway q1_cX10_shrinkAway 25 (o := 21) rfl) (gB_c lq_cX10_shrinkAway q1_cX10_shrinkAway 26 (o := 4) rfl)
theorem dX10_shrinkAway_59 : decode cX10_shrinkAway 59 = .ok (.invokestatic 52, 3) := dc_184 (gB_c lq_cX10_shrinkAway q1_cX10_shrinkAway 27 (o := 184) rfl) (gB_c lq_cX10_shrinkAway q1_cX10_shrinkAway 28 (o := 0) rfl) (gB_c lq_cX10_shrinkAway q1_cX10_shrinkAway 29 (o := 52) rfl) rfl
theorem dX10_shrinkAway_62 : decode cX10_shrinkAway 62 = .ok (.istore 6, 2) := dc_54 (gB_c lq_cX10_shrinkAway q1_cX10_shrinkAway 30 (o := 54) rfl) (gB_c lq_cX10_shrinkAway q1_cX10_shrinkAway 31 (o := 6) rfl)
theorem dX10_shrinkAway_64 : decode cX10_shrinkAway 64 = .ok (.iload 6, 2) := dc_21 (gB_c lq_cX10_shrinkAway q2_cX10_shrinkAway 0 (o := 21) rfl) (gB_c lq_cX10_shrinkAway q2_cX10_shrinkAway 1 (o := 6) rfl)
theorem dX10_shrinkAway_66 : decode cX10_shrinkAway 66 = .ok (.iconst (-1), 1) := dc_2 (gB_c lq_cX10_shrinkAway q2_cX10_shrinkAway 2 (o := 2) rfl)
theorem dX10_shrinkAway_67 : decode cX10_shrinkAway 67 = .ok (.if_icmp .ne 12, 3) := dc_160 (gB_c lq_cX10_shrinkAway q2_cX10_shrinkAway 3 (o := 160) rfl) (gB_c lq_cX10_shrinkAway q2_cX10_shrinkAway 4 (o := 0) rfl) (gB_c lq_cX10_shrinkAway q2_cX10_shrinkAway 5 (o := 12) rfl) rfl
theorem dX10_shrinkAway_70 : decode cX10_shrinkAway 70 = .ok (.aload_n 0, 1) := dc_42 (gB_c lq_cX10_shrinkAway q2_cX10_shrinkAway 6 (o := 42) rfl)
theorem dX10_shrinkAway_71 : decode cX10_shrinkAway 71 = .ok (.iload 5, 2) := dc_21 (gB_c lq_cX10_shrinkAway q2_cX10_shrinkAway 7 (o := 21) rfl) (gB_c lq_cX10_shrinkAway q2_cX10_shrinkAway 8 (o := 5) rfl)
theorem dX10_shrinkAway_73 : decode cX10_shrinkAway 73 = .ok (.invokevirtual 70, 3) := dc_182 (gB_c lq_cX10_shrinkAway q2_cX10_shrinkAway 9 (o := 182) rfl) (gB_c lq_cX10_shrinkAway q2_cX10_shrinkAway 10 (o := 0) rfl) (gB_c lq_cX10_shrinkAway q2_cX10_shrinkAway 11 (o := 70) rfl) rfl
theorem dX10_shrinkAway_76 : decode cX10_shrinkAway 76 = .ok (.goto 11, 3) := dc_167 (gB_c lq_cX10_shrinkAway q2_cX10_shrinkAway 12 (o := 167) rfl) (gB_c lq_cX10_shrinkAway q2_cX10_shrinkAway 13 (o := 0) rfl) (gB_c lq_cX10_shrinkAway q2_cX10_shrinkAway 14 (o := 11) rfl) rfl
theorem dX10_shrinkAway_79 : decode cX10_shrinkAway 79 = .ok (.aload_n 0, 1) := dc_42 (gB_c lq_cX10_shrinkAway q2_cX10_shrinkAway 15 (o := 42) rfl)
theorem dX10_shrinkAway_80 : decode cX10_shrinkAway 80 = .ok (.iload 5, 2) := dc_21 (gB_c lq_cX10_shrinkAway q2_cX10_shrinkAway 16 (o := 21) rfl) (gB_c lq_cX10_shrinkAway q2_cX10_shrinkAway 17 (o := 5) rfl)
theorem dX10_shrinkAway_82 : decode cX10_shrinkAway 82 = .ok (.iload 6, 2) := dc_21 (gB_c lq_cX10_shrinkAway q2_cX10_shrinkAway 18 (o := 21) rfl) (gB_c lq_cX10_shrinkAway q2_cX10_shrinkAway 19 (o := 6) rfl)
theorem dX10_shrinkAway_84 : decode cX10_shrinkAway 84 = .ok (.invokevirtual 74, 3) := dc_182 (gB_c lq_cX10_shrinkAway q2_cX10_shrinkAway 20 (o := 182) rfl) (gB_c lq_cX10_shrinkAway q2_cX10_shrinkAway 21 (o := 0) rfl) (gB_c lq_cX10_shrinkAway q2_cX10_shrinkAway 22 (o := 74) rfl) rfl
theorem dX10_shrinkAway_87 : decode cX10_shrinkAway 87 = .ok (.iinc 3 1, 3) := dc_132 (gB_c lq_cX10_shrinkAway q2_cX10_shrinkAway 23 (o := 132) rfl) (gB_c lq_cX10_shrinkAway q2_cX10_shrinkAway 24 (o := 3) rfl) (gB_c lq_cX10_shrinkAway q2_cX10_shrinkAway 25 (o := 1) rfl) rfl
theorem dX10_shrinkAway_90 : decode cX10_shrinkAway 90 = .ok (.goto (-81), 3) := dc_167 (gB_c lq_cX10_shrinkAway q2_cX10_shrinkAway 26 (o := 167) rfl) (gB_c lq_cX10_shrinkAway q2_cX10_shrinkAway 27 (o := 255) rfl) (gB_c lq_cX10_shrinkAway q2_cX10_shrinkAway 28 (o := 175) rfl) rfl
theorem dX10_shrinkAway_93 : decode cX10_shrinkAway 93 = .ok (.iload_n 1, 1) := dc_27 (gB_c lq_cX10_shrinkAway q2_cX10_shrinkAway 29 (o := 27) rfl)
theorem dX10_shrinkAway_94 : decode cX10_shrinkAway 94 = .ok (.ireturn, 1) := dc_172 (gB_c lq_cX10_shrinkAway q2_cX10_shrinkAway 30 (o := 172) rfl)
abbrev r1_cX10_thinnestHalf : List Nat := [79, 54, 4, 21, 4, 28, 162, 0, 8, 21, 4, 61, 29, 60, 132, 3, 1, 167, 255, 214, 27, 172]
def a0_cX10_thinnestHalf : List Nat := [3, 60, 18, 78, 61, 3, 62, 29, 42, 182, 0, 48, 163, 0, 40, 29, 184, 0, 55, 42, 180, 0, 9, 5, 108, 160, 0, 21, 42, 29, 184, 0]
abbrev r0_cX10_thinnestHalf : List Nat := a0_cX10_thinnestHalf ++ r1_cX10_thinnestHalf
theorem lq_cX10_thinnestHalf : (cX10_thinnestHalf).data.toList.map UInt8.toNat = r0_cX10_thinnestHalf := by decide +kernel
theorem q1_cX10_thinnestHalf : ∀ i, (r0_cX10_thinnestHalf)[32 + i]? = (r1_cX10_thinnestHalf)[i]? := chn (A := a0_cX10_thinnestHalf) (B := r1_cX10_thinnestHalf) (n := 0) (k := 32) rfl (ch0 (R := r0_cX10_thinnestHalf))
theorem dX10_thinnestHalf_0 : decode cX10_thinnestHalf 0 = .ok (.iconst 0, 1) := dc_3 (gB_l lq_cX10_thinnestHalf (p := 0) (o := 3) rfl)
theorem dX10_thinnestHalf_1 : decode cX10_thinnestHalf 1 = .ok (.istore_n 1, 1) := dc_60 (gB_l lq_cX10_thinnestHalf (p := 1) (o := 60) rfl)
theorem dX10_thinnestHalf_2 : decode cX10_thinnestHalf 2 = .ok (.ldc 78, 2) := dc_18 (gB_l lq_cX10_thinnestHalf (p := 2) (o := 18) rfl) (gB_l lq_cX10_thinnestHalf (p := 3) (o := 78) rfl)
theorem dX10_thinnestHalf_4 : decode cX10_thinnestHalf 4 = .ok (.istore_n 2, 1) := dc_61 (gB_l lq_cX10_thinnestHalf (p := 4) (o := 61) rfl)
theorem dX10_thinnestHalf_5 : decode cX10_thinnestHalf 5 = .ok (.iconst 0, 1) := dc_3 (gB_l lq_cX10_thinnestHalf (p := 5) (o := 3) rfl)
