/-! decode rows -/
theorem dJ0_charAt_5068e_0 : decode cJ0_charAt_5068e 0 = .ok (.aload_n 0, 1) := by decide +kernel
theorem dJ0_charAt_5068e_1 : decode cJ0_charAt_5068e 1 = .ok (.invokevirtual 492, 3) := by decide +kernel
theorem dJ0_charAt_5068e_4 : decode cJ0_charAt_5068e 4 = .ok (.ifCond .eq 12, 3) := by decide +kernel
theorem dJ0_charAt_5068e_7 : decode cJ0_charAt_5068e 7 = .ok (.aload_n 0, 1) := by decide +kernel
theorem dJ0_charAt_5068e_8 : decode cJ0_charAt_5068e 8 = .ok (.getfield 9, 3) := by decide +kernel
theorem dJ0_charAt_5068e_11 : decode cJ0_charAt_5068e 11 = .ok (.iload_n 1, 1) := by decide +kernel
theorem dJ0_charAt_5068e_12 : decode cJ0_charAt_5068e 12 = .ok (.invokestatic 495, 3) := by decide +kernel
theorem dJ0_charAt_5068e_15 : decode cJ0_charAt_5068e 15 = .ok (.ireturn, 1) := by decide +kernel
theorem dJ0_charAt_5068e_16 : decode cJ0_charAt_5068e 16 = .ok (.aload_n 0, 1) := by decide +kernel
theorem dJ0_charAt_5068e_17 : decode cJ0_charAt_5068e 17 = .ok (.getfield 9, 3) := by decide +kernel
theorem dJ0_charAt_5068e_20 : decode cJ0_charAt_5068e 20 = .ok (.iload_n 1, 1) := by decide +kernel
theorem dJ0_charAt_5068e_21 : decode cJ0_charAt_5068e 21 = .ok (.invokestatic 498, 3) := by decide +kernel
theorem dJ0_charAt_5068e_24 : decode cJ0_charAt_5068e 24 = .ok (.ireturn, 1) := by decide +kernel
theorem dJ0_checkIndex_df160_0 : decode cJ0_checkIndex_df160 0 = .ok (.iload_n 0, 1) := by decide +kernel
theorem dJ0_checkIndex_df160_1 : decode cJ0_checkIndex_df160 1 = .ok (.iload_n 1, 1) := by decide +kernel
theorem dJ0_checkIndex_df160_2 : decode cJ0_checkIndex_df160 2 = .ok (.getstatic 1053, 3) := by decide +kernel
theorem dJ0_checkIndex_df160_5 : decode cJ0_checkIndex_df160 5 = .ok (.invokestatic 1059, 3) := by decide +kernel
theorem dJ0_checkIndex_df160_8 : decode cJ0_checkIndex_df160 8 = .ok (.pop, 1) := by decide +kernel
theorem dJ0_checkIndex_df160_9 : decode cJ0_checkIndex_df160 9 = .ok (.return_, 1) := by decide +kernel
theorem dJ0_coder_7d493_0 : decode cJ0_coder_7d493 0 = .ok (.getstatic 38, 3) := by decide +kernel
theorem dJ0_coder_7d493_3 : decode cJ0_coder_7d493 3 = .ok (.ifCond .eq 10, 3) := by decide +kernel
theorem dJ0_coder_7d493_6 : decode cJ0_coder_7d493 6 = .ok (.aload_n 0, 1) := by decide +kernel
theorem dJ0_coder_7d493_7 : decode cJ0_coder_7d493 7 = .ok (.getfield 15, 3) := by decide +kernel
theorem dJ0_coder_7d493_10 : decode cJ0_coder_7d493 10 = .ok (.goto 4, 3) := by decide +kernel
theorem dJ0_coder_7d493_13 : decode cJ0_coder_7d493 13 = .ok (.iconst 1, 1) := by decide +kernel
theorem dJ0_coder_7d493_14 : decode cJ0_coder_7d493 14 = .ok (.ireturn, 1) := by decide +kernel
theorem dJ0_isLatin1_aae02_0 : decode cJ0_isLatin1_aae02 0 = .ok (.getstatic 38, 3) := by decide +kernel
theorem dJ0_isLatin1_aae02_3 : decode cJ0_isLatin1_aae02 3 = .ok (.ifCond .eq 14, 3) := by decide +kernel
theorem dJ0_isLatin1_aae02_6 : decode cJ0_isLatin1_aae02 6 = .ok (.aload_n 0, 1) := by decide +kernel
theorem dJ0_isLatin1_aae02_7 : decode cJ0_isLatin1_aae02 7 = .ok (.getfield 15, 3) := by decide +kernel
theorem dJ0_isLatin1_aae02_10 : decode cJ0_isLatin1_aae02 10 = .ok (.ifCond .ne 7, 3) := by decide +kernel
theorem dJ0_isLatin1_aae02_13 : decode cJ0_isLatin1_aae02 13 = .ok (.iconst 1, 1) := by decide +kernel
theorem dJ0_isLatin1_aae02_14 : decode cJ0_isLatin1_aae02 14 = .ok (.goto 4, 3) := by decide +kernel
theorem dJ0_isLatin1_aae02_17 : decode cJ0_isLatin1_aae02 17 = .ok (.iconst 0, 1) := by decide +kernel
theorem dJ0_isLatin1_aae02_18 : decode cJ0_isLatin1_aae02 18 = .ok (.ireturn, 1) := by decide +kernel
theorem dJ0_length_8abf5_0 : decode cJ0_length_8abf5 0 = .ok (.aload_n 0, 1) := by decide +kernel
theorem dJ0_length_8abf5_1 : decode cJ0_length_8abf5 1 = .ok (.getfield 9, 3) := by decide +kernel
theorem dJ0_length_8abf5_4 : decode cJ0_length_8abf5 4 = .ok (.arraylength, 1) := by decide +kernel
theorem dJ0_length_8abf5_5 : decode cJ0_length_8abf5 5 = .ok (.aload_n 0, 1) := by decide +kernel
theorem dJ0_length_8abf5_6 : decode cJ0_length_8abf5 6 = .ok (.invokevirtual 335, 3) := by decide +kernel
theorem dJ0_length_8abf5_9 : decode cJ0_length_8abf5 9 = .ok (.ishr, 1) := by decide +kernel
theorem dJ0_length_8abf5_10 : decode cJ0_length_8abf5 10 = .ok (.ireturn, 1) := by decide +kernel
theorem dJ1_charAt_3b067_0 : decode cJ1_charAt_3b067 0 = .ok (.iload_n 1, 1) := by decide +kernel
theorem dJ1_charAt_3b067_1 : decode cJ1_charAt_3b067 1 = .ok (.aload_n 0, 1) := by decide +kernel
theorem dJ1_charAt_3b067_2 : decode cJ1_charAt_3b067 2 = .ok (.arraylength, 1) := by decide +kernel
theorem dJ1_charAt_3b067_3 : decode cJ1_charAt_3b067 3 = .ok (.invokestatic 9, 3) := by decide +kernel
theorem dJ1_charAt_3b067_6 : decode cJ1_charAt_3b067 6 = .ok (.aload_n 0, 1) := by decide +kernel
theorem dJ1_charAt_3b067_7 : decode cJ1_charAt_3b067 7 = .ok (.iload_n 1, 1) := by decide +kernel
theorem dJ1_charAt_3b067_8 : decode cJ1_charAt_3b067 8 = .ok (.baload, 1) := by decide +kernel
theorem dJ1_charAt_3b067_9 : decode cJ1_charAt_3b067 9 = .ok (.sipush 255, 3) := by decide +kernel
theorem dJ1_charAt_3b067_12 : decode cJ1_charAt_3b067 12 = .ok (.iand, 1) := by decide +kernel
theorem dJ1_charAt_3b067_13 : decode cJ1_charAt_3b067 13 = .ok (.i2c, 1) := by decide +kernel
theorem dJ1_charAt_3b067_14 : decode cJ1_charAt_3b067 14 = .ok (.ireturn, 1) := by decide +kernel
theorem dJ2_charAt_3b067_0 : decode cJ2_charAt_3b067 0 = .ok (.iload_n 1, 1) := by decide +kernel
theorem dJ2_charAt_3b067_1 : decode cJ2_charAt_3b067 1 = .ok (.aload_n 0, 1) := by decide +kernel
theorem dJ2_charAt_3b067_2 : decode cJ2_charAt_3b067 2 = .ok (.invokestatic 67, 3) := by decide +kernel
theorem dJ2_charAt_3b067_5 : decode cJ2_charAt_3b067 5 = .ok (.aload_n 0, 1) := by decide +kernel
theorem dJ2_charAt_3b067_6 : decode cJ2_charAt_3b067 6 = .ok (.iload_n 1, 1) := by decide +kernel
theorem dJ2_charAt_3b067_7 : decode cJ2_charAt_3b067 7 = .ok (.invokestatic 71, 3) := by decide +kernel
theorem dJ2_charAt_3b067_10 : decode cJ2_charAt_3b067 10 = .ok (.ireturn, 1) := by decide +kernel
theorem dJ2_checkIndex_2214a_0 : decode cJ2_checkIndex_2214a 0 = .ok (.iload_n 0, 1) := by decide +kernel
theorem dJ2_checkIndex_2214a_1 : decode cJ2_checkIndex_2214a 1 = .ok (.aload_n 1, 1) := by decide +kernel
theorem dJ2_checkIndex_2214a_2 : decode cJ2_checkIndex_2214a 2 = .ok (.invokestatic 48, 3) := by decide +kernel
theorem dJ2_checkIndex_2214a_5 : decode cJ2_checkIndex_2214a 5 = .ok (.invokestatic 414, 3) := by decide +kernel
theorem dJ2_checkIndex_2214a_8 : decode cJ2_checkIndex_2214a 8 = .ok (.return_, 1) := by decide +kernel
theorem dJ2_getChar_3b067_0 : decode cJ2_getChar_3b067 0 = .ok (.getstatic 44, 3) := by decide +kernel
theorem dJ2_getChar_3b067_3 : decode cJ2_getChar_3b067 3 = .ok (.ifCond .ne 25, 3) := by decide +kernel
theorem dJ2_getChar_3b067_6 : decode cJ2_getChar_3b067 6 = .ok (.iload_n 1, 1) := by decide +kernel
theorem dJ2_getChar_3b067_7 : decode cJ2_getChar_3b067 7 = .ok (.ifCond .lt 11, 3) := by decide +kernel
theorem dJ2_getChar_3b067_10 : decode cJ2_getChar_3b067 10 = .ok (.iload_n 1, 1) := by decide +kernel
theorem dJ2_getChar_3b067_11 : decode cJ2_getChar_3b067 11 = .ok (.aload_n 0, 1) := by decide +kernel
theorem dJ2_getChar_3b067_12 : decode cJ2_getChar_3b067 12 = .ok (.invokestatic 48, 3) := by decide +kernel
theorem dJ2_getChar_3b067_15 : decode cJ2_getChar_3b067 15 = .ok (.if_icmp .lt 13, 3) := by decide +kernel
theorem dJ2_getChar_3b067_18 : decode cJ2_getChar_3b067 18 = .ok (.new 52, 3) := by decide +kernel
theorem dJ2_getChar_3b067_21 : decode cJ2_getChar_3b067 21 = .ok (.dup, 1) := by decide +kernel
theorem dJ2_getChar_3b067_22 : decode cJ2_getChar_3b067 22 = .ok (.ldc 54, 2) := by decide +kernel
theorem dJ2_getChar_3b067_24 : decode cJ2_getChar_3b067 24 = .ok (.invokespecial 56, 3) := by decide +kernel
theorem dJ2_getChar_3b067_27 : decode cJ2_getChar_3b067 27 = .ok (.athrow, 1) := by decide +kernel
theorem dJ2_getChar_3b067_28 : decode cJ2_getChar_3b067 28 = .ok (.iload_n 1, 1) := by decide +kernel
theorem dJ2_getChar_3b067_29 : decode cJ2_getChar_3b067 29 = .ok (.iconst 1, 1) := by decide +kernel
theorem dJ2_getChar_3b067_30 : decode cJ2_getChar_3b067 30 = .ok (.ishl, 1) := by decide +kernel
theorem dJ2_getChar_3b067_31 : decode cJ2_getChar_3b067 31 = .ok (.istore_n 1, 1) := by decide +kernel
theorem dJ2_getChar_3b067_32 : decode cJ2_getChar_3b067 32 = .ok (.aload_n 0, 1) := by decide +kernel
theorem dJ2_getChar_3b067_33 : decode cJ2_getChar_3b067 33 = .ok (.iload_n 1, 1) := by decide +kernel
theorem dJ2_getChar_3b067_34 : decode cJ2_getChar_3b067 34 = .ok (.iinc 1 1, 3) := by decide +kernel
theorem dJ2_getChar_3b067_37 : decode cJ2_getChar_3b067 37 = .ok (.baload, 1) := by decide +kernel
theorem dJ2_getChar_3b067_38 : decode cJ2_getChar_3b067 38 = .ok (.sipush 255, 3) := by decide +kernel
theorem dJ2_getChar_3b067_41 : decode cJ2_getChar_3b067 41 = .ok (.iand, 1) := by decide +kernel
theorem dJ2_getChar_3b067_42 : decode cJ2_getChar_3b067 42 = .ok (.getstatic 59, 3) := by decide +kernel
theorem dJ2_getChar_3b067_45 : decode cJ2_getChar_3b067 45 = .ok (.ishl, 1) := by decide +kernel
theorem dJ2_getChar_3b067_46 : decode cJ2_getChar_3b067 46 = .ok (.aload_n 0, 1) := by decide +kernel
theorem dJ2_getChar_3b067_47 : decode cJ2_getChar_3b067 47 = .ok (.iload_n 1, 1) := by decide +kernel
theorem dJ2_getChar_3b067_48 : decode cJ2_getChar_3b067 48 = .ok (.baload, 1) := by decide +kernel
theorem dJ2_getChar_3b067_49 : decode cJ2_getChar_3b067 49 = .ok (.sipush 255, 3) := by decide +kernel
theorem dJ2_getChar_3b067_52 : decode cJ2_getChar_3b067 52 = .ok (.iand, 1) := by decide +kernel
theorem dJ2_getChar_3b067_53 : decode cJ2_getChar_3b067 53 = .ok (.getstatic 63, 3) := by decide +kernel
theorem dJ2_getChar_3b067_56 : decode cJ2_getChar_3b067 56 = .ok (.ishl, 1) := by decide +kernel
theorem dJ2_getChar_3b067_57 : decode cJ2_getChar_3b067 57 = .ok (.ior, 1) := by decide +kernel
theorem dJ2_getChar_3b067_58 : decode cJ2_getChar_3b067 58 = .ok (.i2c, 1) := by decide +kernel
theorem dJ2_getChar_3b067_59 : decode cJ2_getChar_3b067 59 = .ok (.ireturn, 1) := by decide +kernel
theorem dJ2_length_9d52b_0 : decode cJ2_length_9d52b 0 = .ok (.aload_n 0, 1) := by decide +kernel
theorem dJ2_length_9d52b_1 : decode cJ2_length_9d52b 1 = .ok (.arraylength, 1) := by decide +kernel
theorem dJ2_length_9d52b_2 : decode cJ2_length_9d52b 2 = .ok (.iconst 1, 1) := by decide +kernel
theorem dJ2_length_9d52b_3 : decode cJ2_length_9d52b 3 = .ok (.ishr, 1) := by decide +kernel
theorem dJ2_length_9d52b_4 : decode cJ2_length_9d52b 4 = .ok (.ireturn, 1) := by decide +kernel
theorem dJ3_checkIndex_8e157_0 : decode cJ3_checkIndex_8e157 0 = .ok (.iload_n 0, 1) := by decide +kernel
theorem dJ3_checkIndex_8e157_1 : decode cJ3_checkIndex_8e157 1 = .ok (.ifCond .lt 8, 3) := by decide +kernel
theorem dJ3_checkIndex_8e157_4 : decode cJ3_checkIndex_8e157 4 = .ok (.iload_n 0, 1) := by decide +kernel
theorem dJ3_checkIndex_8e157_5 : decode cJ3_checkIndex_8e157 5 = .ok (.iload_n 1, 1) := by decide +kernel
theorem dJ3_checkIndex_8e157_6 : decode cJ3_checkIndex_8e157 6 = .ok (.if_icmp .lt 10, 3) := by decide +kernel
theorem dJ3_checkIndex_8e157_9 : decode cJ3_checkIndex_8e157 9 = .ok (.aload_n 2, 1) := by decide +kernel
theorem dJ3_checkIndex_8e157_10 : decode cJ3_checkIndex_8e157 10 = .ok (.iload_n 0, 1) := by decide +kernel
theorem dJ3_checkIndex_8e157_11 : decode cJ3_checkIndex_8e157 11 = .ok (.iload_n 1, 1) := by decide +kernel
theorem dJ3_checkIndex_8e157_12 : decode cJ3_checkIndex_8e157 12 = .ok (.invokestatic 95, 3) := by decide +kernel
theorem dJ3_checkIndex_8e157_15 : decode cJ3_checkIndex_8e157 15 = .ok (.athrow, 1) := by decide +kernel
theorem dJ3_checkIndex_8e157_16 : decode cJ3_checkIndex_8e157 16 = .ok (.iload_n 0, 1) := by decide +kernel
theorem dJ3_checkIndex_8e157_17 : decode cJ3_checkIndex_8e157 17 = .ok (.ireturn, 1) := by decide +kernel
theorem dJ6_bitCount_0f7a4_0 : decode cJ6_bitCount_0f7a4 0 = .ok (.iload_n 0, 1) := by decide +kernel
theorem dJ6_bitCount_0f7a4_1 : decode cJ6_bitCount_0f7a4 1 = .ok (.iload_n 0, 1) := by decide +kernel
theorem dJ6_bitCount_0f7a4_2 : decode cJ6_bitCount_0f7a4 2 = .ok (.iconst 1, 1) := by decide +kernel
theorem dJ6_bitCount_0f7a4_3 : decode cJ6_bitCount_0f7a4 3 = .ok (.iushr, 1) := by decide +kernel
theorem dJ6_bitCount_0f7a4_4 : decode cJ6_bitCount_0f7a4 4 = .ok (.ldc_w 265, 3) := by decide +kernel
theorem dJ6_bitCount_0f7a4_7 : decode cJ6_bitCount_0f7a4 7 = .ok (.iand, 1) := by decide +kernel
theorem dJ6_bitCount_0f7a4_8 : decode cJ6_bitCount_0f7a4 8 = .ok (.isub, 1) := by decide +kernel
theorem dJ6_bitCount_0f7a4_9 : decode cJ6_bitCount_0f7a4 9 = .ok (.istore_n 0, 1) := by decide +kernel
theorem dJ6_bitCount_0f7a4_10 : decode cJ6_bitCount_0f7a4 10 = .ok (.iload_n 0, 1) := by decide +kernel
theorem dJ6_bitCount_0f7a4_11 : decode cJ6_bitCount_0f7a4 11 = .ok (.ldc_w 266, 3) := by decide +kernel
theorem dJ6_bitCount_0f7a4_14 : decode cJ6_bitCount_0f7a4 14 = .ok (.iand, 1) := by decide +kernel
theorem dJ6_bitCount_0f7a4_15 : decode cJ6_bitCount_0f7a4 15 = .ok (.iload_n 0, 1) := by decide +kernel
theorem dJ6_bitCount_0f7a4_16 : decode cJ6_bitCount_0f7a4 16 = .ok (.iconst 2, 1) := by decide +kernel
theorem dJ6_bitCount_0f7a4_17 : decode cJ6_bitCount_0f7a4 17 = .ok (.iushr, 1) := by decide +kernel
theorem dJ6_bitCount_0f7a4_18 : decode cJ6_bitCount_0f7a4 18 = .ok (.ldc_w 266, 3) := by decide +kernel
theorem dJ6_bitCount_0f7a4_21 : decode cJ6_bitCount_0f7a4 21 = .ok (.iand, 1) := by decide +kernel
theorem dJ6_bitCount_0f7a4_22 : decode cJ6_bitCount_0f7a4 22 = .ok (.iadd, 1) := by decide +kernel
theorem dJ6_bitCount_0f7a4_23 : decode cJ6_bitCount_0f7a4 23 = .ok (.istore_n 0, 1) := by decide +kernel
theorem dJ6_bitCount_0f7a4_24 : decode cJ6_bitCount_0f7a4 24 = .ok (.iload_n 0, 1) := by decide +kernel
theorem dJ6_bitCount_0f7a4_25 : decode cJ6_bitCount_0f7a4 25 = .ok (.iload_n 0, 1) := by decide +kernel
theorem dJ6_bitCount_0f7a4_26 : decode cJ6_bitCount_0f7a4 26 = .ok (.iconst 4, 1) := by decide +kernel
theorem dJ6_bitCount_0f7a4_27 : decode cJ6_bitCount_0f7a4 27 = .ok (.iushr, 1) := by decide +kernel
theorem dJ6_bitCount_0f7a4_28 : decode cJ6_bitCount_0f7a4 28 = .ok (.iadd, 1) := by decide +kernel
theorem dJ6_bitCount_0f7a4_29 : decode cJ6_bitCount_0f7a4 29 = .ok (.ldc_w 267, 3) := by decide +kernel
theorem dJ6_bitCount_0f7a4_32 : decode cJ6_bitCount_0f7a4 32 = .ok (.iand, 1) := by decide +kernel
theorem dJ6_bitCount_0f7a4_33 : decode cJ6_bitCount_0f7a4 33 = .ok (.istore_n 0, 1) := by decide +kernel
theorem dJ6_bitCount_0f7a4_34 : decode cJ6_bitCount_0f7a4 34 = .ok (.iload_n 0, 1) := by decide +kernel
theorem dJ6_bitCount_0f7a4_35 : decode cJ6_bitCount_0f7a4 35 = .ok (.iload_n 0, 1) := by decide +kernel
theorem dJ6_bitCount_0f7a4_36 : decode cJ6_bitCount_0f7a4 36 = .ok (.bipush 8, 2) := by decide +kernel
theorem dJ6_bitCount_0f7a4_38 : decode cJ6_bitCount_0f7a4 38 = .ok (.iushr, 1) := by decide +kernel
theorem dJ6_bitCount_0f7a4_39 : decode cJ6_bitCount_0f7a4 39 = .ok (.iadd, 1) := by decide +kernel
theorem dJ6_bitCount_0f7a4_40 : decode cJ6_bitCount_0f7a4 40 = .ok (.istore_n 0, 1) := by decide +kernel
theorem dJ6_bitCount_0f7a4_41 : decode cJ6_bitCount_0f7a4 41 = .ok (.iload_n 0, 1) := by decide +kernel
theorem dJ6_bitCount_0f7a4_42 : decode cJ6_bitCount_0f7a4 42 = .ok (.iload_n 0, 1) := by decide +kernel
theorem dJ6_bitCount_0f7a4_43 : decode cJ6_bitCount_0f7a4 43 = .ok (.bipush 16, 2) := by decide +kernel
theorem dJ6_bitCount_0f7a4_45 : decode cJ6_bitCount_0f7a4 45 = .ok (.iushr, 1) := by decide +kernel
theorem dJ6_bitCount_0f7a4_46 : decode cJ6_bitCount_0f7a4 46 = .ok (.iadd, 1) := by decide +kernel
theorem dJ6_bitCount_0f7a4_47 : decode cJ6_bitCount_0f7a4 47 = .ok (.istore_n 0, 1) := by decide +kernel
theorem dJ6_bitCount_0f7a4_48 : decode cJ6_bitCount_0f7a4 48 = .ok (.iload_n 0, 1) := by decide +kernel
theorem dJ6_bitCount_0f7a4_49 : decode cJ6_bitCount_0f7a4 49 = .ok (.bipush 63, 2) := by decide +kernel
theorem dJ6_bitCount_0f7a4_51 : decode cJ6_bitCount_0f7a4 51 = .ok (.iand, 1) := by decide +kernel
theorem dJ6_bitCount_0f7a4_52 : decode cJ6_bitCount_0f7a4 52 = .ok (.ireturn, 1) := by decide +kernel
theorem dJ7_fill_53178_0 : decode cJ7_fill_53178 0 = .ok (.iconst 0, 1) := by decide +kernel
theorem dJ7_fill_53178_1 : decode cJ7_fill_53178 1 = .ok (.istore_n 2, 1) := by decide +kernel
theorem dJ7_fill_53178_2 : decode cJ7_fill_53178 2 = .ok (.aload_n 0, 1) := by decide +kernel
theorem dJ7_fill_53178_3 : decode cJ7_fill_53178 3 = .ok (.arraylength, 1) := by decide +kernel
theorem dJ7_fill_53178_4 : decode cJ7_fill_53178 4 = .ok (.istore_n 3, 1) := by decide +kernel
theorem dJ7_fill_53178_5 : decode cJ7_fill_53178 5 = .ok (.iload_n 2, 1) := by decide +kernel
theorem dJ7_fill_53178_6 : decode cJ7_fill_53178 6 = .ok (.iload_n 3, 1) := by decide +kernel
theorem dJ7_fill_53178_7 : decode cJ7_fill_53178 7 = .ok (.if_icmp .ge 13, 3) := by decide +kernel
theorem dJ7_fill_53178_10 : decode cJ7_fill_53178 10 = .ok (.aload_n 0, 1) := by decide +kernel
theorem dJ7_fill_53178_11 : decode cJ7_fill_53178 11 = .ok (.iload_n 2, 1) := by decide +kernel
theorem dJ7_fill_53178_12 : decode cJ7_fill_53178 12 = .ok (.iload_n 1, 1) := by decide +kernel
theorem dJ7_fill_53178_13 : decode cJ7_fill_53178 13 = .ok (.iastore, 1) := by decide +kernel
theorem dJ7_fill_53178_14 : decode cJ7_fill_53178 14 = .ok (.iinc 2 1, 3) := by decide +kernel
theorem dJ7_fill_53178_17 : decode cJ7_fill_53178 17 = .ok (.goto (-12), 3) := by decide +kernel
theorem dJ7_fill_53178_20 : decode cJ7_fill_53178 20 = .ok (.return_, 1) := by decide +kernel
theorem dJ9_abs_0f7a4_0 : decode cJ9_abs_0f7a4 0 = .ok (.iload_n 0, 1) := by decide +kernel
theorem dJ9_abs_0f7a4_1 : decode cJ9_abs_0f7a4 1 = .ok (.ifCond .ge 8, 3) := by decide +kernel
theorem dJ9_abs_0f7a4_4 : decode cJ9_abs_0f7a4 4 = .ok (.iload_n 0, 1) := by decide +kernel
theorem dJ9_abs_0f7a4_5 : decode cJ9_abs_0f7a4 5 = .ok (.ineg, 1) := by decide +kernel
theorem dJ9_abs_0f7a4_6 : decode cJ9_abs_0f7a4 6 = .ok (.goto 4, 3) := by decide +kernel
theorem dJ9_abs_0f7a4_9 : decode cJ9_abs_0f7a4 9 = .ok (.iload_n 0, 1) := by decide +kernel
theorem dJ9_abs_0f7a4_10 : decode cJ9_abs_0f7a4 10 = .ok (.ireturn, 1) := by decide +kernel
theorem dJ9_max_7cf53_0 : decode cJ9_max_7cf53 0 = .ok (.iload_n 0, 1) := by decide +kernel
theorem dJ9_max_7cf53_1 : decode cJ9_max_7cf53 1 = .ok (.iload_n 1, 1) := by decide +kernel
theorem dJ9_max_7cf53_2 : decode cJ9_max_7cf53 2 = .ok (.if_icmp .lt 7, 3) := by decide +kernel
theorem dJ9_max_7cf53_5 : decode cJ9_max_7cf53 5 = .ok (.iload_n 0, 1) := by decide +kernel
theorem dJ9_max_7cf53_6 : decode cJ9_max_7cf53 6 = .ok (.goto 4, 3) := by decide +kernel
theorem dJ9_max_7cf53_9 : decode cJ9_max_7cf53 9 = .ok (.iload_n 1, 1) := by decide +kernel
theorem dJ9_max_7cf53_10 : decode cJ9_max_7cf53 10 = .ok (.ireturn, 1) := by decide +kernel
theorem dJ9_min_7cf53_0 : decode cJ9_min_7cf53 0 = .ok (.iload_n 0, 1) := by decide +kernel
theorem dJ9_min_7cf53_1 : decode cJ9_min_7cf53 1 = .ok (.iload_n 1, 1) := by decide +kernel
theorem dJ9_min_7cf53_2 : decode cJ9_min_7cf53 2 = .ok (.if_icmp .gt 7, 3) := by decide +kernel
theorem dJ9_min_7cf53_5 : decode cJ9_min_7cf53 5 = .ok (.iload_n 0, 1) := by decide +kernel
theorem dJ9_min_7cf53_6 : decode cJ9_min_7cf53 6 = .ok (.goto 4, 3) := by decide +kernel
theorem dJ9_min_7cf53_9 : decode cJ9_min_7cf53 9 = .ok (.iload_n 1, 1) := by decide +kernel
theorem dJ9_min_7cf53_10 : decode cJ9_min_7cf53 10 = .ok (.ireturn, 1) := by decide +kernel
theorem dL_law_0 : decode cL_law 0 = .ok (.new 7, 3) := by decide +kernel
theorem dL_law_3 : decode cL_law 3 = .ok (.dup, 1) := by decide +kernel
theorem dL_law_4 : decode cL_law 4 = .ok (.invokespecial 9, 3) := by decide +kernel
theorem dL_law_7 : decode cL_law 7 = .ok (.astore_n 1, 1) := by decide +kernel
theorem dL_law_8 : decode cL_law 8 = .ok (.new 10, 3) := by decide +kernel
theorem dL_law_11 : decode cL_law 11 = .ok (.dup, 1) := by decide +kernel
theorem dL_law_12 : decode cL_law 12 = .ok (.invokespecial 12, 3) := by decide +kernel
theorem dL_law_15 : decode cL_law 15 = .ok (.astore_n 2, 1) := by decide +kernel
theorem dL_law_16 : decode cL_law 16 = .ok (.iconst 0, 1) := by decide +kernel
theorem dL_law_17 : decode cL_law 17 = .ok (.istore_n 3, 1) := by decide +kernel
theorem dL_law_18 : decode cL_law 18 = .ok (.iload_n 3, 1) := by decide +kernel
theorem dL_law_19 : decode cL_law 19 = .ok (.aload_n 0, 1) := by decide +kernel
theorem dL_law_20 : decode cL_law 20 = .ok (.arraylength, 1) := by decide +kernel
theorem dL_law_21 : decode cL_law 21 = .ok (.bipush 6, 2) := by decide +kernel
theorem dL_law_23 : decode cL_law 23 = .ok (.isub, 1) := by decide +kernel
theorem dL_law_24 : decode cL_law 24 = .ok (.if_icmp .gt 1701, 3) := by decide +kernel
theorem dL_law_27 : decode cL_law 27 = .ok (.aload_n 0, 1) := by decide +kernel
theorem dL_law_28 : decode cL_law 28 = .ok (.iload_n 3, 1) := by decide +kernel
theorem dL_law_29 : decode cL_law 29 = .ok (.iaload, 1) := by decide +kernel
theorem dL_law_30 : decode cL_law 30 = .ok (.bipush 63, 2) := by decide +kernel
theorem dL_law_32 : decode cL_law 32 = .ok (.iand, 1) := by decide +kernel
theorem dL_law_33 : decode cL_law 33 = .ok (.tableswitch 1686 0 42 #[187, 250, 273, 296, 319, 342, 375, 408, 451, 494, 527, 560, 593, 636, 669, 692, 725, 768, 801, 844, 877, 920, 943, 986, 1029, 1052, 1095, 1128, 1181, 1224, 1267, 1290, 1323, 1356, 1389, 1422, 1455, 1508, 1551, 1594, 1617, 1630, 1663], 187) := by decide +kernel
theorem dL_law_220 : decode cL_law 220 = .ok (.aload_n 1, 1) := by decide +kernel
theorem dL_law_221 : decode cL_law 221 = .ok (.aload_n 0, 1) := by decide +kernel
theorem dL_law_222 : decode cL_law 222 = .ok (.iload_n 3, 1) := by decide +kernel
theorem dL_law_223 : decode cL_law 223 = .ok (.iconst 1, 1) := by decide +kernel
theorem dL_law_224 : decode cL_law 224 = .ok (.iadd, 1) := by decide +kernel
theorem dL_law_225 : decode cL_law 225 = .ok (.iaload, 1) := by decide +kernel
theorem dL_law_226 : decode cL_law 226 = .ok (.aload_n 0, 1) := by decide +kernel
theorem dL_law_227 : decode cL_law 227 = .ok (.iload_n 3, 1) := by decide +kernel
theorem dL_law_228 : decode cL_law 228 = .ok (.iconst 2, 1) := by decide +kernel
theorem dL_law_229 : decode cL_law 229 = .ok (.iadd, 1) := by decide +kernel
theorem dL_law_230 : decode cL_law 230 = .ok (.iaload, 1) := by decide +kernel
theorem dL_law_231 : decode cL_law 231 = .ok (.aload_n 0, 1) := by decide +kernel
theorem dL_law_232 : decode cL_law 232 = .ok (.iload_n 3, 1) := by decide +kernel
theorem dL_law_233 : decode cL_law 233 = .ok (.iconst 3, 1) := by decide +kernel
theorem dL_law_234 : decode cL_law 234 = .ok (.iadd, 1) := by decide +kernel
theorem dL_law_235 : decode cL_law 235 = .ok (.iaload, 1) := by decide +kernel
theorem dL_law_236 : decode cL_law 236 = .ok (.aload_n 0, 1) := by decide +kernel
theorem dL_law_237 : decode cL_law 237 = .ok (.iload_n 3, 1) := by decide +kernel
theorem dL_law_238 : decode cL_law 238 = .ok (.iconst 4, 1) := by decide +kernel
theorem dL_law_239 : decode cL_law 239 = .ok (.iadd, 1) := by decide +kernel
theorem dL_law_240 : decode cL_law 240 = .ok (.iaload, 1) := by decide +kernel
theorem dL_law_241 : decode cL_law 241 = .ok (.aload_n 0, 1) := by decide +kernel
theorem dL_law_242 : decode cL_law 242 = .ok (.iload_n 3, 1) := by decide +kernel
theorem dL_law_243 : decode cL_law 243 = .ok (.iconst 5, 1) := by decide +kernel
theorem dL_law_244 : decode cL_law 244 = .ok (.iadd, 1) := by decide +kernel
theorem dL_law_245 : decode cL_law 245 = .ok (.iaload, 1) := by decide +kernel
theorem dL_law_246 : decode cL_law 246 = .ok (.invokevirtual 13, 3) := by decide +kernel
theorem dL_law_249 : decode cL_law 249 = .ok (.pop, 1) := by decide +kernel
theorem dL_law_250 : decode cL_law 250 = .ok (.aload_n 2, 1) := by decide +kernel
theorem dL_law_251 : decode cL_law 251 = .ok (.aload_n 0, 1) := by decide +kernel
theorem dL_law_252 : decode cL_law 252 = .ok (.iload_n 3, 1) := by decide +kernel
theorem dL_law_253 : decode cL_law 253 = .ok (.iconst 1, 1) := by decide +kernel
theorem dL_law_254 : decode cL_law 254 = .ok (.iadd, 1) := by decide +kernel
theorem dL_law_255 : decode cL_law 255 = .ok (.iaload, 1) := by decide +kernel
theorem dL_law_256 : decode cL_law 256 = .ok (.aload_n 0, 1) := by decide +kernel
theorem dL_law_257 : decode cL_law 257 = .ok (.iload_n 3, 1) := by decide +kernel
theorem dL_law_258 : decode cL_law 258 = .ok (.iconst 2, 1) := by decide +kernel
theorem dL_law_259 : decode cL_law 259 = .ok (.iadd, 1) := by decide +kernel
theorem dL_law_260 : decode cL_law 260 = .ok (.iaload, 1) := by decide +kernel
theorem dL_law_261 : decode cL_law 261 = .ok (.aload_n 0, 1) := by decide +kernel
theorem dL_law_262 : decode cL_law 262 = .ok (.iload_n 3, 1) := by decide +kernel
theorem dL_law_263 : decode cL_law 263 = .ok (.iconst 3, 1) := by decide +kernel
theorem dL_law_264 : decode cL_law 264 = .ok (.iadd, 1) := by decide +kernel
theorem dL_law_265 : decode cL_law 265 = .ok (.iaload, 1) := by decide +kernel
theorem dL_law_266 : decode cL_law 266 = .ok (.aload_n 0, 1) := by decide +kernel
theorem dL_law_267 : decode cL_law 267 = .ok (.iload_n 3, 1) := by decide +kernel
theorem dL_law_268 : decode cL_law 268 = .ok (.iconst 4, 1) := by decide +kernel
theorem dL_law_269 : decode cL_law 269 = .ok (.iadd, 1) := by decide +kernel
theorem dL_law_270 : decode cL_law 270 = .ok (.iaload, 1) := by decide +kernel
theorem dL_law_271 : decode cL_law 271 = .ok (.aload_n 0, 1) := by decide +kernel
theorem dL_law_272 : decode cL_law 272 = .ok (.iload_n 3, 1) := by decide +kernel
theorem dL_law_273 : decode cL_law 273 = .ok (.iconst 5, 1) := by decide +kernel
theorem dL_law_274 : decode cL_law 274 = .ok (.iadd, 1) := by decide +kernel
theorem dL_law_275 : decode cL_law 275 = .ok (.iaload, 1) := by decide +kernel
theorem dL_law_276 : decode cL_law 276 = .ok (.invokevirtual 17, 3) := by decide +kernel
theorem dL_law_279 : decode cL_law 279 = .ok (.pop, 1) := by decide +kernel
theorem dL_law_280 : decode cL_law 280 = .ok (.goto 1439, 3) := by decide +kernel
theorem dL_law_283 : decode cL_law 283 = .ok (.aload_n 1, 1) := by decide +kernel
theorem dL_law_284 : decode cL_law 284 = .ok (.aload_n 0, 1) := by decide +kernel
theorem dL_law_285 : decode cL_law 285 = .ok (.iload_n 3, 1) := by decide +kernel
theorem dL_law_286 : decode cL_law 286 = .ok (.iconst 1, 1) := by decide +kernel
theorem dL_law_287 : decode cL_law 287 = .ok (.iadd, 1) := by decide +kernel
theorem dL_law_288 : decode cL_law 288 = .ok (.iaload, 1) := by decide +kernel
theorem dL_law_289 : decode cL_law 289 = .ok (.invokevirtual 18, 3) := by decide +kernel
theorem dL_law_292 : decode cL_law 292 = .ok (.pop, 1) := by decide +kernel
theorem dL_law_293 : decode cL_law 293 = .ok (.aload_n 2, 1) := by decide +kernel
theorem dL_law_294 : decode cL_law 294 = .ok (.aload_n 0, 1) := by decide +kernel
theorem dL_law_295 : decode cL_law 295 = .ok (.iload_n 3, 1) := by decide +kernel
theorem dL_law_296 : decode cL_law 296 = .ok (.iconst 1, 1) := by decide +kernel
theorem dL_law_297 : decode cL_law 297 = .ok (.iadd, 1) := by decide +kernel
theorem dL_law_298 : decode cL_law 298 = .ok (.iaload, 1) := by decide +kernel
theorem dL_law_299 : decode cL_law 299 = .ok (.invokevirtual 22, 3) := by decide +kernel
theorem dL_law_302 : decode cL_law 302 = .ok (.pop, 1) := by decide +kernel
theorem dL_law_303 : decode cL_law 303 = .ok (.goto 1416, 3) := by decide +kernel
theorem dL_law_306 : decode cL_law 306 = .ok (.aload_n 1, 1) := by decide +kernel
theorem dL_law_307 : decode cL_law 307 = .ok (.aload_n 0, 1) := by decide +kernel
theorem dL_law_308 : decode cL_law 308 = .ok (.iload_n 3, 1) := by decide +kernel
theorem dL_law_309 : decode cL_law 309 = .ok (.iconst 1, 1) := by decide +kernel
theorem dL_law_310 : decode cL_law 310 = .ok (.iadd, 1) := by decide +kernel
theorem dL_law_311 : decode cL_law 311 = .ok (.iaload, 1) := by decide +kernel
theorem dL_law_312 : decode cL_law 312 = .ok (.invokevirtual 23, 3) := by decide +kernel
theorem dL_law_315 : decode cL_law 315 = .ok (.pop, 1) := by decide +kernel
theorem dL_law_316 : decode cL_law 316 = .ok (.aload_n 2, 1) := by decide +kernel
theorem dL_law_317 : decode cL_law 317 = .ok (.aload_n 0, 1) := by decide +kernel
theorem dL_law_318 : decode cL_law 318 = .ok (.iload_n 3, 1) := by decide +kernel
theorem dL_law_319 : decode cL_law 319 = .ok (.iconst 1, 1) := by decide +kernel
theorem dL_law_320 : decode cL_law 320 = .ok (.iadd, 1) := by decide +kernel
theorem dL_law_321 : decode cL_law 321 = .ok (.iaload, 1) := by decide +kernel
theorem dL_law_322 : decode cL_law 322 = .ok (.invokevirtual 26, 3) := by decide +kernel
theorem dL_law_325 : decode cL_law 325 = .ok (.pop, 1) := by decide +kernel
theorem dL_law_326 : decode cL_law 326 = .ok (.goto 1393, 3) := by decide +kernel
theorem dL_law_329 : decode cL_law 329 = .ok (.aload_n 1, 1) := by decide +kernel
theorem dL_law_330 : decode cL_law 330 = .ok (.aload_n 0, 1) := by decide +kernel
theorem dL_law_331 : decode cL_law 331 = .ok (.iload_n 3, 1) := by decide +kernel
theorem dL_law_332 : decode cL_law 332 = .ok (.iconst 1, 1) := by decide +kernel
theorem dL_law_333 : decode cL_law 333 = .ok (.iadd, 1) := by decide +kernel
theorem dL_law_334 : decode cL_law 334 = .ok (.iaload, 1) := by decide +kernel
theorem dL_law_335 : decode cL_law 335 = .ok (.invokevirtual 27, 3) := by decide +kernel
theorem dL_law_338 : decode cL_law 338 = .ok (.pop, 1) := by decide +kernel
theorem dL_law_339 : decode cL_law 339 = .ok (.aload_n 2, 1) := by decide +kernel
theorem dL_law_340 : decode cL_law 340 = .ok (.aload_n 0, 1) := by decide +kernel
theorem dL_law_341 : decode cL_law 341 = .ok (.iload_n 3, 1) := by decide +kernel
theorem dL_law_342 : decode cL_law 342 = .ok (.iconst 1, 1) := by decide +kernel
theorem dL_law_343 : decode cL_law 343 = .ok (.iadd, 1) := by decide +kernel
theorem dL_law_344 : decode cL_law 344 = .ok (.iaload, 1) := by decide +kernel
theorem dL_law_345 : decode cL_law 345 = .ok (.invokevirtual 30, 3) := by decide +kernel
theorem dL_law_348 : decode cL_law 348 = .ok (.pop, 1) := by decide +kernel
theorem dL_law_349 : decode cL_law 349 = .ok (.goto 1370, 3) := by decide +kernel
theorem dL_law_352 : decode cL_law 352 = .ok (.aload_n 1, 1) := by decide +kernel
theorem dL_law_353 : decode cL_law 353 = .ok (.aload_n 0, 1) := by decide +kernel
theorem dL_law_354 : decode cL_law 354 = .ok (.iload_n 3, 1) := by decide +kernel
theorem dL_law_355 : decode cL_law 355 = .ok (.iconst 1, 1) := by decide +kernel
theorem dL_law_356 : decode cL_law 356 = .ok (.iadd, 1) := by decide +kernel
theorem dL_law_357 : decode cL_law 357 = .ok (.iaload, 1) := by decide +kernel
theorem dL_law_358 : decode cL_law 358 = .ok (.invokevirtual 31, 3) := by decide +kernel
theorem dL_law_361 : decode cL_law 361 = .ok (.aload_n 2, 1) := by decide +kernel
theorem dL_law_362 : decode cL_law 362 = .ok (.aload_n 0, 1) := by decide +kernel
theorem dL_law_363 : decode cL_law 363 = .ok (.iload_n 3, 1) := by decide +kernel
theorem dL_law_364 : decode cL_law 364 = .ok (.iconst 1, 1) := by decide +kernel
theorem dL_law_365 : decode cL_law 365 = .ok (.iadd, 1) := by decide +kernel
theorem dL_law_366 : decode cL_law 366 = .ok (.iaload, 1) := by decide +kernel
theorem dL_law_367 : decode cL_law 367 = .ok (.invokevirtual 34, 3) := by decide +kernel
theorem dL_law_370 : decode cL_law 370 = .ok (.if_icmp .eq 1349, 3) := by decide +kernel
theorem dL_law_373 : decode cL_law 373 = .ok (.iconst 0, 1) := by decide +kernel
theorem dL_law_374 : decode cL_law 374 = .ok (.ireturn, 1) := by decide +kernel
theorem dL_law_375 : decode cL_law 375 = .ok (.aload_n 1, 1) := by decide +kernel
theorem dL_law_376 : decode cL_law 376 = .ok (.aload_n 0, 1) := by decide +kernel
theorem dL_law_377 : decode cL_law 377 = .ok (.iload_n 3, 1) := by decide +kernel
theorem dL_law_378 : decode cL_law 378 = .ok (.iconst 1, 1) := by decide +kernel
theorem dL_law_379 : decode cL_law 379 = .ok (.iadd, 1) := by decide +kernel
theorem dL_law_380 : decode cL_law 380 = .ok (.iaload, 1) := by decide +kernel
theorem dL_law_381 : decode cL_law 381 = .ok (.aload_n 0, 1) := by decide +kernel
theorem dL_law_382 : decode cL_law 382 = .ok (.iload_n 3, 1) := by decide +kernel
theorem dL_law_383 : decode cL_law 383 = .ok (.iconst 2, 1) := by decide +kernel
theorem dL_law_384 : decode cL_law 384 = .ok (.iadd, 1) := by decide +kernel
theorem dL_law_385 : decode cL_law 385 = .ok (.iaload, 1) := by decide +kernel
theorem dL_law_386 : decode cL_law 386 = .ok (.invokevirtual 35, 3) := by decide +kernel
theorem dL_law_389 : decode cL_law 389 = .ok (.pop, 1) := by decide +kernel
theorem dL_law_390 : decode cL_law 390 = .ok (.aload_n 2, 1) := by decide +kernel
theorem dL_law_391 : decode cL_law 391 = .ok (.aload_n 0, 1) := by decide +kernel
theorem dL_law_392 : decode cL_law 392 = .ok (.iload_n 3, 1) := by decide +kernel
theorem dL_law_393 : decode cL_law 393 = .ok (.iconst 1, 1) := by decide +kernel
theorem dL_law_394 : decode cL_law 394 = .ok (.iadd, 1) := by decide +kernel
theorem dL_law_395 : decode cL_law 395 = .ok (.iaload, 1) := by decide +kernel
theorem dL_law_396 : decode cL_law 396 = .ok (.aload_n 0, 1) := by decide +kernel
theorem dL_law_397 : decode cL_law 397 = .ok (.iload_n 3, 1) := by decide +kernel
theorem dL_law_398 : decode cL_law 398 = .ok (.iconst 2, 1) := by decide +kernel
theorem dL_law_399 : decode cL_law 399 = .ok (.iadd, 1) := by decide +kernel
theorem dL_law_400 : decode cL_law 400 = .ok (.iaload, 1) := by decide +kernel
theorem dL_law_401 : decode cL_law 401 = .ok (.invokevirtual 39, 3) := by decide +kernel
theorem dL_law_404 : decode cL_law 404 = .ok (.pop, 1) := by decide +kernel
theorem dL_law_405 : decode cL_law 405 = .ok (.goto 1314, 3) := by decide +kernel
theorem dL_law_408 : decode cL_law 408 = .ok (.aload_n 1, 1) := by decide +kernel
theorem dL_law_409 : decode cL_law 409 = .ok (.aload_n 0, 1) := by decide +kernel
theorem dL_law_410 : decode cL_law 410 = .ok (.iload_n 3, 1) := by decide +kernel
theorem dL_law_411 : decode cL_law 411 = .ok (.iconst 1, 1) := by decide +kernel
theorem dL_law_412 : decode cL_law 412 = .ok (.iadd, 1) := by decide +kernel
theorem dL_law_413 : decode cL_law 413 = .ok (.iaload, 1) := by decide +kernel
theorem dL_law_414 : decode cL_law 414 = .ok (.aload_n 0, 1) := by decide +kernel
theorem dL_law_415 : decode cL_law 415 = .ok (.iload_n 3, 1) := by decide +kernel
theorem dL_law_416 : decode cL_law 416 = .ok (.iconst 2, 1) := by decide +kernel
theorem dL_law_417 : decode cL_law 417 = .ok (.iadd, 1) := by decide +kernel
theorem dL_law_418 : decode cL_law 418 = .ok (.iaload, 1) := by decide +kernel
theorem dL_law_419 : decode cL_law 419 = .ok (.invokevirtual 40, 3) := by decide +kernel
theorem dL_law_422 : decode cL_law 422 = .ok (.pop, 1) := by decide +kernel
theorem dL_law_423 : decode cL_law 423 = .ok (.aload_n 2, 1) := by decide +kernel
theorem dL_law_424 : decode cL_law 424 = .ok (.aload_n 0, 1) := by decide +kernel
theorem dL_law_425 : decode cL_law 425 = .ok (.iload_n 3, 1) := by decide +kernel
theorem dL_law_426 : decode cL_law 426 = .ok (.iconst 1, 1) := by decide +kernel
theorem dL_law_427 : decode cL_law 427 = .ok (.iadd, 1) := by decide +kernel
theorem dL_law_428 : decode cL_law 428 = .ok (.iaload, 1) := by decide +kernel
theorem dL_law_429 : decode cL_law 429 = .ok (.aload_n 0, 1) := by decide +kernel
theorem dL_law_430 : decode cL_law 430 = .ok (.iload_n 3, 1) := by decide +kernel
theorem dL_law_431 : decode cL_law 431 = .ok (.iconst 2, 1) := by decide +kernel
theorem dL_law_432 : decode cL_law 432 = .ok (.iadd, 1) := by decide +kernel
theorem dL_law_433 : decode cL_law 433 = .ok (.iaload, 1) := by decide +kernel
theorem dL_law_434 : decode cL_law 434 = .ok (.invokevirtual 43, 3) := by decide +kernel
theorem dL_law_437 : decode cL_law 437 = .ok (.pop, 1) := by decide +kernel
theorem dL_law_438 : decode cL_law 438 = .ok (.goto 1281, 3) := by decide +kernel
theorem dL_law_441 : decode cL_law 441 = .ok (.aload_n 1, 1) := by decide +kernel
theorem dL_law_442 : decode cL_law 442 = .ok (.aload_n 0, 1) := by decide +kernel
theorem dL_law_443 : decode cL_law 443 = .ok (.iload_n 3, 1) := by decide +kernel
theorem dL_law_444 : decode cL_law 444 = .ok (.iconst 1, 1) := by decide +kernel
theorem dL_law_445 : decode cL_law 445 = .ok (.iadd, 1) := by decide +kernel
theorem dL_law_446 : decode cL_law 446 = .ok (.iaload, 1) := by decide +kernel
theorem dL_law_447 : decode cL_law 447 = .ok (.aload_n 0, 1) := by decide +kernel
theorem dL_law_448 : decode cL_law 448 = .ok (.iload_n 3, 1) := by decide +kernel
theorem dL_law_449 : decode cL_law 449 = .ok (.iconst 2, 1) := by decide +kernel
theorem dL_law_450 : decode cL_law 450 = .ok (.iadd, 1) := by decide +kernel
theorem dL_law_451 : decode cL_law 451 = .ok (.iaload, 1) := by decide +kernel
theorem dL_law_452 : decode cL_law 452 = .ok (.aload_n 0, 1) := by decide +kernel
theorem dL_law_453 : decode cL_law 453 = .ok (.iload_n 3, 1) := by decide +kernel
theorem dL_law_454 : decode cL_law 454 = .ok (.iconst 3, 1) := by decide +kernel
theorem dL_law_455 : decode cL_law 455 = .ok (.iadd, 1) := by decide +kernel
theorem dL_law_456 : decode cL_law 456 = .ok (.iaload, 1) := by decide +kernel
theorem dL_law_457 : decode cL_law 457 = .ok (.invokevirtual 44, 3) := by decide +kernel
theorem dL_law_460 : decode cL_law 460 = .ok (.pop, 1) := by decide +kernel
theorem dL_law_461 : decode cL_law 461 = .ok (.aload_n 2, 1) := by decide +kernel
theorem dL_law_462 : decode cL_law 462 = .ok (.aload_n 0, 1) := by decide +kernel
theorem dL_law_463 : decode cL_law 463 = .ok (.iload_n 3, 1) := by decide +kernel
theorem dL_law_464 : decode cL_law 464 = .ok (.iconst 1, 1) := by decide +kernel
theorem dL_law_465 : decode cL_law 465 = .ok (.iadd, 1) := by decide +kernel
theorem dL_law_466 : decode cL_law 466 = .ok (.iaload, 1) := by decide +kernel
theorem dL_law_467 : decode cL_law 467 = .ok (.aload_n 0, 1) := by decide +kernel
theorem dL_law_468 : decode cL_law 468 = .ok (.iload_n 3, 1) := by decide +kernel
theorem dL_law_469 : decode cL_law 469 = .ok (.iconst 2, 1) := by decide +kernel
theorem dL_law_470 : decode cL_law 470 = .ok (.iadd, 1) := by decide +kernel
theorem dL_law_471 : decode cL_law 471 = .ok (.iaload, 1) := by decide +kernel
theorem dL_law_472 : decode cL_law 472 = .ok (.aload_n 0, 1) := by decide +kernel
theorem dL_law_473 : decode cL_law 473 = .ok (.iload_n 3, 1) := by decide +kernel
theorem dL_law_474 : decode cL_law 474 = .ok (.iconst 3, 1) := by decide +kernel
theorem dL_law_475 : decode cL_law 475 = .ok (.iadd, 1) := by decide +kernel
theorem dL_law_476 : decode cL_law 476 = .ok (.iaload, 1) := by decide +kernel
theorem dL_law_477 : decode cL_law 477 = .ok (.invokevirtual 48, 3) := by decide +kernel
theorem dL_law_480 : decode cL_law 480 = .ok (.pop, 1) := by decide +kernel
theorem dL_law_481 : decode cL_law 481 = .ok (.goto 1238, 3) := by decide +kernel
theorem dL_law_484 : decode cL_law 484 = .ok (.aload_n 1, 1) := by decide +kernel
theorem dL_law_485 : decode cL_law 485 = .ok (.aload_n 0, 1) := by decide +kernel
theorem dL_law_486 : decode cL_law 486 = .ok (.iload_n 3, 1) := by decide +kernel
theorem dL_law_487 : decode cL_law 487 = .ok (.iconst 1, 1) := by decide +kernel
theorem dL_law_488 : decode cL_law 488 = .ok (.iadd, 1) := by decide +kernel
theorem dL_law_489 : decode cL_law 489 = .ok (.iaload, 1) := by decide +kernel
theorem dL_law_490 : decode cL_law 490 = .ok (.aload_n 0, 1) := by decide +kernel
theorem dL_law_491 : decode cL_law 491 = .ok (.iload_n 3, 1) := by decide +kernel
theorem dL_law_492 : decode cL_law 492 = .ok (.iconst 2, 1) := by decide +kernel
theorem dL_law_493 : decode cL_law 493 = .ok (.iadd, 1) := by decide +kernel
theorem dL_law_494 : decode cL_law 494 = .ok (.iaload, 1) := by decide +kernel
theorem dL_law_495 : decode cL_law 495 = .ok (.aload_n 0, 1) := by decide +kernel
theorem dL_law_496 : decode cL_law 496 = .ok (.iload_n 3, 1) := by decide +kernel
theorem dL_law_497 : decode cL_law 497 = .ok (.iconst 3, 1) := by decide +kernel
theorem dL_law_498 : decode cL_law 498 = .ok (.iadd, 1) := by decide +kernel
theorem dL_law_499 : decode cL_law 499 = .ok (.iaload, 1) := by decide +kernel
theorem dL_law_500 : decode cL_law 500 = .ok (.invokevirtual 49, 3) := by decide +kernel
theorem dL_law_503 : decode cL_law 503 = .ok (.pop, 1) := by decide +kernel
theorem dL_law_504 : decode cL_law 504 = .ok (.aload_n 2, 1) := by decide +kernel
theorem dL_law_505 : decode cL_law 505 = .ok (.aload_n 0, 1) := by decide +kernel
theorem dL_law_506 : decode cL_law 506 = .ok (.iload_n 3, 1) := by decide +kernel
theorem dL_law_507 : decode cL_law 507 = .ok (.iconst 1, 1) := by decide +kernel
theorem dL_law_508 : decode cL_law 508 = .ok (.iadd, 1) := by decide +kernel
theorem dL_law_509 : decode cL_law 509 = .ok (.iaload, 1) := by decide +kernel
theorem dL_law_510 : decode cL_law 510 = .ok (.aload_n 0, 1) := by decide +kernel
theorem dL_law_511 : decode cL_law 511 = .ok (.iload_n 3, 1) := by decide +kernel
theorem dL_law_512 : decode cL_law 512 = .ok (.iconst 2, 1) := by decide +kernel
theorem dL_law_513 : decode cL_law 513 = .ok (.iadd, 1) := by decide +kernel
theorem dL_law_514 : decode cL_law 514 = .ok (.iaload, 1) := by decide +kernel
theorem dL_law_515 : decode cL_law 515 = .ok (.aload_n 0, 1) := by decide +kernel
theorem dL_law_516 : decode cL_law 516 = .ok (.iload_n 3, 1) := by decide +kernel
theorem dL_law_517 : decode cL_law 517 = .ok (.iconst 3, 1) := by decide +kernel
theorem dL_law_518 : decode cL_law 518 = .ok (.iadd, 1) := by decide +kernel
theorem dL_law_519 : decode cL_law 519 = .ok (.iaload, 1) := by decide +kernel
theorem dL_law_520 : decode cL_law 520 = .ok (.invokevirtual 52, 3) := by decide +kernel
theorem dL_law_523 : decode cL_law 523 = .ok (.pop, 1) := by decide +kernel
theorem dL_law_524 : decode cL_law 524 = .ok (.goto 1195, 3) := by decide +kernel
theorem dL_law_527 : decode cL_law 527 = .ok (.aload_n 1, 1) := by decide +kernel
theorem dL_law_528 : decode cL_law 528 = .ok (.aload_n 0, 1) := by decide +kernel
theorem dL_law_529 : decode cL_law 529 = .ok (.iload_n 3, 1) := by decide +kernel
theorem dL_law_530 : decode cL_law 530 = .ok (.iconst 1, 1) := by decide +kernel
theorem dL_law_531 : decode cL_law 531 = .ok (.iadd, 1) := by decide +kernel
theorem dL_law_532 : decode cL_law 532 = .ok (.iaload, 1) := by decide +kernel
theorem dL_law_533 : decode cL_law 533 = .ok (.aload_n 0, 1) := by decide +kernel
theorem dL_law_534 : decode cL_law 534 = .ok (.iload_n 3, 1) := by decide +kernel
theorem dL_law_535 : decode cL_law 535 = .ok (.iconst 2, 1) := by decide +kernel
theorem dL_law_536 : decode cL_law 536 = .ok (.iadd, 1) := by decide +kernel
theorem dL_law_537 : decode cL_law 537 = .ok (.iaload, 1) := by decide +kernel
theorem dL_law_538 : decode cL_law 538 = .ok (.invokevirtual 53, 3) := by decide +kernel
theorem dL_law_541 : decode cL_law 541 = .ok (.pop, 1) := by decide +kernel
theorem dL_law_542 : decode cL_law 542 = .ok (.aload_n 2, 1) := by decide +kernel
theorem dL_law_543 : decode cL_law 543 = .ok (.aload_n 0, 1) := by decide +kernel
theorem dL_law_544 : decode cL_law 544 = .ok (.iload_n 3, 1) := by decide +kernel
theorem dL_law_545 : decode cL_law 545 = .ok (.iconst 1, 1) := by decide +kernel
theorem dL_law_546 : decode cL_law 546 = .ok (.iadd, 1) := by decide +kernel
theorem dL_law_547 : decode cL_law 547 = .ok (.iaload, 1) := by decide +kernel
theorem dL_law_548 : decode cL_law 548 = .ok (.aload_n 0, 1) := by decide +kernel
theorem dL_law_549 : decode cL_law 549 = .ok (.iload_n 3, 1) := by decide +kernel
theorem dL_law_550 : decode cL_law 550 = .ok (.iconst 2, 1) := by decide +kernel
theorem dL_law_551 : decode cL_law 551 = .ok (.iadd, 1) := by decide +kernel
theorem dL_law_552 : decode cL_law 552 = .ok (.iaload, 1) := by decide +kernel
theorem dL_law_553 : decode cL_law 553 = .ok (.invokevirtual 56, 3) := by decide +kernel
theorem dL_law_556 : decode cL_law 556 = .ok (.pop, 1) := by decide +kernel
theorem dL_law_557 : decode cL_law 557 = .ok (.goto 1162, 3) := by decide +kernel
theorem dL_law_560 : decode cL_law 560 = .ok (.aload_n 1, 1) := by decide +kernel
theorem dL_law_561 : decode cL_law 561 = .ok (.aload_n 0, 1) := by decide +kernel
theorem dL_law_562 : decode cL_law 562 = .ok (.iload_n 3, 1) := by decide +kernel
theorem dL_law_563 : decode cL_law 563 = .ok (.iconst 1, 1) := by decide +kernel
theorem dL_law_564 : decode cL_law 564 = .ok (.iadd, 1) := by decide +kernel
theorem dL_law_565 : decode cL_law 565 = .ok (.iaload, 1) := by decide +kernel
theorem dL_law_566 : decode cL_law 566 = .ok (.aload_n 0, 1) := by decide +kernel
theorem dL_law_567 : decode cL_law 567 = .ok (.iload_n 3, 1) := by decide +kernel
theorem dL_law_568 : decode cL_law 568 = .ok (.iconst 2, 1) := by decide +kernel
theorem dL_law_569 : decode cL_law 569 = .ok (.iadd, 1) := by decide +kernel
theorem dL_law_570 : decode cL_law 570 = .ok (.iaload, 1) := by decide +kernel
theorem dL_law_571 : decode cL_law 571 = .ok (.invokevirtual 57, 3) := by decide +kernel
theorem dL_law_574 : decode cL_law 574 = .ok (.pop, 1) := by decide +kernel
theorem dL_law_575 : decode cL_law 575 = .ok (.aload_n 2, 1) := by decide +kernel
theorem dL_law_576 : decode cL_law 576 = .ok (.aload_n 0, 1) := by decide +kernel
theorem dL_law_577 : decode cL_law 577 = .ok (.iload_n 3, 1) := by decide +kernel
theorem dL_law_578 : decode cL_law 578 = .ok (.iconst 1, 1) := by decide +kernel
theorem dL_law_579 : decode cL_law 579 = .ok (.iadd, 1) := by decide +kernel
theorem dL_law_580 : decode cL_law 580 = .ok (.iaload, 1) := by decide +kernel
theorem dL_law_581 : decode cL_law 581 = .ok (.aload_n 0, 1) := by decide +kernel
theorem dL_law_582 : decode cL_law 582 = .ok (.iload_n 3, 1) := by decide +kernel
theorem dL_law_583 : decode cL_law 583 = .ok (.iconst 2, 1) := by decide +kernel
theorem dL_law_584 : decode cL_law 584 = .ok (.iadd, 1) := by decide +kernel
theorem dL_law_585 : decode cL_law 585 = .ok (.iaload, 1) := by decide +kernel
theorem dL_law_586 : decode cL_law 586 = .ok (.invokevirtual 60, 3) := by decide +kernel
theorem dL_law_589 : decode cL_law 589 = .ok (.pop, 1) := by decide +kernel
theorem dL_law_590 : decode cL_law 590 = .ok (.goto 1129, 3) := by decide +kernel
theorem dL_law_593 : decode cL_law 593 = .ok (.aload_n 1, 1) := by decide +kernel
theorem dL_law_594 : decode cL_law 594 = .ok (.aload_n 0, 1) := by decide +kernel
theorem dL_law_595 : decode cL_law 595 = .ok (.iload_n 3, 1) := by decide +kernel
theorem dL_law_596 : decode cL_law 596 = .ok (.iconst 1, 1) := by decide +kernel
theorem dL_law_597 : decode cL_law 597 = .ok (.iadd, 1) := by decide +kernel
theorem dL_law_598 : decode cL_law 598 = .ok (.iaload, 1) := by decide +kernel
theorem dL_law_599 : decode cL_law 599 = .ok (.aload_n 0, 1) := by decide +kernel
theorem dL_law_600 : decode cL_law 600 = .ok (.iload_n 3, 1) := by decide +kernel
theorem dL_law_601 : decode cL_law 601 = .ok (.iconst 2, 1) := by decide +kernel
theorem dL_law_602 : decode cL_law 602 = .ok (.iadd, 1) := by decide +kernel
theorem dL_law_603 : decode cL_law 603 = .ok (.iaload, 1) := by decide +kernel
theorem dL_law_604 : decode cL_law 604 = .ok (.invokevirtual 61, 3) := by decide +kernel
theorem dL_law_607 : decode cL_law 607 = .ok (.pop, 1) := by decide +kernel
theorem dL_law_608 : decode cL_law 608 = .ok (.aload_n 2, 1) := by decide +kernel
theorem dL_law_609 : decode cL_law 609 = .ok (.aload_n 0, 1) := by decide +kernel
theorem dL_law_610 : decode cL_law 610 = .ok (.iload_n 3, 1) := by decide +kernel
theorem dL_law_611 : decode cL_law 611 = .ok (.iconst 1, 1) := by decide +kernel
theorem dL_law_612 : decode cL_law 612 = .ok (.iadd, 1) := by decide +kernel
theorem dL_law_613 : decode cL_law 613 = .ok (.iaload, 1) := by decide +kernel
theorem dL_law_614 : decode cL_law 614 = .ok (.aload_n 0, 1) := by decide +kernel
theorem dL_law_615 : decode cL_law 615 = .ok (.iload_n 3, 1) := by decide +kernel
theorem dL_law_616 : decode cL_law 616 = .ok (.iconst 2, 1) := by decide +kernel
theorem dL_law_617 : decode cL_law 617 = .ok (.iadd, 1) := by decide +kernel
theorem dL_law_618 : decode cL_law 618 = .ok (.iaload, 1) := by decide +kernel
theorem dL_law_619 : decode cL_law 619 = .ok (.invokevirtual 64, 3) := by decide +kernel
theorem dL_law_622 : decode cL_law 622 = .ok (.pop, 1) := by decide +kernel
theorem dL_law_623 : decode cL_law 623 = .ok (.goto 1096, 3) := by decide +kernel
theorem dL_law_626 : decode cL_law 626 = .ok (.aload_n 1, 1) := by decide +kernel
theorem dL_law_627 : decode cL_law 627 = .ok (.aload_n 0, 1) := by decide +kernel
theorem dL_law_628 : decode cL_law 628 = .ok (.iload_n 3, 1) := by decide +kernel
theorem dL_law_629 : decode cL_law 629 = .ok (.iconst 1, 1) := by decide +kernel
theorem dL_law_630 : decode cL_law 630 = .ok (.iadd, 1) := by decide +kernel
theorem dL_law_631 : decode cL_law 631 = .ok (.iaload, 1) := by decide +kernel
theorem dL_law_632 : decode cL_law 632 = .ok (.aload_n 0, 1) := by decide +kernel
theorem dL_law_633 : decode cL_law 633 = .ok (.iload_n 3, 1) := by decide +kernel
theorem dL_law_634 : decode cL_law 634 = .ok (.iconst 2, 1) := by decide +kernel
theorem dL_law_635 : decode cL_law 635 = .ok (.iadd, 1) := by decide +kernel
theorem dL_law_636 : decode cL_law 636 = .ok (.iaload, 1) := by decide +kernel
theorem dL_law_637 : decode cL_law 637 = .ok (.aload_n 0, 1) := by decide +kernel
theorem dL_law_638 : decode cL_law 638 = .ok (.iload_n 3, 1) := by decide +kernel
theorem dL_law_639 : decode cL_law 639 = .ok (.iconst 3, 1) := by decide +kernel
theorem dL_law_640 : decode cL_law 640 = .ok (.iadd, 1) := by decide +kernel
theorem dL_law_641 : decode cL_law 641 = .ok (.iaload, 1) := by decide +kernel
theorem dL_law_642 : decode cL_law 642 = .ok (.invokevirtual 65, 3) := by decide +kernel
theorem dL_law_645 : decode cL_law 645 = .ok (.pop, 1) := by decide +kernel
theorem dL_law_646 : decode cL_law 646 = .ok (.aload_n 2, 1) := by decide +kernel
theorem dL_law_647 : decode cL_law 647 = .ok (.aload_n 0, 1) := by decide +kernel
theorem dL_law_648 : decode cL_law 648 = .ok (.iload_n 3, 1) := by decide +kernel
theorem dL_law_649 : decode cL_law 649 = .ok (.iconst 1, 1) := by decide +kernel
theorem dL_law_650 : decode cL_law 650 = .ok (.iadd, 1) := by decide +kernel
theorem dL_law_651 : decode cL_law 651 = .ok (.iaload, 1) := by decide +kernel
theorem dL_law_652 : decode cL_law 652 = .ok (.aload_n 0, 1) := by decide +kernel
theorem dL_law_653 : decode cL_law 653 = .ok (.iload_n 3, 1) := by decide +kernel
theorem dL_law_654 : decode cL_law 654 = .ok (.iconst 2, 1) := by decide +kernel
theorem dL_law_655 : decode cL_law 655 = .ok (.iadd, 1) := by decide +kernel
theorem dL_law_656 : decode cL_law 656 = .ok (.iaload, 1) := by decide +kernel
theorem dL_law_657 : decode cL_law 657 = .ok (.aload_n 0, 1) := by decide +kernel
theorem dL_law_658 : decode cL_law 658 = .ok (.iload_n 3, 1) := by decide +kernel
theorem dL_law_659 : decode cL_law 659 = .ok (.iconst 3, 1) := by decide +kernel
theorem dL_law_660 : decode cL_law 660 = .ok (.iadd, 1) := by decide +kernel
theorem dL_law_661 : decode cL_law 661 = .ok (.iaload, 1) := by decide +kernel
theorem dL_law_662 : decode cL_law 662 = .ok (.invokevirtual 68, 3) := by decide +kernel
theorem dL_law_665 : decode cL_law 665 = .ok (.pop, 1) := by decide +kernel
theorem dL_law_666 : decode cL_law 666 = .ok (.goto 1053, 3) := by decide +kernel
theorem dL_law_669 : decode cL_law 669 = .ok (.aload_n 1, 1) := by decide +kernel
theorem dL_law_670 : decode cL_law 670 = .ok (.aload_n 0, 1) := by decide +kernel
theorem dL_law_671 : decode cL_law 671 = .ok (.iload_n 3, 1) := by decide +kernel
theorem dL_law_672 : decode cL_law 672 = .ok (.iconst 1, 1) := by decide +kernel
theorem dL_law_673 : decode cL_law 673 = .ok (.iadd, 1) := by decide +kernel
theorem dL_law_674 : decode cL_law 674 = .ok (.iaload, 1) := by decide +kernel
theorem dL_law_675 : decode cL_law 675 = .ok (.aload_n 0, 1) := by decide +kernel
theorem dL_law_676 : decode cL_law 676 = .ok (.iload_n 3, 1) := by decide +kernel
theorem dL_law_677 : decode cL_law 677 = .ok (.iconst 2, 1) := by decide +kernel
theorem dL_law_678 : decode cL_law 678 = .ok (.iadd, 1) := by decide +kernel
theorem dL_law_679 : decode cL_law 679 = .ok (.iaload, 1) := by decide +kernel
theorem dL_law_680 : decode cL_law 680 = .ok (.invokevirtual 69, 3) := by decide +kernel
theorem dL_law_683 : decode cL_law 683 = .ok (.pop, 1) := by decide +kernel
theorem dL_law_684 : decode cL_law 684 = .ok (.aload_n 2, 1) := by decide +kernel
theorem dL_law_685 : decode cL_law 685 = .ok (.aload_n 0, 1) := by decide +kernel
theorem dL_law_686 : decode cL_law 686 = .ok (.iload_n 3, 1) := by decide +kernel
theorem dL_law_687 : decode cL_law 687 = .ok (.iconst 1, 1) := by decide +kernel
theorem dL_law_688 : decode cL_law 688 = .ok (.iadd, 1) := by decide +kernel
theorem dL_law_689 : decode cL_law 689 = .ok (.iaload, 1) := by decide +kernel
theorem dL_law_690 : decode cL_law 690 = .ok (.aload_n 0, 1) := by decide +kernel
theorem dL_law_691 : decode cL_law 691 = .ok (.iload_n 3, 1) := by decide +kernel
theorem dL_law_692 : decode cL_law 692 = .ok (.iconst 2, 1) := by decide +kernel
theorem dL_law_693 : decode cL_law 693 = .ok (.iadd, 1) := by decide +kernel
theorem dL_law_694 : decode cL_law 694 = .ok (.iaload, 1) := by decide +kernel
theorem dL_law_695 : decode cL_law 695 = .ok (.invokevirtual 72, 3) := by decide +kernel
theorem dL_law_698 : decode cL_law 698 = .ok (.pop, 1) := by decide +kernel
theorem dL_law_699 : decode cL_law 699 = .ok (.goto 1020, 3) := by decide +kernel
theorem dL_law_702 : decode cL_law 702 = .ok (.aload_n 1, 1) := by decide +kernel
theorem dL_law_703 : decode cL_law 703 = .ok (.aload_n 0, 1) := by decide +kernel
theorem dL_law_704 : decode cL_law 704 = .ok (.iload_n 3, 1) := by decide +kernel
theorem dL_law_705 : decode cL_law 705 = .ok (.iconst 1, 1) := by decide +kernel
theorem dL_law_706 : decode cL_law 706 = .ok (.iadd, 1) := by decide +kernel
theorem dL_law_707 : decode cL_law 707 = .ok (.iaload, 1) := by decide +kernel
theorem dL_law_708 : decode cL_law 708 = .ok (.invokevirtual 73, 3) := by decide +kernel
theorem dL_law_711 : decode cL_law 711 = .ok (.pop, 1) := by decide +kernel
theorem dL_law_712 : decode cL_law 712 = .ok (.aload_n 2, 1) := by decide +kernel
theorem dL_law_713 : decode cL_law 713 = .ok (.aload_n 0, 1) := by decide +kernel
theorem dL_law_714 : decode cL_law 714 = .ok (.iload_n 3, 1) := by decide +kernel
theorem dL_law_715 : decode cL_law 715 = .ok (.iconst 1, 1) := by decide +kernel
theorem dL_law_716 : decode cL_law 716 = .ok (.iadd, 1) := by decide +kernel
theorem dL_law_717 : decode cL_law 717 = .ok (.iaload, 1) := by decide +kernel
theorem dL_law_718 : decode cL_law 718 = .ok (.invokevirtual 76, 3) := by decide +kernel
theorem dL_law_721 : decode cL_law 721 = .ok (.pop, 1) := by decide +kernel
theorem dL_law_722 : decode cL_law 722 = .ok (.goto 997, 3) := by decide +kernel
theorem dL_law_725 : decode cL_law 725 = .ok (.aload_n 1, 1) := by decide +kernel
theorem dL_law_726 : decode cL_law 726 = .ok (.aload_n 0, 1) := by decide +kernel
theorem dL_law_727 : decode cL_law 727 = .ok (.iload_n 3, 1) := by decide +kernel
theorem dL_law_728 : decode cL_law 728 = .ok (.iconst 1, 1) := by decide +kernel
theorem dL_law_729 : decode cL_law 729 = .ok (.iadd, 1) := by decide +kernel
theorem dL_law_730 : decode cL_law 730 = .ok (.iaload, 1) := by decide +kernel
theorem dL_law_731 : decode cL_law 731 = .ok (.aload_n 0, 1) := by decide +kernel
theorem dL_law_732 : decode cL_law 732 = .ok (.iload_n 3, 1) := by decide +kernel
theorem dL_law_733 : decode cL_law 733 = .ok (.iconst 2, 1) := by decide +kernel
theorem dL_law_734 : decode cL_law 734 = .ok (.iadd, 1) := by decide +kernel
theorem dL_law_735 : decode cL_law 735 = .ok (.iaload, 1) := by decide +kernel
theorem dL_law_736 : decode cL_law 736 = .ok (.invokevirtual 77, 3) := by decide +kernel
theorem dL_law_739 : decode cL_law 739 = .ok (.pop, 1) := by decide +kernel
theorem dL_law_740 : decode cL_law 740 = .ok (.aload_n 2, 1) := by decide +kernel
theorem dL_law_741 : decode cL_law 741 = .ok (.aload_n 0, 1) := by decide +kernel
theorem dL_law_742 : decode cL_law 742 = .ok (.iload_n 3, 1) := by decide +kernel
theorem dL_law_743 : decode cL_law 743 = .ok (.iconst 1, 1) := by decide +kernel
theorem dL_law_744 : decode cL_law 744 = .ok (.iadd, 1) := by decide +kernel
theorem dL_law_745 : decode cL_law 745 = .ok (.iaload, 1) := by decide +kernel
theorem dL_law_746 : decode cL_law 746 = .ok (.aload_n 0, 1) := by decide +kernel
theorem dL_law_747 : decode cL_law 747 = .ok (.iload_n 3, 1) := by decide +kernel
theorem dL_law_748 : decode cL_law 748 = .ok (.iconst 2, 1) := by decide +kernel
theorem dL_law_749 : decode cL_law 749 = .ok (.iadd, 1) := by decide +kernel
theorem dL_law_750 : decode cL_law 750 = .ok (.iaload, 1) := by decide +kernel
theorem dL_law_751 : decode cL_law 751 = .ok (.invokevirtual 80, 3) := by decide +kernel
theorem dL_law_754 : decode cL_law 754 = .ok (.pop, 1) := by decide +kernel
theorem dL_law_755 : decode cL_law 755 = .ok (.goto 964, 3) := by decide +kernel
theorem dL_law_758 : decode cL_law 758 = .ok (.aload_n 1, 1) := by decide +kernel
theorem dL_law_759 : decode cL_law 759 = .ok (.aload_n 0, 1) := by decide +kernel
theorem dL_law_760 : decode cL_law 760 = .ok (.iload_n 3, 1) := by decide +kernel
theorem dL_law_761 : decode cL_law 761 = .ok (.iconst 1, 1) := by decide +kernel
theorem dL_law_762 : decode cL_law 762 = .ok (.iadd, 1) := by decide +kernel
theorem dL_law_763 : decode cL_law 763 = .ok (.iaload, 1) := by decide +kernel
theorem dL_law_764 : decode cL_law 764 = .ok (.aload_n 0, 1) := by decide +kernel
theorem dL_law_765 : decode cL_law 765 = .ok (.iload_n 3, 1) := by decide +kernel
theorem dL_law_766 : decode cL_law 766 = .ok (.iconst 2, 1) := by decide +kernel
theorem dL_law_767 : decode cL_law 767 = .ok (.iadd, 1) := by decide +kernel
theorem dL_law_768 : decode cL_law 768 = .ok (.iaload, 1) := by decide +kernel
theorem dL_law_769 : decode cL_law 769 = .ok (.aload_n 0, 1) := by decide +kernel
theorem dL_law_770 : decode cL_law 770 = .ok (.iload_n 3, 1) := by decide +kernel
theorem dL_law_771 : decode cL_law 771 = .ok (.iconst 3, 1) := by decide +kernel
theorem dL_law_772 : decode cL_law 772 = .ok (.iadd, 1) := by decide +kernel
theorem dL_law_773 : decode cL_law 773 = .ok (.iaload, 1) := by decide +kernel
theorem dL_law_774 : decode cL_law 774 = .ok (.invokevirtual 81, 3) := by decide +kernel
theorem dL_law_777 : decode cL_law 777 = .ok (.pop, 1) := by decide +kernel
theorem dL_law_778 : decode cL_law 778 = .ok (.aload_n 2, 1) := by decide +kernel
theorem dL_law_779 : decode cL_law 779 = .ok (.aload_n 0, 1) := by decide +kernel
theorem dL_law_780 : decode cL_law 780 = .ok (.iload_n 3, 1) := by decide +kernel
theorem dL_law_781 : decode cL_law 781 = .ok (.iconst 1, 1) := by decide +kernel
theorem dL_law_782 : decode cL_law 782 = .ok (.iadd, 1) := by decide +kernel
theorem dL_law_783 : decode cL_law 783 = .ok (.iaload, 1) := by decide +kernel
theorem dL_law_784 : decode cL_law 784 = .ok (.aload_n 0, 1) := by decide +kernel
theorem dL_law_785 : decode cL_law 785 = .ok (.iload_n 3, 1) := by decide +kernel
theorem dL_law_786 : decode cL_law 786 = .ok (.iconst 2, 1) := by decide +kernel
theorem dL_law_787 : decode cL_law 787 = .ok (.iadd, 1) := by decide +kernel
theorem dL_law_788 : decode cL_law 788 = .ok (.iaload, 1) := by decide +kernel
theorem dL_law_789 : decode cL_law 789 = .ok (.aload_n 0, 1) := by decide +kernel
theorem dL_law_790 : decode cL_law 790 = .ok (.iload_n 3, 1) := by decide +kernel
theorem dL_law_791 : decode cL_law 791 = .ok (.iconst 3, 1) := by decide +kernel
theorem dL_law_792 : decode cL_law 792 = .ok (.iadd, 1) := by decide +kernel
theorem dL_law_793 : decode cL_law 793 = .ok (.iaload, 1) := by decide +kernel
theorem dL_law_794 : decode cL_law 794 = .ok (.invokevirtual 84, 3) := by decide +kernel
theorem dL_law_797 : decode cL_law 797 = .ok (.pop, 1) := by decide +kernel
theorem dL_law_798 : decode cL_law 798 = .ok (.goto 921, 3) := by decide +kernel
theorem dL_law_801 : decode cL_law 801 = .ok (.aload_n 1, 1) := by decide +kernel
theorem dL_law_802 : decode cL_law 802 = .ok (.aload_n 0, 1) := by decide +kernel
theorem dL_law_803 : decode cL_law 803 = .ok (.iload_n 3, 1) := by decide +kernel
theorem dL_law_804 : decode cL_law 804 = .ok (.iconst 1, 1) := by decide +kernel
theorem dL_law_805 : decode cL_law 805 = .ok (.iadd, 1) := by decide +kernel
theorem dL_law_806 : decode cL_law 806 = .ok (.iaload, 1) := by decide +kernel
theorem dL_law_807 : decode cL_law 807 = .ok (.aload_n 0, 1) := by decide +kernel
theorem dL_law_808 : decode cL_law 808 = .ok (.iload_n 3, 1) := by decide +kernel
theorem dL_law_809 : decode cL_law 809 = .ok (.iconst 2, 1) := by decide +kernel
theorem dL_law_810 : decode cL_law 810 = .ok (.iadd, 1) := by decide +kernel
theorem dL_law_811 : decode cL_law 811 = .ok (.iaload, 1) := by decide +kernel
theorem dL_law_812 : decode cL_law 812 = .ok (.invokevirtual 85, 3) := by decide +kernel
theorem dL_law_815 : decode cL_law 815 = .ok (.pop, 1) := by decide +kernel
theorem dL_law_816 : decode cL_law 816 = .ok (.aload_n 2, 1) := by decide +kernel
theorem dL_law_817 : decode cL_law 817 = .ok (.aload_n 0, 1) := by decide +kernel
theorem dL_law_818 : decode cL_law 818 = .ok (.iload_n 3, 1) := by decide +kernel
theorem dL_law_819 : decode cL_law 819 = .ok (.iconst 1, 1) := by decide +kernel
theorem dL_law_820 : decode cL_law 820 = .ok (.iadd, 1) := by decide +kernel
theorem dL_law_821 : decode cL_law 821 = .ok (.iaload, 1) := by decide +kernel
theorem dL_law_822 : decode cL_law 822 = .ok (.aload_n 0, 1) := by decide +kernel
theorem dL_law_823 : decode cL_law 823 = .ok (.iload_n 3, 1) := by decide +kernel
theorem dL_law_824 : decode cL_law 824 = .ok (.iconst 2, 1) := by decide +kernel
theorem dL_law_825 : decode cL_law 825 = .ok (.iadd, 1) := by decide +kernel
theorem dL_law_826 : decode cL_law 826 = .ok (.iaload, 1) := by decide +kernel
theorem dL_law_827 : decode cL_law 827 = .ok (.invokevirtual 88, 3) := by decide +kernel
theorem dL_law_830 : decode cL_law 830 = .ok (.pop, 1) := by decide +kernel
theorem dL_law_831 : decode cL_law 831 = .ok (.goto 888, 3) := by decide +kernel
theorem dL_law_834 : decode cL_law 834 = .ok (.aload_n 1, 1) := by decide +kernel
theorem dL_law_835 : decode cL_law 835 = .ok (.aload_n 0, 1) := by decide +kernel
theorem dL_law_836 : decode cL_law 836 = .ok (.iload_n 3, 1) := by decide +kernel
theorem dL_law_837 : decode cL_law 837 = .ok (.iconst 1, 1) := by decide +kernel
theorem dL_law_838 : decode cL_law 838 = .ok (.iadd, 1) := by decide +kernel
theorem dL_law_839 : decode cL_law 839 = .ok (.iaload, 1) := by decide +kernel
theorem dL_law_840 : decode cL_law 840 = .ok (.aload_n 0, 1) := by decide +kernel
theorem dL_law_841 : decode cL_law 841 = .ok (.iload_n 3, 1) := by decide +kernel
theorem dL_law_842 : decode cL_law 842 = .ok (.iconst 2, 1) := by decide +kernel
theorem dL_law_843 : decode cL_law 843 = .ok (.iadd, 1) := by decide +kernel
theorem dL_law_844 : decode cL_law 844 = .ok (.iaload, 1) := by decide +kernel
theorem dL_law_845 : decode cL_law 845 = .ok (.aload_n 0, 1) := by decide +kernel
theorem dL_law_846 : decode cL_law 846 = .ok (.iload_n 3, 1) := by decide +kernel
theorem dL_law_847 : decode cL_law 847 = .ok (.iconst 3, 1) := by decide +kernel
theorem dL_law_848 : decode cL_law 848 = .ok (.iadd, 1) := by decide +kernel
theorem dL_law_849 : decode cL_law 849 = .ok (.iaload, 1) := by decide +kernel
theorem dL_law_850 : decode cL_law 850 = .ok (.invokevirtual 89, 3) := by decide +kernel
theorem dL_law_853 : decode cL_law 853 = .ok (.pop, 1) := by decide +kernel
theorem dL_law_854 : decode cL_law 854 = .ok (.aload_n 2, 1) := by decide +kernel
theorem dL_law_855 : decode cL_law 855 = .ok (.aload_n 0, 1) := by decide +kernel
theorem dL_law_856 : decode cL_law 856 = .ok (.iload_n 3, 1) := by decide +kernel
theorem dL_law_857 : decode cL_law 857 = .ok (.iconst 1, 1) := by decide +kernel
theorem dL_law_858 : decode cL_law 858 = .ok (.iadd, 1) := by decide +kernel
theorem dL_law_859 : decode cL_law 859 = .ok (.iaload, 1) := by decide +kernel
theorem dL_law_860 : decode cL_law 860 = .ok (.aload_n 0, 1) := by decide +kernel
theorem dL_law_861 : decode cL_law 861 = .ok (.iload_n 3, 1) := by decide +kernel
theorem dL_law_862 : decode cL_law 862 = .ok (.iconst 2, 1) := by decide +kernel
theorem dL_law_863 : decode cL_law 863 = .ok (.iadd, 1) := by decide +kernel
theorem dL_law_864 : decode cL_law 864 = .ok (.iaload, 1) := by decide +kernel
theorem dL_law_865 : decode cL_law 865 = .ok (.aload_n 0, 1) := by decide +kernel
theorem dL_law_866 : decode cL_law 866 = .ok (.iload_n 3, 1) := by decide +kernel
theorem dL_law_867 : decode cL_law 867 = .ok (.iconst 3, 1) := by decide +kernel
theorem dL_law_868 : decode cL_law 868 = .ok (.iadd, 1) := by decide +kernel
theorem dL_law_869 : decode cL_law 869 = .ok (.iaload, 1) := by decide +kernel
theorem dL_law_870 : decode cL_law 870 = .ok (.invokevirtual 92, 3) := by decide +kernel
theorem dL_law_873 : decode cL_law 873 = .ok (.pop, 1) := by decide +kernel
theorem dL_law_874 : decode cL_law 874 = .ok (.goto 845, 3) := by decide +kernel
theorem dL_law_877 : decode cL_law 877 = .ok (.aload_n 1, 1) := by decide +kernel
theorem dL_law_878 : decode cL_law 878 = .ok (.aload_n 0, 1) := by decide +kernel
theorem dL_law_879 : decode cL_law 879 = .ok (.iload_n 3, 1) := by decide +kernel
theorem dL_law_880 : decode cL_law 880 = .ok (.iconst 1, 1) := by decide +kernel
theorem dL_law_881 : decode cL_law 881 = .ok (.iadd, 1) := by decide +kernel
theorem dL_law_882 : decode cL_law 882 = .ok (.iaload, 1) := by decide +kernel
theorem dL_law_883 : decode cL_law 883 = .ok (.aload_n 0, 1) := by decide +kernel
theorem dL_law_884 : decode cL_law 884 = .ok (.iload_n 3, 1) := by decide +kernel
theorem dL_law_885 : decode cL_law 885 = .ok (.iconst 2, 1) := by decide +kernel
theorem dL_law_886 : decode cL_law 886 = .ok (.iadd, 1) := by decide +kernel
theorem dL_law_887 : decode cL_law 887 = .ok (.iaload, 1) := by decide +kernel
theorem dL_law_888 : decode cL_law 888 = .ok (.invokevirtual 93, 3) := by decide +kernel
theorem dL_law_891 : decode cL_law 891 = .ok (.pop, 1) := by decide +kernel
theorem dL_law_892 : decode cL_law 892 = .ok (.aload_n 2, 1) := by decide +kernel
theorem dL_law_893 : decode cL_law 893 = .ok (.aload_n 0, 1) := by decide +kernel
theorem dL_law_894 : decode cL_law 894 = .ok (.iload_n 3, 1) := by decide +kernel
theorem dL_law_895 : decode cL_law 895 = .ok (.iconst 1, 1) := by decide +kernel
theorem dL_law_896 : decode cL_law 896 = .ok (.iadd, 1) := by decide +kernel
theorem dL_law_897 : decode cL_law 897 = .ok (.iaload, 1) := by decide +kernel
theorem dL_law_898 : decode cL_law 898 = .ok (.aload_n 0, 1) := by decide +kernel
theorem dL_law_899 : decode cL_law 899 = .ok (.iload_n 3, 1) := by decide +kernel
theorem dL_law_900 : decode cL_law 900 = .ok (.iconst 2, 1) := by decide +kernel
theorem dL_law_901 : decode cL_law 901 = .ok (.iadd, 1) := by decide +kernel
theorem dL_law_902 : decode cL_law 902 = .ok (.iaload, 1) := by decide +kernel
theorem dL_law_903 : decode cL_law 903 = .ok (.invokevirtual 96, 3) := by decide +kernel
theorem dL_law_906 : decode cL_law 906 = .ok (.pop, 1) := by decide +kernel
theorem dL_law_907 : decode cL_law 907 = .ok (.goto 812, 3) := by decide +kernel
theorem dL_law_910 : decode cL_law 910 = .ok (.aload_n 1, 1) := by decide +kernel
theorem dL_law_911 : decode cL_law 911 = .ok (.aload_n 0, 1) := by decide +kernel
theorem dL_law_912 : decode cL_law 912 = .ok (.iload_n 3, 1) := by decide +kernel
theorem dL_law_913 : decode cL_law 913 = .ok (.iconst 1, 1) := by decide +kernel
theorem dL_law_914 : decode cL_law 914 = .ok (.iadd, 1) := by decide +kernel
theorem dL_law_915 : decode cL_law 915 = .ok (.iaload, 1) := by decide +kernel
theorem dL_law_916 : decode cL_law 916 = .ok (.aload_n 0, 1) := by decide +kernel
theorem dL_law_917 : decode cL_law 917 = .ok (.iload_n 3, 1) := by decide +kernel
theorem dL_law_918 : decode cL_law 918 = .ok (.iconst 2, 1) := by decide +kernel
theorem dL_law_919 : decode cL_law 919 = .ok (.iadd, 1) := by decide +kernel
theorem dL_law_920 : decode cL_law 920 = .ok (.iaload, 1) := by decide +kernel
theorem dL_law_921 : decode cL_law 921 = .ok (.aload_n 0, 1) := by decide +kernel
theorem dL_law_922 : decode cL_law 922 = .ok (.iload_n 3, 1) := by decide +kernel
theorem dL_law_923 : decode cL_law 923 = .ok (.iconst 3, 1) := by decide +kernel
theorem dL_law_924 : decode cL_law 924 = .ok (.iadd, 1) := by decide +kernel
theorem dL_law_925 : decode cL_law 925 = .ok (.iaload, 1) := by decide +kernel
theorem dL_law_926 : decode cL_law 926 = .ok (.invokevirtual 97, 3) := by decide +kernel
theorem dL_law_929 : decode cL_law 929 = .ok (.pop, 1) := by decide +kernel
theorem dL_law_930 : decode cL_law 930 = .ok (.aload_n 2, 1) := by decide +kernel
theorem dL_law_931 : decode cL_law 931 = .ok (.aload_n 0, 1) := by decide +kernel
theorem dL_law_932 : decode cL_law 932 = .ok (.iload_n 3, 1) := by decide +kernel
theorem dL_law_933 : decode cL_law 933 = .ok (.iconst 1, 1) := by decide +kernel
theorem dL_law_934 : decode cL_law 934 = .ok (.iadd, 1) := by decide +kernel
theorem dL_law_935 : decode cL_law 935 = .ok (.iaload, 1) := by decide +kernel
theorem dL_law_936 : decode cL_law 936 = .ok (.aload_n 0, 1) := by decide +kernel
theorem dL_law_937 : decode cL_law 937 = .ok (.iload_n 3, 1) := by decide +kernel
theorem dL_law_938 : decode cL_law 938 = .ok (.iconst 2, 1) := by decide +kernel
theorem dL_law_939 : decode cL_law 939 = .ok (.iadd, 1) := by decide +kernel
theorem dL_law_940 : decode cL_law 940 = .ok (.iaload, 1) := by decide +kernel
theorem dL_law_941 : decode cL_law 941 = .ok (.aload_n 0, 1) := by decide +kernel
theorem dL_law_942 : decode cL_law 942 = .ok (.iload_n 3, 1) := by decide +kernel
theorem dL_law_943 : decode cL_law 943 = .ok (.iconst 3, 1) := by decide +kernel
theorem dL_law_944 : decode cL_law 944 = .ok (.iadd, 1) := by decide +kernel
theorem dL_law_945 : decode cL_law 945 = .ok (.iaload, 1) := by decide +kernel
theorem dL_law_946 : decode cL_law 946 = .ok (.invokevirtual 100, 3) := by decide +kernel
theorem dL_law_949 : decode cL_law 949 = .ok (.pop, 1) := by decide +kernel
theorem dL_law_950 : decode cL_law 950 = .ok (.goto 769, 3) := by decide +kernel
theorem dL_law_953 : decode cL_law 953 = .ok (.aload_n 1, 1) := by decide +kernel
theorem dL_law_954 : decode cL_law 954 = .ok (.aload_n 0, 1) := by decide +kernel
theorem dL_law_955 : decode cL_law 955 = .ok (.iload_n 3, 1) := by decide +kernel
theorem dL_law_956 : decode cL_law 956 = .ok (.iconst 1, 1) := by decide +kernel
theorem dL_law_957 : decode cL_law 957 = .ok (.iadd, 1) := by decide +kernel
theorem dL_law_958 : decode cL_law 958 = .ok (.iaload, 1) := by decide +kernel
theorem dL_law_959 : decode cL_law 959 = .ok (.invokevirtual 101, 3) := by decide +kernel
theorem dL_law_962 : decode cL_law 962 = .ok (.pop, 1) := by decide +kernel
theorem dL_law_963 : decode cL_law 963 = .ok (.aload_n 2, 1) := by decide +kernel
theorem dL_law_964 : decode cL_law 964 = .ok (.aload_n 0, 1) := by decide +kernel
theorem dL_law_965 : decode cL_law 965 = .ok (.iload_n 3, 1) := by decide +kernel
theorem dL_law_966 : decode cL_law 966 = .ok (.iconst 1, 1) := by decide +kernel
theorem dL_law_967 : decode cL_law 967 = .ok (.iadd, 1) := by decide +kernel
theorem dL_law_968 : decode cL_law 968 = .ok (.iaload, 1) := by decide +kernel
theorem dL_law_969 : decode cL_law 969 = .ok (.invokevirtual 104, 3) := by decide +kernel
theorem dL_law_972 : decode cL_law 972 = .ok (.pop, 1) := by decide +kernel
theorem dL_law_973 : decode cL_law 973 = .ok (.goto 746, 3) := by decide +kernel
theorem dL_law_976 : decode cL_law 976 = .ok (.aload_n 1, 1) := by decide +kernel
theorem dL_law_977 : decode cL_law 977 = .ok (.aload_n 0, 1) := by decide +kernel
theorem dL_law_978 : decode cL_law 978 = .ok (.iload_n 3, 1) := by decide +kernel
theorem dL_law_979 : decode cL_law 979 = .ok (.iconst 1, 1) := by decide +kernel
theorem dL_law_980 : decode cL_law 980 = .ok (.iadd, 1) := by decide +kernel
theorem dL_law_981 : decode cL_law 981 = .ok (.iaload, 1) := by decide +kernel
theorem dL_law_982 : decode cL_law 982 = .ok (.aload_n 0, 1) := by decide +kernel
theorem dL_law_983 : decode cL_law 983 = .ok (.iload_n 3, 1) := by decide +kernel
theorem dL_law_984 : decode cL_law 984 = .ok (.iconst 2, 1) := by decide +kernel
theorem dL_law_985 : decode cL_law 985 = .ok (.iadd, 1) := by decide +kernel
theorem dL_law_986 : decode cL_law 986 = .ok (.iaload, 1) := by decide +kernel
theorem dL_law_987 : decode cL_law 987 = .ok (.aload_n 0, 1) := by decide +kernel
theorem dL_law_988 : decode cL_law 988 = .ok (.iload_n 3, 1) := by decide +kernel
theorem dL_law_989 : decode cL_law 989 = .ok (.iconst 3, 1) := by decide +kernel
theorem dL_law_990 : decode cL_law 990 = .ok (.iadd, 1) := by decide +kernel
theorem dL_law_991 : decode cL_law 991 = .ok (.iaload, 1) := by decide +kernel
theorem dL_law_992 : decode cL_law 992 = .ok (.invokevirtual 105, 3) := by decide +kernel
theorem dL_law_995 : decode cL_law 995 = .ok (.pop, 1) := by decide +kernel
theorem dL_law_996 : decode cL_law 996 = .ok (.aload_n 2, 1) := by decide +kernel
theorem dL_law_997 : decode cL_law 997 = .ok (.aload_n 0, 1) := by decide +kernel
theorem dL_law_998 : decode cL_law 998 = .ok (.iload_n 3, 1) := by decide +kernel
theorem dL_law_999 : decode cL_law 999 = .ok (.iconst 1, 1) := by decide +kernel
theorem dL_law_1000 : decode cL_law 1000 = .ok (.iadd, 1) := by decide +kernel
theorem dL_law_1001 : decode cL_law 1001 = .ok (.iaload, 1) := by decide +kernel
theorem dL_law_1002 : decode cL_law 1002 = .ok (.aload_n 0, 1) := by decide +kernel
theorem dL_law_1003 : decode cL_law 1003 = .ok (.iload_n 3, 1) := by decide +kernel
theorem dL_law_1004 : decode cL_law 1004 = .ok (.iconst 2, 1) := by decide +kernel
theorem dL_law_1005 : decode cL_law 1005 = .ok (.iadd, 1) := by decide +kernel
theorem dL_law_1006 : decode cL_law 1006 = .ok (.iaload, 1) := by decide +kernel
theorem dL_law_1007 : decode cL_law 1007 = .ok (.aload_n 0, 1) := by decide +kernel
theorem dL_law_1008 : decode cL_law 1008 = .ok (.iload_n 3, 1) := by decide +kernel
theorem dL_law_1009 : decode cL_law 1009 = .ok (.iconst 3, 1) := by decide +kernel
theorem dL_law_1010 : decode cL_law 1010 = .ok (.iadd, 1) := by decide +kernel
theorem dL_law_1011 : decode cL_law 1011 = .ok (.iaload, 1) := by decide +kernel
theorem dL_law_1012 : decode cL_law 1012 = .ok (.invokevirtual 108, 3) := by decide +kernel
theorem dL_law_1015 : decode cL_law 1015 = .ok (.pop, 1) := by decide +kernel
theorem dL_law_1016 : decode cL_law 1016 = .ok (.goto 703, 3) := by decide +kernel
theorem dL_law_1019 : decode cL_law 1019 = .ok (.aload_n 1, 1) := by decide +kernel
theorem dL_law_1020 : decode cL_law 1020 = .ok (.aload_n 0, 1) := by decide +kernel
theorem dL_law_1021 : decode cL_law 1021 = .ok (.iload_n 3, 1) := by decide +kernel
theorem dL_law_1022 : decode cL_law 1022 = .ok (.iconst 1, 1) := by decide +kernel
theorem dL_law_1023 : decode cL_law 1023 = .ok (.iadd, 1) := by decide +kernel
theorem dL_law_1024 : decode cL_law 1024 = .ok (.iaload, 1) := by decide +kernel
theorem dL_law_1025 : decode cL_law 1025 = .ok (.aload_n 0, 1) := by decide +kernel
theorem dL_law_1026 : decode cL_law 1026 = .ok (.iload_n 3, 1) := by decide +kernel
theorem dL_law_1027 : decode cL_law 1027 = .ok (.iconst 2, 1) := by decide +kernel
theorem dL_law_1028 : decode cL_law 1028 = .ok (.iadd, 1) := by decide +kernel
theorem dL_law_1029 : decode cL_law 1029 = .ok (.iaload, 1) := by decide +kernel
theorem dL_law_1030 : decode cL_law 1030 = .ok (.aload_n 0, 1) := by decide +kernel
theorem dL_law_1031 : decode cL_law 1031 = .ok (.iload_n 3, 1) := by decide +kernel
theorem dL_law_1032 : decode cL_law 1032 = .ok (.iconst 3, 1) := by decide +kernel
theorem dL_law_1033 : decode cL_law 1033 = .ok (.iadd, 1) := by decide +kernel
theorem dL_law_1034 : decode cL_law 1034 = .ok (.iaload, 1) := by decide +kernel
theorem dL_law_1035 : decode cL_law 1035 = .ok (.invokevirtual 109, 3) := by decide +kernel
theorem dL_law_1038 : decode cL_law 1038 = .ok (.pop, 1) := by decide +kernel
theorem dL_law_1039 : decode cL_law 1039 = .ok (.aload_n 2, 1) := by decide +kernel
theorem dL_law_1040 : decode cL_law 1040 = .ok (.aload_n 0, 1) := by decide +kernel
theorem dL_law_1041 : decode cL_law 1041 = .ok (.iload_n 3, 1) := by decide +kernel
theorem dL_law_1042 : decode cL_law 1042 = .ok (.iconst 1, 1) := by decide +kernel
theorem dL_law_1043 : decode cL_law 1043 = .ok (.iadd, 1) := by decide +kernel
theorem dL_law_1044 : decode cL_law 1044 = .ok (.iaload, 1) := by decide +kernel
theorem dL_law_1045 : decode cL_law 1045 = .ok (.aload_n 0, 1) := by decide +kernel
theorem dL_law_1046 : decode cL_law 1046 = .ok (.iload_n 3, 1) := by decide +kernel
theorem dL_law_1047 : decode cL_law 1047 = .ok (.iconst 2, 1) := by decide +kernel
theorem dL_law_1048 : decode cL_law 1048 = .ok (.iadd, 1) := by decide +kernel
theorem dL_law_1049 : decode cL_law 1049 = .ok (.iaload, 1) := by decide +kernel
theorem dL_law_1050 : decode cL_law 1050 = .ok (.aload_n 0, 1) := by decide +kernel
theorem dL_law_1051 : decode cL_law 1051 = .ok (.iload_n 3, 1) := by decide +kernel
theorem dL_law_1052 : decode cL_law 1052 = .ok (.iconst 3, 1) := by decide +kernel
theorem dL_law_1053 : decode cL_law 1053 = .ok (.iadd, 1) := by decide +kernel
theorem dL_law_1054 : decode cL_law 1054 = .ok (.iaload, 1) := by decide +kernel
theorem dL_law_1055 : decode cL_law 1055 = .ok (.invokevirtual 112, 3) := by decide +kernel
theorem dL_law_1058 : decode cL_law 1058 = .ok (.pop, 1) := by decide +kernel
theorem dL_law_1059 : decode cL_law 1059 = .ok (.goto 660, 3) := by decide +kernel
theorem dL_law_1062 : decode cL_law 1062 = .ok (.aload_n 1, 1) := by decide +kernel
theorem dL_law_1063 : decode cL_law 1063 = .ok (.aload_n 0, 1) := by decide +kernel
theorem dL_law_1064 : decode cL_law 1064 = .ok (.iload_n 3, 1) := by decide +kernel
theorem dL_law_1065 : decode cL_law 1065 = .ok (.iconst 1, 1) := by decide +kernel
theorem dL_law_1066 : decode cL_law 1066 = .ok (.iadd, 1) := by decide +kernel
theorem dL_law_1067 : decode cL_law 1067 = .ok (.iaload, 1) := by decide +kernel
theorem dL_law_1068 : decode cL_law 1068 = .ok (.invokevirtual 113, 3) := by decide +kernel
theorem dL_law_1071 : decode cL_law 1071 = .ok (.pop, 1) := by decide +kernel
theorem dL_law_1072 : decode cL_law 1072 = .ok (.aload_n 2, 1) := by decide +kernel
theorem dL_law_1073 : decode cL_law 1073 = .ok (.aload_n 0, 1) := by decide +kernel
theorem dL_law_1074 : decode cL_law 1074 = .ok (.iload_n 3, 1) := by decide +kernel
theorem dL_law_1075 : decode cL_law 1075 = .ok (.iconst 1, 1) := by decide +kernel
theorem dL_law_1076 : decode cL_law 1076 = .ok (.iadd, 1) := by decide +kernel
theorem dL_law_1077 : decode cL_law 1077 = .ok (.iaload, 1) := by decide +kernel
theorem dL_law_1078 : decode cL_law 1078 = .ok (.invokevirtual 116, 3) := by decide +kernel
theorem dL_law_1081 : decode cL_law 1081 = .ok (.pop, 1) := by decide +kernel
theorem dL_law_1082 : decode cL_law 1082 = .ok (.goto 637, 3) := by decide +kernel
theorem dL_law_1085 : decode cL_law 1085 = .ok (.aload_n 1, 1) := by decide +kernel
theorem dL_law_1086 : decode cL_law 1086 = .ok (.aload_n 0, 1) := by decide +kernel
theorem dL_law_1087 : decode cL_law 1087 = .ok (.iload_n 3, 1) := by decide +kernel
theorem dL_law_1088 : decode cL_law 1088 = .ok (.iconst 1, 1) := by decide +kernel
theorem dL_law_1089 : decode cL_law 1089 = .ok (.iadd, 1) := by decide +kernel
theorem dL_law_1090 : decode cL_law 1090 = .ok (.iaload, 1) := by decide +kernel
theorem dL_law_1091 : decode cL_law 1091 = .ok (.aload_n 0, 1) := by decide +kernel
theorem dL_law_1092 : decode cL_law 1092 = .ok (.iload_n 3, 1) := by decide +kernel
theorem dL_law_1093 : decode cL_law 1093 = .ok (.iconst 2, 1) := by decide +kernel
theorem dL_law_1094 : decode cL_law 1094 = .ok (.iadd, 1) := by decide +kernel
theorem dL_law_1095 : decode cL_law 1095 = .ok (.iaload, 1) := by decide +kernel
theorem dL_law_1096 : decode cL_law 1096 = .ok (.aload_n 0, 1) := by decide +kernel
theorem dL_law_1097 : decode cL_law 1097 = .ok (.iload_n 3, 1) := by decide +kernel
theorem dL_law_1098 : decode cL_law 1098 = .ok (.iconst 3, 1) := by decide +kernel
theorem dL_law_1099 : decode cL_law 1099 = .ok (.iadd, 1) := by decide +kernel
theorem dL_law_1100 : decode cL_law 1100 = .ok (.iaload, 1) := by decide +kernel
theorem dL_law_1101 : decode cL_law 1101 = .ok (.invokevirtual 117, 3) := by decide +kernel
theorem dL_law_1104 : decode cL_law 1104 = .ok (.pop, 1) := by decide +kernel
theorem dL_law_1105 : decode cL_law 1105 = .ok (.aload_n 2, 1) := by decide +kernel
theorem dL_law_1106 : decode cL_law 1106 = .ok (.aload_n 0, 1) := by decide +kernel
theorem dL_law_1107 : decode cL_law 1107 = .ok (.iload_n 3, 1) := by decide +kernel
theorem dL_law_1108 : decode cL_law 1108 = .ok (.iconst 1, 1) := by decide +kernel
theorem dL_law_1109 : decode cL_law 1109 = .ok (.iadd, 1) := by decide +kernel
theorem dL_law_1110 : decode cL_law 1110 = .ok (.iaload, 1) := by decide +kernel
theorem dL_law_1111 : decode cL_law 1111 = .ok (.aload_n 0, 1) := by decide +kernel
theorem dL_law_1112 : decode cL_law 1112 = .ok (.iload_n 3, 1) := by decide +kernel
theorem dL_law_1113 : decode cL_law 1113 = .ok (.iconst 2, 1) := by decide +kernel
theorem dL_law_1114 : decode cL_law 1114 = .ok (.iadd, 1) := by decide +kernel
theorem dL_law_1115 : decode cL_law 1115 = .ok (.iaload, 1) := by decide +kernel
theorem dL_law_1116 : decode cL_law 1116 = .ok (.aload_n 0, 1) := by decide +kernel
theorem dL_law_1117 : decode cL_law 1117 = .ok (.iload_n 3, 1) := by decide +kernel
theorem dL_law_1118 : decode cL_law 1118 = .ok (.iconst 3, 1) := by decide +kernel
theorem dL_law_1119 : decode cL_law 1119 = .ok (.iadd, 1) := by decide +kernel
theorem dL_law_1120 : decode cL_law 1120 = .ok (.iaload, 1) := by decide +kernel
theorem dL_law_1121 : decode cL_law 1121 = .ok (.invokevirtual 120, 3) := by decide +kernel
theorem dL_law_1124 : decode cL_law 1124 = .ok (.pop, 1) := by decide +kernel
theorem dL_law_1125 : decode cL_law 1125 = .ok (.goto 594, 3) := by decide +kernel
theorem dL_law_1128 : decode cL_law 1128 = .ok (.aload_n 1, 1) := by decide +kernel
theorem dL_law_1129 : decode cL_law 1129 = .ok (.aload_n 0, 1) := by decide +kernel
theorem dL_law_1130 : decode cL_law 1130 = .ok (.iload_n 3, 1) := by decide +kernel
theorem dL_law_1131 : decode cL_law 1131 = .ok (.iconst 1, 1) := by decide +kernel
theorem dL_law_1132 : decode cL_law 1132 = .ok (.iadd, 1) := by decide +kernel
theorem dL_law_1133 : decode cL_law 1133 = .ok (.iaload, 1) := by decide +kernel
theorem dL_law_1134 : decode cL_law 1134 = .ok (.aload_n 0, 1) := by decide +kernel
theorem dL_law_1135 : decode cL_law 1135 = .ok (.iload_n 3, 1) := by decide +kernel
theorem dL_law_1136 : decode cL_law 1136 = .ok (.iconst 2, 1) := by decide +kernel
theorem dL_law_1137 : decode cL_law 1137 = .ok (.iadd, 1) := by decide +kernel
theorem dL_law_1138 : decode cL_law 1138 = .ok (.iaload, 1) := by decide +kernel
theorem dL_law_1139 : decode cL_law 1139 = .ok (.invokevirtual 121, 3) := by decide +kernel
theorem dL_law_1142 : decode cL_law 1142 = .ok (.pop, 1) := by decide +kernel
theorem dL_law_1143 : decode cL_law 1143 = .ok (.aload_n 2, 1) := by decide +kernel
theorem dL_law_1144 : decode cL_law 1144 = .ok (.aload_n 0, 1) := by decide +kernel
theorem dL_law_1145 : decode cL_law 1145 = .ok (.iload_n 3, 1) := by decide +kernel
theorem dL_law_1146 : decode cL_law 1146 = .ok (.iconst 1, 1) := by decide +kernel
theorem dL_law_1147 : decode cL_law 1147 = .ok (.iadd, 1) := by decide +kernel
theorem dL_law_1148 : decode cL_law 1148 = .ok (.iaload, 1) := by decide +kernel
theorem dL_law_1149 : decode cL_law 1149 = .ok (.aload_n 0, 1) := by decide +kernel
theorem dL_law_1150 : decode cL_law 1150 = .ok (.iload_n 3, 1) := by decide +kernel
theorem dL_law_1151 : decode cL_law 1151 = .ok (.iconst 2, 1) := by decide +kernel
theorem dL_law_1152 : decode cL_law 1152 = .ok (.iadd, 1) := by decide +kernel
theorem dL_law_1153 : decode cL_law 1153 = .ok (.iaload, 1) := by decide +kernel
theorem dL_law_1154 : decode cL_law 1154 = .ok (.invokevirtual 124, 3) := by decide +kernel
theorem dL_law_1157 : decode cL_law 1157 = .ok (.pop, 1) := by decide +kernel
theorem dL_law_1158 : decode cL_law 1158 = .ok (.goto 561, 3) := by decide +kernel
theorem dL_law_1161 : decode cL_law 1161 = .ok (.aload_n 1, 1) := by decide +kernel
theorem dL_law_1162 : decode cL_law 1162 = .ok (.aload_n 0, 1) := by decide +kernel
theorem dL_law_1163 : decode cL_law 1163 = .ok (.iload_n 3, 1) := by decide +kernel
theorem dL_law_1164 : decode cL_law 1164 = .ok (.iconst 1, 1) := by decide +kernel
theorem dL_law_1165 : decode cL_law 1165 = .ok (.iadd, 1) := by decide +kernel
theorem dL_law_1166 : decode cL_law 1166 = .ok (.iaload, 1) := by decide +kernel
theorem dL_law_1167 : decode cL_law 1167 = .ok (.aload_n 0, 1) := by decide +kernel
theorem dL_law_1168 : decode cL_law 1168 = .ok (.iload_n 3, 1) := by decide +kernel
theorem dL_law_1169 : decode cL_law 1169 = .ok (.iconst 2, 1) := by decide +kernel
theorem dL_law_1170 : decode cL_law 1170 = .ok (.iadd, 1) := by decide +kernel
theorem dL_law_1171 : decode cL_law 1171 = .ok (.iaload, 1) := by decide +kernel
theorem dL_law_1172 : decode cL_law 1172 = .ok (.aload_n 0, 1) := by decide +kernel
theorem dL_law_1173 : decode cL_law 1173 = .ok (.iload_n 3, 1) := by decide +kernel
theorem dL_law_1174 : decode cL_law 1174 = .ok (.iconst 3, 1) := by decide +kernel
theorem dL_law_1175 : decode cL_law 1175 = .ok (.iadd, 1) := by decide +kernel
theorem dL_law_1176 : decode cL_law 1176 = .ok (.iaload, 1) := by decide +kernel
theorem dL_law_1177 : decode cL_law 1177 = .ok (.aload_n 0, 1) := by decide +kernel
theorem dL_law_1178 : decode cL_law 1178 = .ok (.iload_n 3, 1) := by decide +kernel
theorem dL_law_1179 : decode cL_law 1179 = .ok (.iconst 4, 1) := by decide +kernel
theorem dL_law_1180 : decode cL_law 1180 = .ok (.iadd, 1) := by decide +kernel
theorem dL_law_1181 : decode cL_law 1181 = .ok (.iaload, 1) := by decide +kernel
theorem dL_law_1182 : decode cL_law 1182 = .ok (.invokevirtual 125, 3) := by decide +kernel
theorem dL_law_1185 : decode cL_law 1185 = .ok (.pop, 1) := by decide +kernel
theorem dL_law_1186 : decode cL_law 1186 = .ok (.aload_n 2, 1) := by decide +kernel
theorem dL_law_1187 : decode cL_law 1187 = .ok (.aload_n 0, 1) := by decide +kernel
theorem dL_law_1188 : decode cL_law 1188 = .ok (.iload_n 3, 1) := by decide +kernel
theorem dL_law_1189 : decode cL_law 1189 = .ok (.iconst 1, 1) := by decide +kernel
theorem dL_law_1190 : decode cL_law 1190 = .ok (.iadd, 1) := by decide +kernel
theorem dL_law_1191 : decode cL_law 1191 = .ok (.iaload, 1) := by decide +kernel
theorem dL_law_1192 : decode cL_law 1192 = .ok (.aload_n 0, 1) := by decide +kernel
theorem dL_law_1193 : decode cL_law 1193 = .ok (.iload_n 3, 1) := by decide +kernel
theorem dL_law_1194 : decode cL_law 1194 = .ok (.iconst 2, 1) := by decide +kernel
theorem dL_law_1195 : decode cL_law 1195 = .ok (.iadd, 1) := by decide +kernel
theorem dL_law_1196 : decode cL_law 1196 = .ok (.iaload, 1) := by decide +kernel
theorem dL_law_1197 : decode cL_law 1197 = .ok (.aload_n 0, 1) := by decide +kernel
theorem dL_law_1198 : decode cL_law 1198 = .ok (.iload_n 3, 1) := by decide +kernel
theorem dL_law_1199 : decode cL_law 1199 = .ok (.iconst 3, 1) := by decide +kernel
theorem dL_law_1200 : decode cL_law 1200 = .ok (.iadd, 1) := by decide +kernel
theorem dL_law_1201 : decode cL_law 1201 = .ok (.iaload, 1) := by decide +kernel
theorem dL_law_1202 : decode cL_law 1202 = .ok (.aload_n 0, 1) := by decide +kernel
theorem dL_law_1203 : decode cL_law 1203 = .ok (.iload_n 3, 1) := by decide +kernel
theorem dL_law_1204 : decode cL_law 1204 = .ok (.iconst 4, 1) := by decide +kernel
theorem dL_law_1205 : decode cL_law 1205 = .ok (.iadd, 1) := by decide +kernel
theorem dL_law_1206 : decode cL_law 1206 = .ok (.iaload, 1) := by decide +kernel
theorem dL_law_1207 : decode cL_law 1207 = .ok (.invokevirtual 129, 3) := by decide +kernel
theorem dL_law_1210 : decode cL_law 1210 = .ok (.pop, 1) := by decide +kernel
theorem dL_law_1211 : decode cL_law 1211 = .ok (.goto 508, 3) := by decide +kernel
theorem dL_law_1214 : decode cL_law 1214 = .ok (.aload_n 1, 1) := by decide +kernel
theorem dL_law_1215 : decode cL_law 1215 = .ok (.aload_n 0, 1) := by decide +kernel
theorem dL_law_1216 : decode cL_law 1216 = .ok (.iload_n 3, 1) := by decide +kernel
theorem dL_law_1217 : decode cL_law 1217 = .ok (.iconst 1, 1) := by decide +kernel
theorem dL_law_1218 : decode cL_law 1218 = .ok (.iadd, 1) := by decide +kernel
theorem dL_law_1219 : decode cL_law 1219 = .ok (.iaload, 1) := by decide +kernel
theorem dL_law_1220 : decode cL_law 1220 = .ok (.aload_n 0, 1) := by decide +kernel
theorem dL_law_1221 : decode cL_law 1221 = .ok (.iload_n 3, 1) := by decide +kernel
theorem dL_law_1222 : decode cL_law 1222 = .ok (.iconst 2, 1) := by decide +kernel
theorem dL_law_1223 : decode cL_law 1223 = .ok (.iadd, 1) := by decide +kernel
theorem dL_law_1224 : decode cL_law 1224 = .ok (.iaload, 1) := by decide +kernel
theorem dL_law_1225 : decode cL_law 1225 = .ok (.aload_n 0, 1) := by decide +kernel
theorem dL_law_1226 : decode cL_law 1226 = .ok (.iload_n 3, 1) := by decide +kernel
theorem dL_law_1227 : decode cL_law 1227 = .ok (.iconst 3, 1) := by decide +kernel
theorem dL_law_1228 : decode cL_law 1228 = .ok (.iadd, 1) := by decide +kernel
theorem dL_law_1229 : decode cL_law 1229 = .ok (.iaload, 1) := by decide +kernel
theorem dL_law_1230 : decode cL_law 1230 = .ok (.invokevirtual 130, 3) := by decide +kernel
theorem dL_law_1233 : decode cL_law 1233 = .ok (.pop, 1) := by decide +kernel
theorem dL_law_1234 : decode cL_law 1234 = .ok (.aload_n 2, 1) := by decide +kernel
theorem dL_law_1235 : decode cL_law 1235 = .ok (.aload_n 0, 1) := by decide +kernel
theorem dL_law_1236 : decode cL_law 1236 = .ok (.iload_n 3, 1) := by decide +kernel
theorem dL_law_1237 : decode cL_law 1237 = .ok (.iconst 1, 1) := by decide +kernel
theorem dL_law_1238 : decode cL_law 1238 = .ok (.iadd, 1) := by decide +kernel
theorem dL_law_1239 : decode cL_law 1239 = .ok (.iaload, 1) := by decide +kernel
theorem dL_law_1240 : decode cL_law 1240 = .ok (.aload_n 0, 1) := by decide +kernel
theorem dL_law_1241 : decode cL_law 1241 = .ok (.iload_n 3, 1) := by decide +kernel
theorem dL_law_1242 : decode cL_law 1242 = .ok (.iconst 2, 1) := by decide +kernel
theorem dL_law_1243 : decode cL_law 1243 = .ok (.iadd, 1) := by decide +kernel
theorem dL_law_1244 : decode cL_law 1244 = .ok (.iaload, 1) := by decide +kernel
theorem dL_law_1245 : decode cL_law 1245 = .ok (.aload_n 0, 1) := by decide +kernel
theorem dL_law_1246 : decode cL_law 1246 = .ok (.iload_n 3, 1) := by decide +kernel
theorem dL_law_1247 : decode cL_law 1247 = .ok (.iconst 3, 1) := by decide +kernel
theorem dL_law_1248 : decode cL_law 1248 = .ok (.iadd, 1) := by decide +kernel
theorem dL_law_1249 : decode cL_law 1249 = .ok (.iaload, 1) := by decide +kernel
theorem dL_law_1250 : decode cL_law 1250 = .ok (.invokevirtual 133, 3) := by decide +kernel
theorem dL_law_1253 : decode cL_law 1253 = .ok (.pop, 1) := by decide +kernel
theorem dL_law_1254 : decode cL_law 1254 = .ok (.goto 465, 3) := by decide +kernel
theorem dL_law_1257 : decode cL_law 1257 = .ok (.aload_n 1, 1) := by decide +kernel
theorem dL_law_1258 : decode cL_law 1258 = .ok (.aload_n 0, 1) := by decide +kernel
theorem dL_law_1259 : decode cL_law 1259 = .ok (.iload_n 3, 1) := by decide +kernel
theorem dL_law_1260 : decode cL_law 1260 = .ok (.iconst 1, 1) := by decide +kernel
theorem dL_law_1261 : decode cL_law 1261 = .ok (.iadd, 1) := by decide +kernel
theorem dL_law_1262 : decode cL_law 1262 = .ok (.iaload, 1) := by decide +kernel
theorem dL_law_1263 : decode cL_law 1263 = .ok (.aload_n 0, 1) := by decide +kernel
theorem dL_law_1264 : decode cL_law 1264 = .ok (.iload_n 3, 1) := by decide +kernel
theorem dL_law_1265 : decode cL_law 1265 = .ok (.iconst 2, 1) := by decide +kernel
theorem dL_law_1266 : decode cL_law 1266 = .ok (.iadd, 1) := by decide +kernel
theorem dL_law_1267 : decode cL_law 1267 = .ok (.iaload, 1) := by decide +kernel
theorem dL_law_1268 : decode cL_law 1268 = .ok (.aload_n 0, 1) := by decide +kernel
theorem dL_law_1269 : decode cL_law 1269 = .ok (.iload_n 3, 1) := by decide +kernel
theorem dL_law_1270 : decode cL_law 1270 = .ok (.iconst 3, 1) := by decide +kernel
theorem dL_law_1271 : decode cL_law 1271 = .ok (.iadd, 1) := by decide +kernel
theorem dL_law_1272 : decode cL_law 1272 = .ok (.iaload, 1) := by decide +kernel
theorem dL_law_1273 : decode cL_law 1273 = .ok (.invokevirtual 134, 3) := by decide +kernel
theorem dL_law_1276 : decode cL_law 1276 = .ok (.pop, 1) := by decide +kernel
theorem dL_law_1277 : decode cL_law 1277 = .ok (.aload_n 2, 1) := by decide +kernel
theorem dL_law_1278 : decode cL_law 1278 = .ok (.aload_n 0, 1) := by decide +kernel
theorem dL_law_1279 : decode cL_law 1279 = .ok (.iload_n 3, 1) := by decide +kernel
theorem dL_law_1280 : decode cL_law 1280 = .ok (.iconst 1, 1) := by decide +kernel
theorem dL_law_1281 : decode cL_law 1281 = .ok (.iadd, 1) := by decide +kernel
theorem dL_law_1282 : decode cL_law 1282 = .ok (.iaload, 1) := by decide +kernel
theorem dL_law_1283 : decode cL_law 1283 = .ok (.aload_n 0, 1) := by decide +kernel
theorem dL_law_1284 : decode cL_law 1284 = .ok (.iload_n 3, 1) := by decide +kernel
theorem dL_law_1285 : decode cL_law 1285 = .ok (.iconst 2, 1) := by decide +kernel
theorem dL_law_1286 : decode cL_law 1286 = .ok (.iadd, 1) := by decide +kernel
theorem dL_law_1287 : decode cL_law 1287 = .ok (.iaload, 1) := by decide +kernel
theorem dL_law_1288 : decode cL_law 1288 = .ok (.aload_n 0, 1) := by decide +kernel
theorem dL_law_1289 : decode cL_law 1289 = .ok (.iload_n 3, 1) := by decide +kernel
theorem dL_law_1290 : decode cL_law 1290 = .ok (.iconst 3, 1) := by decide +kernel
theorem dL_law_1291 : decode cL_law 1291 = .ok (.iadd, 1) := by decide +kernel
theorem dL_law_1292 : decode cL_law 1292 = .ok (.iaload, 1) := by decide +kernel
theorem dL_law_1293 : decode cL_law 1293 = .ok (.invokevirtual 137, 3) := by decide +kernel
theorem dL_law_1296 : decode cL_law 1296 = .ok (.pop, 1) := by decide +kernel
theorem dL_law_1297 : decode cL_law 1297 = .ok (.goto 422, 3) := by decide +kernel
theorem dL_law_1300 : decode cL_law 1300 = .ok (.aload_n 1, 1) := by decide +kernel
theorem dL_law_1301 : decode cL_law 1301 = .ok (.aload_n 0, 1) := by decide +kernel
theorem dL_law_1302 : decode cL_law 1302 = .ok (.iload_n 3, 1) := by decide +kernel
theorem dL_law_1303 : decode cL_law 1303 = .ok (.iconst 1, 1) := by decide +kernel
theorem dL_law_1304 : decode cL_law 1304 = .ok (.iadd, 1) := by decide +kernel
theorem dL_law_1305 : decode cL_law 1305 = .ok (.iaload, 1) := by decide +kernel
theorem dL_law_1306 : decode cL_law 1306 = .ok (.invokevirtual 138, 3) := by decide +kernel
theorem dL_law_1309 : decode cL_law 1309 = .ok (.pop, 1) := by decide +kernel
theorem dL_law_1310 : decode cL_law 1310 = .ok (.aload_n 2, 1) := by decide +kernel
theorem dL_law_1311 : decode cL_law 1311 = .ok (.aload_n 0, 1) := by decide +kernel
theorem dL_law_1312 : decode cL_law 1312 = .ok (.iload_n 3, 1) := by decide +kernel
theorem dL_law_1313 : decode cL_law 1313 = .ok (.iconst 1, 1) := by decide +kernel
theorem dL_law_1314 : decode cL_law 1314 = .ok (.iadd, 1) := by decide +kernel
theorem dL_law_1315 : decode cL_law 1315 = .ok (.iaload, 1) := by decide +kernel
theorem dL_law_1316 : decode cL_law 1316 = .ok (.invokevirtual 141, 3) := by decide +kernel
theorem dL_law_1319 : decode cL_law 1319 = .ok (.pop, 1) := by decide +kernel
theorem dL_law_1320 : decode cL_law 1320 = .ok (.goto 399, 3) := by decide +kernel
theorem dL_law_1323 : decode cL_law 1323 = .ok (.aload_n 1, 1) := by decide +kernel
theorem dL_law_1324 : decode cL_law 1324 = .ok (.aload_n 0, 1) := by decide +kernel
theorem dL_law_1325 : decode cL_law 1325 = .ok (.iload_n 3, 1) := by decide +kernel
theorem dL_law_1326 : decode cL_law 1326 = .ok (.iconst 1, 1) := by decide +kernel
theorem dL_law_1327 : decode cL_law 1327 = .ok (.iadd, 1) := by decide +kernel
theorem dL_law_1328 : decode cL_law 1328 = .ok (.iaload, 1) := by decide +kernel
theorem dL_law_1329 : decode cL_law 1329 = .ok (.aload_n 0, 1) := by decide +kernel
theorem dL_law_1330 : decode cL_law 1330 = .ok (.iload_n 3, 1) := by decide +kernel
theorem dL_law_1331 : decode cL_law 1331 = .ok (.iconst 2, 1) := by decide +kernel
theorem dL_law_1332 : decode cL_law 1332 = .ok (.iadd, 1) := by decide +kernel
theorem dL_law_1333 : decode cL_law 1333 = .ok (.iaload, 1) := by decide +kernel
theorem dL_law_1334 : decode cL_law 1334 = .ok (.invokevirtual 142, 3) := by decide +kernel
theorem dL_law_1337 : decode cL_law 1337 = .ok (.pop, 1) := by decide +kernel
theorem dL_law_1338 : decode cL_law 1338 = .ok (.aload_n 2, 1) := by decide +kernel
theorem dL_law_1339 : decode cL_law 1339 = .ok (.aload_n 0, 1) := by decide +kernel
theorem dL_law_1340 : decode cL_law 1340 = .ok (.iload_n 3, 1) := by decide +kernel
theorem dL_law_1341 : decode cL_law 1341 = .ok (.iconst 1, 1) := by decide +kernel
theorem dL_law_1342 : decode cL_law 1342 = .ok (.iadd, 1) := by decide +kernel
theorem dL_law_1343 : decode cL_law 1343 = .ok (.iaload, 1) := by decide +kernel
theorem dL_law_1344 : decode cL_law 1344 = .ok (.aload_n 0, 1) := by decide +kernel
theorem dL_law_1345 : decode cL_law 1345 = .ok (.iload_n 3, 1) := by decide +kernel
theorem dL_law_1346 : decode cL_law 1346 = .ok (.iconst 2, 1) := by decide +kernel
theorem dL_law_1347 : decode cL_law 1347 = .ok (.iadd, 1) := by decide +kernel
theorem dL_law_1348 : decode cL_law 1348 = .ok (.iaload, 1) := by decide +kernel
theorem dL_law_1349 : decode cL_law 1349 = .ok (.invokevirtual 145, 3) := by decide +kernel
theorem dL_law_1352 : decode cL_law 1352 = .ok (.pop, 1) := by decide +kernel
theorem dL_law_1353 : decode cL_law 1353 = .ok (.goto 366, 3) := by decide +kernel
theorem dL_law_1356 : decode cL_law 1356 = .ok (.aload_n 1, 1) := by decide +kernel
theorem dL_law_1357 : decode cL_law 1357 = .ok (.aload_n 0, 1) := by decide +kernel
theorem dL_law_1358 : decode cL_law 1358 = .ok (.iload_n 3, 1) := by decide +kernel
theorem dL_law_1359 : decode cL_law 1359 = .ok (.iconst 1, 1) := by decide +kernel
theorem dL_law_1360 : decode cL_law 1360 = .ok (.iadd, 1) := by decide +kernel
theorem dL_law_1361 : decode cL_law 1361 = .ok (.iaload, 1) := by decide +kernel
theorem dL_law_1362 : decode cL_law 1362 = .ok (.aload_n 0, 1) := by decide +kernel
theorem dL_law_1363 : decode cL_law 1363 = .ok (.iload_n 3, 1) := by decide +kernel
theorem dL_law_1364 : decode cL_law 1364 = .ok (.iconst 2, 1) := by decide +kernel
theorem dL_law_1365 : decode cL_law 1365 = .ok (.iadd, 1) := by decide +kernel
theorem dL_law_1366 : decode cL_law 1366 = .ok (.iaload, 1) := by decide +kernel
theorem dL_law_1367 : decode cL_law 1367 = .ok (.invokevirtual 146, 3) := by decide +kernel
theorem dL_law_1370 : decode cL_law 1370 = .ok (.pop, 1) := by decide +kernel
theorem dL_law_1371 : decode cL_law 1371 = .ok (.aload_n 2, 1) := by decide +kernel
theorem dL_law_1372 : decode cL_law 1372 = .ok (.aload_n 0, 1) := by decide +kernel
theorem dL_law_1373 : decode cL_law 1373 = .ok (.iload_n 3, 1) := by decide +kernel
theorem dL_law_1374 : decode cL_law 1374 = .ok (.iconst 1, 1) := by decide +kernel
theorem dL_law_1375 : decode cL_law 1375 = .ok (.iadd, 1) := by decide +kernel
theorem dL_law_1376 : decode cL_law 1376 = .ok (.iaload, 1) := by decide +kernel
theorem dL_law_1377 : decode cL_law 1377 = .ok (.aload_n 0, 1) := by decide +kernel
theorem dL_law_1378 : decode cL_law 1378 = .ok (.iload_n 3, 1) := by decide +kernel
theorem dL_law_1379 : decode cL_law 1379 = .ok (.iconst 2, 1) := by decide +kernel
theorem dL_law_1380 : decode cL_law 1380 = .ok (.iadd, 1) := by decide +kernel
theorem dL_law_1381 : decode cL_law 1381 = .ok (.iaload, 1) := by decide +kernel
theorem dL_law_1382 : decode cL_law 1382 = .ok (.invokevirtual 149, 3) := by decide +kernel
theorem dL_law_1385 : decode cL_law 1385 = .ok (.pop, 1) := by decide +kernel
theorem dL_law_1386 : decode cL_law 1386 = .ok (.goto 333, 3) := by decide +kernel
theorem dL_law_1389 : decode cL_law 1389 = .ok (.aload_n 1, 1) := by decide +kernel
theorem dL_law_1390 : decode cL_law 1390 = .ok (.aload_n 0, 1) := by decide +kernel
theorem dL_law_1391 : decode cL_law 1391 = .ok (.iload_n 3, 1) := by decide +kernel
theorem dL_law_1392 : decode cL_law 1392 = .ok (.iconst 1, 1) := by decide +kernel
theorem dL_law_1393 : decode cL_law 1393 = .ok (.iadd, 1) := by decide +kernel
theorem dL_law_1394 : decode cL_law 1394 = .ok (.iaload, 1) := by decide +kernel
theorem dL_law_1395 : decode cL_law 1395 = .ok (.aload_n 0, 1) := by decide +kernel
theorem dL_law_1396 : decode cL_law 1396 = .ok (.iload_n 3, 1) := by decide +kernel
theorem dL_law_1397 : decode cL_law 1397 = .ok (.iconst 2, 1) := by decide +kernel
theorem dL_law_1398 : decode cL_law 1398 = .ok (.iadd, 1) := by decide +kernel
theorem dL_law_1399 : decode cL_law 1399 = .ok (.iaload, 1) := by decide +kernel
theorem dL_law_1400 : decode cL_law 1400 = .ok (.invokevirtual 150, 3) := by decide +kernel
theorem dL_law_1403 : decode cL_law 1403 = .ok (.pop, 1) := by decide +kernel
theorem dL_law_1404 : decode cL_law 1404 = .ok (.aload_n 2, 1) := by decide +kernel
theorem dL_law_1405 : decode cL_law 1405 = .ok (.aload_n 0, 1) := by decide +kernel
theorem dL_law_1406 : decode cL_law 1406 = .ok (.iload_n 3, 1) := by decide +kernel
theorem dL_law_1407 : decode cL_law 1407 = .ok (.iconst 1, 1) := by decide +kernel
theorem dL_law_1408 : decode cL_law 1408 = .ok (.iadd, 1) := by decide +kernel
theorem dL_law_1409 : decode cL_law 1409 = .ok (.iaload, 1) := by decide +kernel
theorem dL_law_1410 : decode cL_law 1410 = .ok (.aload_n 0, 1) := by decide +kernel
theorem dL_law_1411 : decode cL_law 1411 = .ok (.iload_n 3, 1) := by decide +kernel
theorem dL_law_1412 : decode cL_law 1412 = .ok (.iconst 2, 1) := by decide +kernel
theorem dL_law_1413 : decode cL_law 1413 = .ok (.iadd, 1) := by decide +kernel
theorem dL_law_1414 : decode cL_law 1414 = .ok (.iaload, 1) := by decide +kernel
theorem dL_law_1415 : decode cL_law 1415 = .ok (.invokevirtual 153, 3) := by decide +kernel
theorem dL_law_1418 : decode cL_law 1418 = .ok (.pop, 1) := by decide +kernel
theorem dL_law_1419 : decode cL_law 1419 = .ok (.goto 300, 3) := by decide +kernel
theorem dL_law_1422 : decode cL_law 1422 = .ok (.aload_n 1, 1) := by decide +kernel
theorem dL_law_1423 : decode cL_law 1423 = .ok (.aload_n 0, 1) := by decide +kernel
theorem dL_law_1424 : decode cL_law 1424 = .ok (.iload_n 3, 1) := by decide +kernel
theorem dL_law_1425 : decode cL_law 1425 = .ok (.iconst 1, 1) := by decide +kernel
theorem dL_law_1426 : decode cL_law 1426 = .ok (.iadd, 1) := by decide +kernel
theorem dL_law_1427 : decode cL_law 1427 = .ok (.iaload, 1) := by decide +kernel
theorem dL_law_1428 : decode cL_law 1428 = .ok (.aload_n 0, 1) := by decide +kernel
theorem dL_law_1429 : decode cL_law 1429 = .ok (.iload_n 3, 1) := by decide +kernel
theorem dL_law_1430 : decode cL_law 1430 = .ok (.iconst 2, 1) := by decide +kernel
theorem dL_law_1431 : decode cL_law 1431 = .ok (.iadd, 1) := by decide +kernel
theorem dL_law_1432 : decode cL_law 1432 = .ok (.iaload, 1) := by decide +kernel
theorem dL_law_1433 : decode cL_law 1433 = .ok (.invokevirtual 154, 3) := by decide +kernel
theorem dL_law_1436 : decode cL_law 1436 = .ok (.pop, 1) := by decide +kernel
theorem dL_law_1437 : decode cL_law 1437 = .ok (.aload_n 2, 1) := by decide +kernel
theorem dL_law_1438 : decode cL_law 1438 = .ok (.aload_n 0, 1) := by decide +kernel
theorem dL_law_1439 : decode cL_law 1439 = .ok (.iload_n 3, 1) := by decide +kernel
theorem dL_law_1440 : decode cL_law 1440 = .ok (.iconst 1, 1) := by decide +kernel
theorem dL_law_1441 : decode cL_law 1441 = .ok (.iadd, 1) := by decide +kernel
theorem dL_law_1442 : decode cL_law 1442 = .ok (.iaload, 1) := by decide +kernel
theorem dL_law_1443 : decode cL_law 1443 = .ok (.aload_n 0, 1) := by decide +kernel
theorem dL_law_1444 : decode cL_law 1444 = .ok (.iload_n 3, 1) := by decide +kernel
theorem dL_law_1445 : decode cL_law 1445 = .ok (.iconst 2, 1) := by decide +kernel
theorem dL_law_1446 : decode cL_law 1446 = .ok (.iadd, 1) := by decide +kernel
theorem dL_law_1447 : decode cL_law 1447 = .ok (.iaload, 1) := by decide +kernel
theorem dL_law_1448 : decode cL_law 1448 = .ok (.invokevirtual 157, 3) := by decide +kernel
theorem dL_law_1451 : decode cL_law 1451 = .ok (.pop, 1) := by decide +kernel
theorem dL_law_1452 : decode cL_law 1452 = .ok (.goto 267, 3) := by decide +kernel
theorem dL_law_1455 : decode cL_law 1455 = .ok (.aload_n 1, 1) := by decide +kernel
theorem dL_law_1456 : decode cL_law 1456 = .ok (.aload_n 0, 1) := by decide +kernel
theorem dL_law_1457 : decode cL_law 1457 = .ok (.iload_n 3, 1) := by decide +kernel
theorem dL_law_1458 : decode cL_law 1458 = .ok (.iconst 1, 1) := by decide +kernel
theorem dL_law_1459 : decode cL_law 1459 = .ok (.iadd, 1) := by decide +kernel
theorem dL_law_1460 : decode cL_law 1460 = .ok (.iaload, 1) := by decide +kernel
theorem dL_law_1461 : decode cL_law 1461 = .ok (.aload_n 0, 1) := by decide +kernel
theorem dL_law_1462 : decode cL_law 1462 = .ok (.iload_n 3, 1) := by decide +kernel
theorem dL_law_1463 : decode cL_law 1463 = .ok (.iconst 2, 1) := by decide +kernel
theorem dL_law_1464 : decode cL_law 1464 = .ok (.iadd, 1) := by decide +kernel
theorem dL_law_1465 : decode cL_law 1465 = .ok (.iaload, 1) := by decide +kernel
theorem dL_law_1466 : decode cL_law 1466 = .ok (.invokevirtual 158, 3) := by decide +kernel
theorem dL_law_1469 : decode cL_law 1469 = .ok (.pop, 1) := by decide +kernel
theorem dL_law_1470 : decode cL_law 1470 = .ok (.aload_n 2, 1) := by decide +kernel
theorem dL_law_1471 : decode cL_law 1471 = .ok (.aload_n 0, 1) := by decide +kernel
theorem dL_law_1472 : decode cL_law 1472 = .ok (.iload_n 3, 1) := by decide +kernel
theorem dL_law_1473 : decode cL_law 1473 = .ok (.iconst 1, 1) := by decide +kernel
theorem dL_law_1474 : decode cL_law 1474 = .ok (.iadd, 1) := by decide +kernel
theorem dL_law_1475 : decode cL_law 1475 = .ok (.iaload, 1) := by decide +kernel
theorem dL_law_1476 : decode cL_law 1476 = .ok (.aload_n 0, 1) := by decide +kernel
theorem dL_law_1477 : decode cL_law 1477 = .ok (.iload_n 3, 1) := by decide +kernel
theorem dL_law_1478 : decode cL_law 1478 = .ok (.iconst 2, 1) := by decide +kernel
theorem dL_law_1479 : decode cL_law 1479 = .ok (.iadd, 1) := by decide +kernel
theorem dL_law_1480 : decode cL_law 1480 = .ok (.iaload, 1) := by decide +kernel
theorem dL_law_1481 : decode cL_law 1481 = .ok (.invokevirtual 161, 3) := by decide +kernel
theorem dL_law_1484 : decode cL_law 1484 = .ok (.pop, 1) := by decide +kernel
theorem dL_law_1485 : decode cL_law 1485 = .ok (.goto 234, 3) := by decide +kernel
theorem dL_law_1488 : decode cL_law 1488 = .ok (.aload_n 1, 1) := by decide +kernel
theorem dL_law_1489 : decode cL_law 1489 = .ok (.aload_n 0, 1) := by decide +kernel
theorem dL_law_1490 : decode cL_law 1490 = .ok (.iload_n 3, 1) := by decide +kernel
theorem dL_law_1491 : decode cL_law 1491 = .ok (.iconst 1, 1) := by decide +kernel
theorem dL_law_1492 : decode cL_law 1492 = .ok (.iadd, 1) := by decide +kernel
theorem dL_law_1493 : decode cL_law 1493 = .ok (.iaload, 1) := by decide +kernel
theorem dL_law_1494 : decode cL_law 1494 = .ok (.aload_n 0, 1) := by decide +kernel
theorem dL_law_1495 : decode cL_law 1495 = .ok (.iload_n 3, 1) := by decide +kernel
theorem dL_law_1496 : decode cL_law 1496 = .ok (.iconst 2, 1) := by decide +kernel
theorem dL_law_1497 : decode cL_law 1497 = .ok (.iadd, 1) := by decide +kernel
theorem dL_law_1498 : decode cL_law 1498 = .ok (.iaload, 1) := by decide +kernel
theorem dL_law_1499 : decode cL_law 1499 = .ok (.aload_n 0, 1) := by decide +kernel
theorem dL_law_1500 : decode cL_law 1500 = .ok (.iload_n 3, 1) := by decide +kernel
theorem dL_law_1501 : decode cL_law 1501 = .ok (.iconst 3, 1) := by decide +kernel
theorem dL_law_1502 : decode cL_law 1502 = .ok (.iadd, 1) := by decide +kernel
theorem dL_law_1503 : decode cL_law 1503 = .ok (.iaload, 1) := by decide +kernel
theorem dL_law_1504 : decode cL_law 1504 = .ok (.aload_n 0, 1) := by decide +kernel
theorem dL_law_1505 : decode cL_law 1505 = .ok (.iload_n 3, 1) := by decide +kernel
theorem dL_law_1506 : decode cL_law 1506 = .ok (.iconst 4, 1) := by decide +kernel
theorem dL_law_1507 : decode cL_law 1507 = .ok (.iadd, 1) := by decide +kernel
theorem dL_law_1508 : decode cL_law 1508 = .ok (.iaload, 1) := by decide +kernel
theorem dL_law_1509 : decode cL_law 1509 = .ok (.invokevirtual 162, 3) := by decide +kernel
theorem dL_law_1512 : decode cL_law 1512 = .ok (.pop, 1) := by decide +kernel
theorem dL_law_1513 : decode cL_law 1513 = .ok (.aload_n 2, 1) := by decide +kernel
theorem dL_law_1514 : decode cL_law 1514 = .ok (.aload_n 0, 1) := by decide +kernel
theorem dL_law_1515 : decode cL_law 1515 = .ok (.iload_n 3, 1) := by decide +kernel
theorem dL_law_1516 : decode cL_law 1516 = .ok (.iconst 1, 1) := by decide +kernel
theorem dL_law_1517 : decode cL_law 1517 = .ok (.iadd, 1) := by decide +kernel
theorem dL_law_1518 : decode cL_law 1518 = .ok (.iaload, 1) := by decide +kernel
theorem dL_law_1519 : decode cL_law 1519 = .ok (.aload_n 0, 1) := by decide +kernel
theorem dL_law_1520 : decode cL_law 1520 = .ok (.iload_n 3, 1) := by decide +kernel
theorem dL_law_1521 : decode cL_law 1521 = .ok (.iconst 2, 1) := by decide +kernel
theorem dL_law_1522 : decode cL_law 1522 = .ok (.iadd, 1) := by decide +kernel
theorem dL_law_1523 : decode cL_law 1523 = .ok (.iaload, 1) := by decide +kernel
theorem dL_law_1524 : decode cL_law 1524 = .ok (.aload_n 0, 1) := by decide +kernel
theorem dL_law_1525 : decode cL_law 1525 = .ok (.iload_n 3, 1) := by decide +kernel
theorem dL_law_1526 : decode cL_law 1526 = .ok (.iconst 3, 1) := by decide +kernel
theorem dL_law_1527 : decode cL_law 1527 = .ok (.iadd, 1) := by decide +kernel
theorem dL_law_1528 : decode cL_law 1528 = .ok (.iaload, 1) := by decide +kernel
theorem dL_law_1529 : decode cL_law 1529 = .ok (.aload_n 0, 1) := by decide +kernel
theorem dL_law_1530 : decode cL_law 1530 = .ok (.iload_n 3, 1) := by decide +kernel
theorem dL_law_1531 : decode cL_law 1531 = .ok (.iconst 4, 1) := by decide +kernel
theorem dL_law_1532 : decode cL_law 1532 = .ok (.iadd, 1) := by decide +kernel
theorem dL_law_1533 : decode cL_law 1533 = .ok (.iaload, 1) := by decide +kernel
theorem dL_law_1534 : decode cL_law 1534 = .ok (.invokevirtual 165, 3) := by decide +kernel
theorem dL_law_1537 : decode cL_law 1537 = .ok (.pop, 1) := by decide +kernel
theorem dL_law_1538 : decode cL_law 1538 = .ok (.goto 181, 3) := by decide +kernel
theorem dL_law_1541 : decode cL_law 1541 = .ok (.aload_n 1, 1) := by decide +kernel
theorem dL_law_1542 : decode cL_law 1542 = .ok (.aload_n 0, 1) := by decide +kernel
theorem dL_law_1543 : decode cL_law 1543 = .ok (.iload_n 3, 1) := by decide +kernel
theorem dL_law_1544 : decode cL_law 1544 = .ok (.iconst 1, 1) := by decide +kernel
theorem dL_law_1545 : decode cL_law 1545 = .ok (.iadd, 1) := by decide +kernel
theorem dL_law_1546 : decode cL_law 1546 = .ok (.iaload, 1) := by decide +kernel
theorem dL_law_1547 : decode cL_law 1547 = .ok (.aload_n 0, 1) := by decide +kernel
theorem dL_law_1548 : decode cL_law 1548 = .ok (.iload_n 3, 1) := by decide +kernel
theorem dL_law_1549 : decode cL_law 1549 = .ok (.iconst 2, 1) := by decide +kernel
theorem dL_law_1550 : decode cL_law 1550 = .ok (.iadd, 1) := by decide +kernel
theorem dL_law_1551 : decode cL_law 1551 = .ok (.iaload, 1) := by decide +kernel
theorem dL_law_1552 : decode cL_law 1552 = .ok (.aload_n 0, 1) := by decide +kernel
theorem dL_law_1553 : decode cL_law 1553 = .ok (.iload_n 3, 1) := by decide +kernel
theorem dL_law_1554 : decode cL_law 1554 = .ok (.iconst 3, 1) := by decide +kernel
theorem dL_law_1555 : decode cL_law 1555 = .ok (.iadd, 1) := by decide +kernel
theorem dL_law_1556 : decode cL_law 1556 = .ok (.iaload, 1) := by decide +kernel
theorem dL_law_1557 : decode cL_law 1557 = .ok (.invokevirtual 166, 3) := by decide +kernel
theorem dL_law_1560 : decode cL_law 1560 = .ok (.pop, 1) := by decide +kernel
theorem dL_law_1561 : decode cL_law 1561 = .ok (.aload_n 2, 1) := by decide +kernel
theorem dL_law_1562 : decode cL_law 1562 = .ok (.aload_n 0, 1) := by decide +kernel
theorem dL_law_1563 : decode cL_law 1563 = .ok (.iload_n 3, 1) := by decide +kernel
theorem dL_law_1564 : decode cL_law 1564 = .ok (.iconst 1, 1) := by decide +kernel
theorem dL_law_1565 : decode cL_law 1565 = .ok (.iadd, 1) := by decide +kernel
theorem dL_law_1566 : decode cL_law 1566 = .ok (.iaload, 1) := by decide +kernel
theorem dL_law_1567 : decode cL_law 1567 = .ok (.aload_n 0, 1) := by decide +kernel
theorem dL_law_1568 : decode cL_law 1568 = .ok (.iload_n 3, 1) := by decide +kernel
theorem dL_law_1569 : decode cL_law 1569 = .ok (.iconst 2, 1) := by decide +kernel
theorem dL_law_1570 : decode cL_law 1570 = .ok (.iadd, 1) := by decide +kernel
theorem dL_law_1571 : decode cL_law 1571 = .ok (.iaload, 1) := by decide +kernel
theorem dL_law_1572 : decode cL_law 1572 = .ok (.aload_n 0, 1) := by decide +kernel
theorem dL_law_1573 : decode cL_law 1573 = .ok (.iload_n 3, 1) := by decide +kernel
theorem dL_law_1574 : decode cL_law 1574 = .ok (.iconst 3, 1) := by decide +kernel
theorem dL_law_1575 : decode cL_law 1575 = .ok (.iadd, 1) := by decide +kernel
theorem dL_law_1576 : decode cL_law 1576 = .ok (.iaload, 1) := by decide +kernel
theorem dL_law_1577 : decode cL_law 1577 = .ok (.invokevirtual 169, 3) := by decide +kernel
theorem dL_law_1580 : decode cL_law 1580 = .ok (.pop, 1) := by decide +kernel
theorem dL_law_1581 : decode cL_law 1581 = .ok (.goto 138, 3) := by decide +kernel
theorem dL_law_1584 : decode cL_law 1584 = .ok (.aload_n 1, 1) := by decide +kernel
theorem dL_law_1585 : decode cL_law 1585 = .ok (.aload_n 0, 1) := by decide +kernel
theorem dL_law_1586 : decode cL_law 1586 = .ok (.iload_n 3, 1) := by decide +kernel
theorem dL_law_1587 : decode cL_law 1587 = .ok (.iconst 1, 1) := by decide +kernel
theorem dL_law_1588 : decode cL_law 1588 = .ok (.iadd, 1) := by decide +kernel
theorem dL_law_1589 : decode cL_law 1589 = .ok (.iaload, 1) := by decide +kernel
theorem dL_law_1590 : decode cL_law 1590 = .ok (.aload_n 0, 1) := by decide +kernel
theorem dL_law_1591 : decode cL_law 1591 = .ok (.iload_n 3, 1) := by decide +kernel
theorem dL_law_1592 : decode cL_law 1592 = .ok (.iconst 2, 1) := by decide +kernel
theorem dL_law_1593 : decode cL_law 1593 = .ok (.iadd, 1) := by decide +kernel
theorem dL_law_1594 : decode cL_law 1594 = .ok (.iaload, 1) := by decide +kernel
theorem dL_law_1595 : decode cL_law 1595 = .ok (.aload_n 0, 1) := by decide +kernel
theorem dL_law_1596 : decode cL_law 1596 = .ok (.iload_n 3, 1) := by decide +kernel
theorem dL_law_1597 : decode cL_law 1597 = .ok (.iconst 3, 1) := by decide +kernel
theorem dL_law_1598 : decode cL_law 1598 = .ok (.iadd, 1) := by decide +kernel
theorem dL_law_1599 : decode cL_law 1599 = .ok (.iaload, 1) := by decide +kernel
theorem dL_law_1600 : decode cL_law 1600 = .ok (.invokevirtual 170, 3) := by decide +kernel
theorem dL_law_1603 : decode cL_law 1603 = .ok (.pop, 1) := by decide +kernel
theorem dL_law_1604 : decode cL_law 1604 = .ok (.aload_n 2, 1) := by decide +kernel
theorem dL_law_1605 : decode cL_law 1605 = .ok (.aload_n 0, 1) := by decide +kernel
theorem dL_law_1606 : decode cL_law 1606 = .ok (.iload_n 3, 1) := by decide +kernel
theorem dL_law_1607 : decode cL_law 1607 = .ok (.iconst 1, 1) := by decide +kernel
theorem dL_law_1608 : decode cL_law 1608 = .ok (.iadd, 1) := by decide +kernel
theorem dL_law_1609 : decode cL_law 1609 = .ok (.iaload, 1) := by decide +kernel
theorem dL_law_1610 : decode cL_law 1610 = .ok (.aload_n 0, 1) := by decide +kernel
theorem dL_law_1611 : decode cL_law 1611 = .ok (.iload_n 3, 1) := by decide +kernel
theorem dL_law_1612 : decode cL_law 1612 = .ok (.iconst 2, 1) := by decide +kernel
theorem dL_law_1613 : decode cL_law 1613 = .ok (.iadd, 1) := by decide +kernel
theorem dL_law_1614 : decode cL_law 1614 = .ok (.iaload, 1) := by decide +kernel
theorem dL_law_1615 : decode cL_law 1615 = .ok (.aload_n 0, 1) := by decide +kernel
theorem dL_law_1616 : decode cL_law 1616 = .ok (.iload_n 3, 1) := by decide +kernel
theorem dL_law_1617 : decode cL_law 1617 = .ok (.iconst 3, 1) := by decide +kernel
theorem dL_law_1618 : decode cL_law 1618 = .ok (.iadd, 1) := by decide +kernel
theorem dL_law_1619 : decode cL_law 1619 = .ok (.iaload, 1) := by decide +kernel
theorem dL_law_1620 : decode cL_law 1620 = .ok (.invokevirtual 173, 3) := by decide +kernel
theorem dL_law_1623 : decode cL_law 1623 = .ok (.pop, 1) := by decide +kernel
theorem dL_law_1624 : decode cL_law 1624 = .ok (.goto 95, 3) := by decide +kernel
theorem dL_law_1627 : decode cL_law 1627 = .ok (.aload_n 1, 1) := by decide +kernel
theorem dL_law_1628 : decode cL_law 1628 = .ok (.aload_n 0, 1) := by decide +kernel
theorem dL_law_1629 : decode cL_law 1629 = .ok (.iload_n 3, 1) := by decide +kernel
theorem dL_law_1630 : decode cL_law 1630 = .ok (.iconst 1, 1) := by decide +kernel
theorem dL_law_1631 : decode cL_law 1631 = .ok (.iadd, 1) := by decide +kernel
theorem dL_law_1632 : decode cL_law 1632 = .ok (.iaload, 1) := by decide +kernel
theorem dL_law_1633 : decode cL_law 1633 = .ok (.invokevirtual 174, 3) := by decide +kernel
theorem dL_law_1636 : decode cL_law 1636 = .ok (.pop, 1) := by decide +kernel
theorem dL_law_1637 : decode cL_law 1637 = .ok (.aload_n 2, 1) := by decide +kernel
theorem dL_law_1638 : decode cL_law 1638 = .ok (.aload_n 0, 1) := by decide +kernel
theorem dL_law_1639 : decode cL_law 1639 = .ok (.iload_n 3, 1) := by decide +kernel
theorem dL_law_1640 : decode cL_law 1640 = .ok (.iconst 1, 1) := by decide +kernel
theorem dL_law_1641 : decode cL_law 1641 = .ok (.iadd, 1) := by decide +kernel
theorem dL_law_1642 : decode cL_law 1642 = .ok (.iaload, 1) := by decide +kernel
theorem dL_law_1643 : decode cL_law 1643 = .ok (.invokevirtual 177, 3) := by decide +kernel
theorem dL_law_1646 : decode cL_law 1646 = .ok (.pop, 1) := by decide +kernel
theorem dL_law_1647 : decode cL_law 1647 = .ok (.goto 72, 3) := by decide +kernel
theorem dL_law_1650 : decode cL_law 1650 = .ok (.aload_n 1, 1) := by decide +kernel
theorem dL_law_1651 : decode cL_law 1651 = .ok (.invokevirtual 178, 3) := by decide +kernel
theorem dL_law_1654 : decode cL_law 1654 = .ok (.pop, 1) := by decide +kernel
theorem dL_law_1655 : decode cL_law 1655 = .ok (.aload_n 2, 1) := by decide +kernel
theorem dL_law_1656 : decode cL_law 1656 = .ok (.invokevirtual 182, 3) := by decide +kernel
theorem dL_law_1659 : decode cL_law 1659 = .ok (.pop, 1) := by decide +kernel
theorem dL_law_1660 : decode cL_law 1660 = .ok (.goto 59, 3) := by decide +kernel
theorem dL_law_1663 : decode cL_law 1663 = .ok (.aload_n 1, 1) := by decide +kernel
theorem dL_law_1664 : decode cL_law 1664 = .ok (.aload_n 0, 1) := by decide +kernel
theorem dL_law_1665 : decode cL_law 1665 = .ok (.iload_n 3, 1) := by decide +kernel
theorem dL_law_1666 : decode cL_law 1666 = .ok (.iconst 1, 1) := by decide +kernel
theorem dL_law_1667 : decode cL_law 1667 = .ok (.iadd, 1) := by decide +kernel
theorem dL_law_1668 : decode cL_law 1668 = .ok (.iaload, 1) := by decide +kernel
theorem dL_law_1669 : decode cL_law 1669 = .ok (.aload_n 0, 1) := by decide +kernel
theorem dL_law_1670 : decode cL_law 1670 = .ok (.iload_n 3, 1) := by decide +kernel
theorem dL_law_1671 : decode cL_law 1671 = .ok (.iconst 2, 1) := by decide +kernel
theorem dL_law_1672 : decode cL_law 1672 = .ok (.iadd, 1) := by decide +kernel
theorem dL_law_1673 : decode cL_law 1673 = .ok (.iaload, 1) := by decide +kernel
theorem dL_law_1674 : decode cL_law 1674 = .ok (.invokevirtual 183, 3) := by decide +kernel
theorem dL_law_1677 : decode cL_law 1677 = .ok (.pop, 1) := by decide +kernel
theorem dL_law_1678 : decode cL_law 1678 = .ok (.aload_n 2, 1) := by decide +kernel
theorem dL_law_1679 : decode cL_law 1679 = .ok (.aload_n 0, 1) := by decide +kernel
theorem dL_law_1680 : decode cL_law 1680 = .ok (.iload_n 3, 1) := by decide +kernel
theorem dL_law_1681 : decode cL_law 1681 = .ok (.iconst 1, 1) := by decide +kernel
theorem dL_law_1682 : decode cL_law 1682 = .ok (.iadd, 1) := by decide +kernel
theorem dL_law_1683 : decode cL_law 1683 = .ok (.iaload, 1) := by decide +kernel
theorem dL_law_1684 : decode cL_law 1684 = .ok (.aload_n 0, 1) := by decide +kernel
theorem dL_law_1685 : decode cL_law 1685 = .ok (.iload_n 3, 1) := by decide +kernel
theorem dL_law_1686 : decode cL_law 1686 = .ok (.iconst 2, 1) := by decide +kernel
theorem dL_law_1687 : decode cL_law 1687 = .ok (.iadd, 1) := by decide +kernel
theorem dL_law_1688 : decode cL_law 1688 = .ok (.iaload, 1) := by decide +kernel
theorem dL_law_1689 : decode cL_law 1689 = .ok (.invokevirtual 186, 3) := by decide +kernel
theorem dL_law_1692 : decode cL_law 1692 = .ok (.pop, 1) := by decide +kernel
theorem dL_law_1693 : decode cL_law 1693 = .ok (.goto 26, 3) := by decide +kernel
theorem dL_law_1696 : decode cL_law 1696 = .ok (.aload_n 1, 1) := by decide +kernel
theorem dL_law_1697 : decode cL_law 1697 = .ok (.aload_n 0, 1) := by decide +kernel
theorem dL_law_1698 : decode cL_law 1698 = .ok (.iload_n 3, 1) := by decide +kernel
theorem dL_law_1699 : decode cL_law 1699 = .ok (.iconst 1, 1) := by decide +kernel
theorem dL_law_1700 : decode cL_law 1700 = .ok (.iadd, 1) := by decide +kernel
theorem dL_law_1701 : decode cL_law 1701 = .ok (.iaload, 1) := by decide +kernel
theorem dL_law_1702 : decode cL_law 1702 = .ok (.invokevirtual 187, 3) := by decide +kernel
theorem dL_law_1705 : decode cL_law 1705 = .ok (.pop, 1) := by decide +kernel
theorem dL_law_1706 : decode cL_law 1706 = .ok (.aload_n 2, 1) := by decide +kernel
theorem dL_law_1707 : decode cL_law 1707 = .ok (.aload_n 0, 1) := by decide +kernel
theorem dL_law_1708 : decode cL_law 1708 = .ok (.iload_n 3, 1) := by decide +kernel
theorem dL_law_1709 : decode cL_law 1709 = .ok (.iconst 1, 1) := by decide +kernel
theorem dL_law_1710 : decode cL_law 1710 = .ok (.iadd, 1) := by decide +kernel
theorem dL_law_1711 : decode cL_law 1711 = .ok (.iaload, 1) := by decide +kernel
theorem dL_law_1712 : decode cL_law 1712 = .ok (.invokevirtual 190, 3) := by decide +kernel
theorem dL_law_1715 : decode cL_law 1715 = .ok (.pop, 1) := by decide +kernel
theorem dL_law_1716 : decode cL_law 1716 = .ok (.goto 3, 3) := by decide +kernel
theorem dL_law_1719 : decode cL_law 1719 = .ok (.iinc 3 6, 3) := by decide +kernel
theorem dL_law_1722 : decode cL_law 1722 = .ok (.goto (-1704), 3) := by decide +kernel
theorem dL_law_1725 : decode cL_law 1725 = .ok (.iconst 1, 1) := by decide +kernel
theorem dL_law_1726 : decode cL_law 1726 = .ok (.ireturn, 1) := by decide +kernel
theorem dX0_find_0 : decode cX0_find 0 = .ok (.aload_n 0, 1) := by decide +kernel
theorem dX0_find_1 : decode cX0_find 1 = .ok (.aload_n 1, 1) := by decide +kernel
theorem dX0_find_2 : decode cX0_find 2 = .ok (.invokevirtual 28, 3) := by decide +kernel
theorem dX0_find_5 : decode cX0_find 5 = .ok (.aload_n 0, 1) := by decide +kernel
theorem dX0_find_6 : decode cX0_find 6 = .ok (.invokevirtual 32, 3) := by decide +kernel
theorem dX0_find_9 : decode cX0_find 9 = .ok (.istore_n 3, 1) := by decide +kernel
theorem dX0_find_10 : decode cX0_find 10 = .ok (.aload_n 2, 1) := by decide +kernel
theorem dX0_find_11 : decode cX0_find 11 = .ok (.iload_n 3, 1) := by decide +kernel
theorem dX0_find_12 : decode cX0_find 12 = .ok (.putfield 36, 3) := by decide +kernel
theorem dX0_find_15 : decode cX0_find 15 = .ok (.aload_n 2, 1) := by decide +kernel
theorem dX0_find_16 : decode cX0_find 16 = .ok (.aload_n 0, 1) := by decide +kernel
theorem dX0_find_17 : decode cX0_find 17 = .ok (.iconst 0, 1) := by decide +kernel
theorem dX0_find_18 : decode cX0_find 18 = .ok (.iconst 0, 1) := by decide +kernel
theorem dX0_find_19 : decode cX0_find 19 = .ok (.iload_n 3, 1) := by decide +kernel
theorem dX0_find_20 : decode cX0_find 20 = .ok (.invokevirtual 42, 3) := by decide +kernel
theorem dX0_find_23 : decode cX0_find 23 = .ok (.putfield 46, 3) := by decide +kernel
theorem dX0_find_26 : decode cX0_find 26 = .ok (.aload_n 2, 1) := by decide +kernel
theorem dX0_find_27 : decode cX0_find 27 = .ok (.aload_n 0, 1) := by decide +kernel
theorem dX0_find_28 : decode cX0_find 28 = .ok (.iconst 0, 1) := by decide +kernel
theorem dX0_find_29 : decode cX0_find 29 = .ok (.iconst 0, 1) := by decide +kernel
theorem dX0_find_30 : decode cX0_find 30 = .ok (.iload_n 3, 1) := by decide +kernel
theorem dX0_find_31 : decode cX0_find 31 = .ok (.invokevirtual 49, 3) := by decide +kernel
theorem dX0_find_34 : decode cX0_find 34 = .ok (.putfield 52, 3) := by decide +kernel
theorem dX0_find_37 : decode cX0_find 37 = .ok (.iconst 0, 1) := by decide +kernel
theorem dX0_find_38 : decode cX0_find 38 = .ok (.istore 4, 2) := by decide +kernel
theorem dX0_find_40 : decode cX0_find 40 = .ok (.iconst 0, 1) := by decide +kernel
theorem dX0_find_41 : decode cX0_find 41 = .ok (.istore 5, 2) := by decide +kernel
theorem dX0_find_43 : decode cX0_find 43 = .ok (.iload 5, 2) := by decide +kernel
theorem dX0_find_45 : decode cX0_find 45 = .ok (.aload_n 0, 1) := by decide +kernel
theorem dX0_find_46 : decode cX0_find 46 = .ok (.getfield 14, 3) := by decide +kernel
theorem dX0_find_49 : decode cX0_find 49 = .ok (.getfield 55, 3) := by decide +kernel
theorem dX0_find_52 : decode cX0_find 52 = .ok (.if_icmp .ge 50, 3) := by decide +kernel
theorem dX0_find_55 : decode cX0_find 55 = .ok (.aload_n 0, 1) := by decide +kernel
theorem dX0_find_56 : decode cX0_find 56 = .ok (.iload 5, 2) := by decide +kernel
theorem dX0_find_58 : decode cX0_find 58 = .ok (.iload 4, 2) := by decide +kernel
theorem dX0_find_60 : decode cX0_find 60 = .ok (.iload_n 3, 1) := by decide +kernel
theorem dX0_find_61 : decode cX0_find 61 = .ok (.invokevirtual 49, 3) := by decide +kernel
theorem dX0_find_64 : decode cX0_find 64 = .ok (.invokestatic 58, 3) := by decide +kernel
theorem dX0_find_67 : decode cX0_find 67 = .ok (.istore 6, 2) := by decide +kernel
theorem dX0_find_69 : decode cX0_find 69 = .ok (.aload_n 0, 1) := by decide +kernel
theorem dX0_find_70 : decode cX0_find 70 = .ok (.getfield 18, 3) := by decide +kernel
theorem dX0_find_73 : decode cX0_find 73 = .ok (.iload 5, 2) := by decide +kernel
theorem dX0_find_75 : decode cX0_find 75 = .ok (.iload 6, 2) := by decide +kernel
theorem dX0_find_77 : decode cX0_find 77 = .ok (.iastore, 1) := by decide +kernel
theorem dX0_find_78 : decode cX0_find 78 = .ok (.aload_n 2, 1) := by decide +kernel
theorem dX0_find_79 : decode cX0_find 79 = .ok (.getfield 64, 3) := by decide +kernel
theorem dX0_find_82 : decode cX0_find 82 = .ok (.iload 5, 2) := by decide +kernel
theorem dX0_find_84 : decode cX0_find 84 = .ok (.iload 6, 2) := by decide +kernel
theorem dX0_find_86 : decode cX0_find 86 = .ok (.iastore, 1) := by decide +kernel
theorem dX0_find_87 : decode cX0_find 87 = .ok (.iload 4, 2) := by decide +kernel
theorem dX0_find_89 : decode cX0_find 89 = .ok (.iconst 1, 1) := by decide +kernel
theorem dX0_find_90 : decode cX0_find 90 = .ok (.iload 6, 2) := by decide +kernel
theorem dX0_find_92 : decode cX0_find 92 = .ok (.ishl, 1) := by decide +kernel
theorem dX0_find_93 : decode cX0_find 93 = .ok (.ior, 1) := by decide +kernel
theorem dX0_find_94 : decode cX0_find 94 = .ok (.istore 4, 2) := by decide +kernel
theorem dX0_find_96 : decode cX0_find 96 = .ok (.iinc 5 1, 3) := by decide +kernel
theorem dX0_find_99 : decode cX0_find 99 = .ok (.goto (-56), 3) := by decide +kernel
theorem dX0_find_102 : decode cX0_find 102 = .ok (.return_, 1) := by decide +kernel
theorem dX0_init_0 : decode cX0_init 0 = .ok (.aload_n 0, 1) := by decide +kernel
theorem dX0_init_1 : decode cX0_init 1 = .ok (.invokespecial 5, 3) := by decide +kernel
theorem dX0_init_4 : decode cX0_init 4 = .ok (.aload_n 0, 1) := by decide +kernel
theorem dX0_init_5 : decode cX0_init 5 = .ok (.new 11, 3) := by decide +kernel
theorem dX0_init_8 : decode cX0_init 8 = .ok (.dup, 1) := by decide +kernel
theorem dX0_init_9 : decode cX0_init 9 = .ok (.invokespecial 13, 3) := by decide +kernel
theorem dX0_init_12 : decode cX0_init 12 = .ok (.putfield 14, 3) := by decide +kernel
theorem dX0_init_15 : decode cX0_init 15 = .ok (.aload_n 0, 1) := by decide +kernel
theorem dX0_init_16 : decode cX0_init 16 = .ok (.bipush 9, 2) := by decide +kernel
theorem dX0_init_18 : decode cX0_init 18 = .ok (.newarray .int, 2) := by decide +kernel
theorem dX0_init_20 : decode cX0_init 20 = .ok (.putfield 18, 3) := by decide +kernel
theorem dX0_init_23 : decode cX0_init 23 = .ok (.aload_n 0, 1) := by decide +kernel
theorem dX0_init_24 : decode cX0_init 24 = .ok (.sipush 4096, 3) := by decide +kernel
theorem dX0_init_27 : decode cX0_init 27 = .ok (.newarray .int, 2) := by decide +kernel
theorem dX0_init_29 : decode cX0_init 29 = .ok (.putfield 22, 3) := by decide +kernel
theorem dX0_init_32 : decode cX0_init 32 = .ok (.aload_n 0, 1) := by decide +kernel
theorem dX0_init_33 : decode cX0_init 33 = .ok (.sipush 4096, 3) := by decide +kernel
theorem dX0_init_36 : decode cX0_init 36 = .ok (.newarray .int, 2) := by decide +kernel
theorem dX0_init_38 : decode cX0_init 38 = .ok (.putfield 25, 3) := by decide +kernel
theorem dX0_init_41 : decode cX0_init 41 = .ok (.return_, 1) := by decide +kernel
theorem dX0_leadersFrom_0 : decode cX0_leadersFrom 0 = .ok (.iconst 0, 1) := by decide +kernel
theorem dX0_leadersFrom_1 : decode cX0_leadersFrom 1 = .ok (.istore 4, 2) := by decide +kernel
theorem dX0_leadersFrom_3 : decode cX0_leadersFrom 3 = .ok (.iconst 0, 1) := by decide +kernel
theorem dX0_leadersFrom_4 : decode cX0_leadersFrom 4 = .ok (.istore 5, 2) := by decide +kernel
theorem dX0_leadersFrom_6 : decode cX0_leadersFrom 6 = .ok (.iload 5, 2) := by decide +kernel
theorem dX0_leadersFrom_8 : decode cX0_leadersFrom 8 = .ok (.aload_n 0, 1) := by decide +kernel
theorem dX0_leadersFrom_9 : decode cX0_leadersFrom 9 = .ok (.getfield 14, 3) := by decide +kernel
theorem dX0_leadersFrom_12 : decode cX0_leadersFrom 12 = .ok (.getfield 55, 3) := by decide +kernel
theorem dX0_leadersFrom_15 : decode cX0_leadersFrom 15 = .ok (.if_icmp .ge 52, 3) := by decide +kernel
theorem dX0_leadersFrom_18 : decode cX0_leadersFrom 18 = .ok (.iload_n 2, 1) := by decide +kernel
theorem dX0_leadersFrom_19 : decode cX0_leadersFrom 19 = .ok (.iload 5, 2) := by decide +kernel
theorem dX0_leadersFrom_21 : decode cX0_leadersFrom 21 = .ok (.ishr, 1) := by decide +kernel
theorem dX0_leadersFrom_22 : decode cX0_leadersFrom 22 = .ok (.iconst 1, 1) := by decide +kernel
theorem dX0_leadersFrom_23 : decode cX0_leadersFrom 23 = .ok (.iand, 1) := by decide +kernel
theorem dX0_leadersFrom_24 : decode cX0_leadersFrom 24 = .ok (.ifCond .ne 37, 3) := by decide +kernel
theorem dX0_leadersFrom_27 : decode cX0_leadersFrom 27 = .ok (.aload_n 0, 1) := by decide +kernel
theorem dX0_leadersFrom_28 : decode cX0_leadersFrom 28 = .ok (.getfield 18, 3) := by decide +kernel
theorem dX0_leadersFrom_31 : decode cX0_leadersFrom 31 = .ok (.iload_n 1, 1) := by decide +kernel
theorem dX0_leadersFrom_32 : decode cX0_leadersFrom 32 = .ok (.iload 5, 2) := by decide +kernel
theorem dX0_leadersFrom_34 : decode cX0_leadersFrom 34 = .ok (.iastore, 1) := by decide +kernel
theorem dX0_leadersFrom_35 : decode cX0_leadersFrom 35 = .ok (.aload_n 0, 1) := by decide +kernel
theorem dX0_leadersFrom_36 : decode cX0_leadersFrom 36 = .ok (.iload_n 1, 1) := by decide +kernel
theorem dX0_leadersFrom_37 : decode cX0_leadersFrom 37 = .ok (.iconst 1, 1) := by decide +kernel
theorem dX0_leadersFrom_38 : decode cX0_leadersFrom 38 = .ok (.iadd, 1) := by decide +kernel
theorem dX0_leadersFrom_39 : decode cX0_leadersFrom 39 = .ok (.iload_n 2, 1) := by decide +kernel
theorem dX0_leadersFrom_40 : decode cX0_leadersFrom 40 = .ok (.iconst 1, 1) := by decide +kernel
theorem dX0_leadersFrom_41 : decode cX0_leadersFrom 41 = .ok (.iload 5, 2) := by decide +kernel
theorem dX0_leadersFrom_43 : decode cX0_leadersFrom 43 = .ok (.ishl, 1) := by decide +kernel
theorem dX0_leadersFrom_44 : decode cX0_leadersFrom 44 = .ok (.ior, 1) := by decide +kernel
theorem dX0_leadersFrom_45 : decode cX0_leadersFrom 45 = .ok (.iload_n 3, 1) := by decide +kernel
theorem dX0_leadersFrom_46 : decode cX0_leadersFrom 46 = .ok (.invokevirtual 42, 3) := by decide +kernel
theorem dX0_leadersFrom_49 : decode cX0_leadersFrom 49 = .ok (.ifCond .le 12, 3) := by decide +kernel
theorem dX0_leadersFrom_52 : decode cX0_leadersFrom 52 = .ok (.iload 4, 2) := by decide +kernel
theorem dX0_leadersFrom_54 : decode cX0_leadersFrom 54 = .ok (.iconst 1, 1) := by decide +kernel
theorem dX0_leadersFrom_55 : decode cX0_leadersFrom 55 = .ok (.iload 5, 2) := by decide +kernel
theorem dX0_leadersFrom_57 : decode cX0_leadersFrom 57 = .ok (.ishl, 1) := by decide +kernel
theorem dX0_leadersFrom_58 : decode cX0_leadersFrom 58 = .ok (.ior, 1) := by decide +kernel
theorem dX0_leadersFrom_59 : decode cX0_leadersFrom 59 = .ok (.istore 4, 2) := by decide +kernel
theorem dX0_leadersFrom_61 : decode cX0_leadersFrom 61 = .ok (.iinc 5 1, 3) := by decide +kernel
theorem dX0_leadersFrom_64 : decode cX0_leadersFrom 64 = .ok (.goto (-58), 3) := by decide +kernel
theorem dX0_leadersFrom_67 : decode cX0_leadersFrom 67 = .ok (.iload 4, 2) := by decide +kernel
theorem dX0_leadersFrom_69 : decode cX0_leadersFrom 69 = .ok (.ireturn, 1) := by decide +kernel
theorem dX0_leastLimit_0 : decode cX0_leastLimit 0 = .ok (.iconst 0, 1) := by decide +kernel
theorem dX0_leastLimit_1 : decode cX0_leastLimit 1 = .ok (.istore_n 1, 1) := by decide +kernel
theorem dX0_leastLimit_2 : decode cX0_leastLimit 2 = .ok (.iload_n 1, 1) := by decide +kernel
theorem dX0_leastLimit_3 : decode cX0_leastLimit 3 = .ok (.aload_n 0, 1) := by decide +kernel
theorem dX0_leastLimit_4 : decode cX0_leastLimit 4 = .ok (.getfield 14, 3) := by decide +kernel
theorem dX0_leastLimit_7 : decode cX0_leastLimit 7 = .ok (.getfield 55, 3) := by decide +kernel
theorem dX0_leastLimit_10 : decode cX0_leastLimit 10 = .ok (.iconst 1, 1) := by decide +kernel
theorem dX0_leastLimit_11 : decode cX0_leastLimit 11 = .ok (.isub, 1) := by decide +kernel
theorem dX0_leastLimit_12 : decode cX0_leastLimit 12 = .ok (.if_icmp .ge 21, 3) := by decide +kernel
theorem dX0_leastLimit_15 : decode cX0_leastLimit 15 = .ok (.aload_n 0, 1) := by decide +kernel
theorem dX0_leastLimit_16 : decode cX0_leastLimit 16 = .ok (.iconst 0, 1) := by decide +kernel
theorem dX0_leastLimit_17 : decode cX0_leastLimit 17 = .ok (.iconst 0, 1) := by decide +kernel
theorem dX0_leastLimit_18 : decode cX0_leastLimit 18 = .ok (.iload_n 1, 1) := by decide +kernel
theorem dX0_leastLimit_19 : decode cX0_leastLimit 19 = .ok (.invokevirtual 42, 3) := by decide +kernel
theorem dX0_leastLimit_22 : decode cX0_leastLimit 22 = .ok (.ifCond .le 5, 3) := by decide +kernel
theorem dX0_leastLimit_25 : decode cX0_leastLimit 25 = .ok (.iload_n 1, 1) := by decide +kernel
theorem dX0_leastLimit_26 : decode cX0_leastLimit 26 = .ok (.ireturn, 1) := by decide +kernel
theorem dX0_leastLimit_27 : decode cX0_leastLimit 27 = .ok (.iinc 1 1, 3) := by decide +kernel
theorem dX0_leastLimit_30 : decode cX0_leastLimit 30 = .ok (.goto (-28), 3) := by decide +kernel
theorem dX0_leastLimit_33 : decode cX0_leastLimit 33 = .ok (.aload_n 0, 1) := by decide +kernel
theorem dX0_leastLimit_34 : decode cX0_leastLimit 34 = .ok (.getfield 14, 3) := by decide +kernel
theorem dX0_leastLimit_37 : decode cX0_leastLimit 37 = .ok (.getfield 55, 3) := by decide +kernel
theorem dX0_leastLimit_40 : decode cX0_leastLimit 40 = .ok (.iconst 1, 1) := by decide +kernel
theorem dX0_leastLimit_41 : decode cX0_leastLimit 41 = .ok (.isub, 1) := by decide +kernel
theorem dX0_leastLimit_42 : decode cX0_leastLimit 42 = .ok (.ireturn, 1) := by decide +kernel
theorem dX0_rowsFrom_0 : decode cX0_rowsFrom 0 = .ok (.iload_n 1, 1) := by decide +kernel
theorem dX0_rowsFrom_1 : decode cX0_rowsFrom 1 = .ok (.aload_n 0, 1) := by decide +kernel
theorem dX0_rowsFrom_2 : decode cX0_rowsFrom 2 = .ok (.getfield 14, 3) := by decide +kernel
theorem dX0_rowsFrom_5 : decode cX0_rowsFrom 5 = .ok (.getfield 55, 3) := by decide +kernel
theorem dX0_rowsFrom_8 : decode cX0_rowsFrom 8 = .ok (.if_icmp .lt 5, 3) := by decide +kernel
theorem dX0_rowsFrom_11 : decode cX0_rowsFrom 11 = .ok (.iconst 1, 1) := by decide +kernel
theorem dX0_rowsFrom_12 : decode cX0_rowsFrom 12 = .ok (.ireturn, 1) := by decide +kernel
theorem dX0_rowsFrom_13 : decode cX0_rowsFrom 13 = .ok (.aload_n 0, 1) := by decide +kernel
theorem dX0_rowsFrom_14 : decode cX0_rowsFrom 14 = .ok (.iload_n 1, 1) := by decide +kernel
theorem dX0_rowsFrom_15 : decode cX0_rowsFrom 15 = .ok (.iload_n 2, 1) := by decide +kernel
theorem dX0_rowsFrom_16 : decode cX0_rowsFrom 16 = .ok (.iload_n 3, 1) := by decide +kernel
theorem dX0_rowsFrom_17 : decode cX0_rowsFrom 17 = .ok (.invokevirtual 86, 3) := by decide +kernel
theorem dX0_rowsFrom_20 : decode cX0_rowsFrom 20 = .ok (.istore 4, 2) := by decide +kernel
theorem dX0_rowsFrom_22 : decode cX0_rowsFrom 22 = .ok (.iload 4, 2) := by decide +kernel
theorem dX0_rowsFrom_24 : decode cX0_rowsFrom 24 = .ok (.iconst (-1), 1) := by decide +kernel
theorem dX0_rowsFrom_25 : decode cX0_rowsFrom 25 = .ok (.if_icmp .ne 5, 3) := by decide +kernel
theorem dX0_rowsFrom_28 : decode cX0_rowsFrom 28 = .ok (.iconst 0, 1) := by decide +kernel
theorem dX0_rowsFrom_29 : decode cX0_rowsFrom 29 = .ok (.ireturn, 1) := by decide +kernel
theorem dX0_rowsFrom_30 : decode cX0_rowsFrom 30 = .ok (.iload 4, 2) := by decide +kernel
theorem dX0_rowsFrom_32 : decode cX0_rowsFrom 32 = .ok (.ldc 89, 2) := by decide +kernel
theorem dX0_rowsFrom_34 : decode cX0_rowsFrom 34 = .ok (.imul, 1) := by decide +kernel
theorem dX0_rowsFrom_35 : decode cX0_rowsFrom 35 = .ok (.bipush 20, 2) := by decide +kernel
theorem dX0_rowsFrom_37 : decode cX0_rowsFrom 37 = .ok (.iushr, 1) := by decide +kernel
theorem dX0_rowsFrom_38 : decode cX0_rowsFrom 38 = .ok (.istore 5, 2) := by decide +kernel
theorem dX0_rowsFrom_40 : decode cX0_rowsFrom 40 = .ok (.aload_n 0, 1) := by decide +kernel
theorem dX0_rowsFrom_41 : decode cX0_rowsFrom 41 = .ok (.getfield 22, 3) := by decide +kernel
theorem dX0_rowsFrom_44 : decode cX0_rowsFrom 44 = .ok (.iload 5, 2) := by decide +kernel
theorem dX0_rowsFrom_46 : decode cX0_rowsFrom 46 = .ok (.iaload, 1) := by decide +kernel
theorem dX0_rowsFrom_47 : decode cX0_rowsFrom 47 = .ok (.iload 4, 2) := by decide +kernel
theorem dX0_rowsFrom_49 : decode cX0_rowsFrom 49 = .ok (.if_icmp .ne 11, 3) := by decide +kernel
theorem dX0_rowsFrom_52 : decode cX0_rowsFrom 52 = .ok (.aload_n 0, 1) := by decide +kernel
theorem dX0_rowsFrom_53 : decode cX0_rowsFrom 53 = .ok (.getfield 25, 3) := by decide +kernel
theorem dX0_rowsFrom_56 : decode cX0_rowsFrom 56 = .ok (.iload 5, 2) := by decide +kernel
theorem dX0_rowsFrom_58 : decode cX0_rowsFrom 58 = .ok (.iaload, 1) := by decide +kernel
theorem dX0_rowsFrom_59 : decode cX0_rowsFrom 59 = .ok (.ireturn, 1) := by decide +kernel
theorem dX0_rowsFrom_60 : decode cX0_rowsFrom 60 = .ok (.iconst 0, 1) := by decide +kernel
theorem dX0_rowsFrom_61 : decode cX0_rowsFrom 61 = .ok (.istore 6, 2) := by decide +kernel
theorem dX0_rowsFrom_63 : decode cX0_rowsFrom 63 = .ok (.iconst 0, 1) := by decide +kernel
theorem dX0_rowsFrom_64 : decode cX0_rowsFrom 64 = .ok (.istore 7, 2) := by decide +kernel
theorem dX0_rowsFrom_66 : decode cX0_rowsFrom 66 = .ok (.iload 7, 2) := by decide +kernel
theorem dX0_rowsFrom_68 : decode cX0_rowsFrom 68 = .ok (.aload_n 0, 1) := by decide +kernel
theorem dX0_rowsFrom_69 : decode cX0_rowsFrom 69 = .ok (.getfield 14, 3) := by decide +kernel
theorem dX0_rowsFrom_72 : decode cX0_rowsFrom 72 = .ok (.getfield 55, 3) := by decide +kernel
theorem dX0_rowsFrom_75 : decode cX0_rowsFrom 75 = .ok (.if_icmp .ge 45, 3) := by decide +kernel
theorem dX0_rowsFrom_78 : decode cX0_rowsFrom 78 = .ok (.iload_n 2, 1) := by decide +kernel
theorem dX0_rowsFrom_79 : decode cX0_rowsFrom 79 = .ok (.iload 7, 2) := by decide +kernel
theorem dX0_rowsFrom_81 : decode cX0_rowsFrom 81 = .ok (.ishr, 1) := by decide +kernel
theorem dX0_rowsFrom_82 : decode cX0_rowsFrom 82 = .ok (.iconst 1, 1) := by decide +kernel
theorem dX0_rowsFrom_83 : decode cX0_rowsFrom 83 = .ok (.iand, 1) := by decide +kernel
theorem dX0_rowsFrom_84 : decode cX0_rowsFrom 84 = .ok (.ifCond .ne 30, 3) := by decide +kernel
theorem dX0_rowsFrom_87 : decode cX0_rowsFrom 87 = .ok (.aload_n 0, 1) := by decide +kernel
theorem dX0_rowsFrom_88 : decode cX0_rowsFrom 88 = .ok (.getfield 18, 3) := by decide +kernel
theorem dX0_rowsFrom_91 : decode cX0_rowsFrom 91 = .ok (.iload_n 1, 1) := by decide +kernel
theorem dX0_rowsFrom_92 : decode cX0_rowsFrom 92 = .ok (.iload 7, 2) := by decide +kernel
theorem dX0_rowsFrom_94 : decode cX0_rowsFrom 94 = .ok (.iastore, 1) := by decide +kernel
theorem dX0_rowsFrom_95 : decode cX0_rowsFrom 95 = .ok (.iload 6, 2) := by decide +kernel
theorem dX0_rowsFrom_97 : decode cX0_rowsFrom 97 = .ok (.aload_n 0, 1) := by decide +kernel
theorem dX0_rowsFrom_98 : decode cX0_rowsFrom 98 = .ok (.iload_n 1, 1) := by decide +kernel
theorem dX0_rowsFrom_99 : decode cX0_rowsFrom 99 = .ok (.iconst 1, 1) := by decide +kernel
theorem dX0_rowsFrom_100 : decode cX0_rowsFrom 100 = .ok (.iadd, 1) := by decide +kernel
theorem dX0_rowsFrom_101 : decode cX0_rowsFrom 101 = .ok (.iload_n 2, 1) := by decide +kernel
theorem dX0_rowsFrom_102 : decode cX0_rowsFrom 102 = .ok (.iconst 1, 1) := by decide +kernel
theorem dX0_rowsFrom_103 : decode cX0_rowsFrom 103 = .ok (.iload 7, 2) := by decide +kernel
theorem dX0_rowsFrom_105 : decode cX0_rowsFrom 105 = .ok (.ishl, 1) := by decide +kernel
theorem dX0_rowsFrom_106 : decode cX0_rowsFrom 106 = .ok (.ior, 1) := by decide +kernel
theorem dX0_rowsFrom_107 : decode cX0_rowsFrom 107 = .ok (.iload_n 3, 1) := by decide +kernel
theorem dX0_rowsFrom_108 : decode cX0_rowsFrom 108 = .ok (.invokevirtual 42, 3) := by decide +kernel
theorem dX0_rowsFrom_111 : decode cX0_rowsFrom 111 = .ok (.iadd, 1) := by decide +kernel
theorem dX0_rowsFrom_112 : decode cX0_rowsFrom 112 = .ok (.istore 6, 2) := by decide +kernel
theorem dX0_rowsFrom_114 : decode cX0_rowsFrom 114 = .ok (.iinc 7 1, 3) := by decide +kernel
theorem dX0_rowsFrom_117 : decode cX0_rowsFrom 117 = .ok (.goto (-51), 3) := by decide +kernel
theorem dX0_rowsFrom_120 : decode cX0_rowsFrom 120 = .ok (.aload_n 0, 1) := by decide +kernel
theorem dX0_rowsFrom_121 : decode cX0_rowsFrom 121 = .ok (.getfield 22, 3) := by decide +kernel
theorem dX0_rowsFrom_124 : decode cX0_rowsFrom 124 = .ok (.iload 5, 2) := by decide +kernel
theorem dX0_rowsFrom_126 : decode cX0_rowsFrom 126 = .ok (.iload 4, 2) := by decide +kernel
theorem dX0_rowsFrom_128 : decode cX0_rowsFrom 128 = .ok (.iastore, 1) := by decide +kernel
theorem dX0_rowsFrom_129 : decode cX0_rowsFrom 129 = .ok (.aload_n 0, 1) := by decide +kernel
theorem dX0_rowsFrom_130 : decode cX0_rowsFrom 130 = .ok (.getfield 25, 3) := by decide +kernel
theorem dX0_rowsFrom_133 : decode cX0_rowsFrom 133 = .ok (.iload 5, 2) := by decide +kernel
theorem dX0_rowsFrom_135 : decode cX0_rowsFrom 135 = .ok (.iload 6, 2) := by decide +kernel
theorem dX0_rowsFrom_137 : decode cX0_rowsFrom 137 = .ok (.iastore, 1) := by decide +kernel
theorem dX0_rowsFrom_138 : decode cX0_rowsFrom 138 = .ok (.iload 6, 2) := by decide +kernel
theorem dX0_rowsFrom_140 : decode cX0_rowsFrom 140 = .ok (.ireturn, 1) := by decide +kernel
theorem dX0_rowsWithin_0 : decode cX0_rowsWithin 0 = .ok (.aload_n 0, 1) := by decide +kernel
theorem dX0_rowsWithin_1 : decode cX0_rowsWithin 1 = .ok (.aload_n 1, 1) := by decide +kernel
theorem dX0_rowsWithin_2 : decode cX0_rowsWithin 2 = .ok (.invokevirtual 28, 3) := by decide +kernel
theorem dX0_rowsWithin_5 : decode cX0_rowsWithin 5 = .ok (.aload_n 0, 1) := by decide +kernel
theorem dX0_rowsWithin_6 : decode cX0_rowsWithin 6 = .ok (.iconst 0, 1) := by decide +kernel
theorem dX0_rowsWithin_7 : decode cX0_rowsWithin 7 = .ok (.iconst 0, 1) := by decide +kernel
theorem dX0_rowsWithin_8 : decode cX0_rowsWithin 8 = .ok (.iload_n 2, 1) := by decide +kernel
theorem dX0_rowsWithin_9 : decode cX0_rowsWithin 9 = .ok (.aload_n 0, 1) := by decide +kernel
theorem dX0_rowsWithin_10 : decode cX0_rowsWithin 10 = .ok (.getfield 14, 3) := by decide +kernel
theorem dX0_rowsWithin_13 : decode cX0_rowsWithin 13 = .ok (.getfield 55, 3) := by decide +kernel
theorem dX0_rowsWithin_16 : decode cX0_rowsWithin 16 = .ok (.iconst 1, 1) := by decide +kernel
theorem dX0_rowsWithin_17 : decode cX0_rowsWithin 17 = .ok (.isub, 1) := by decide +kernel
theorem dX0_rowsWithin_18 : decode cX0_rowsWithin 18 = .ok (.invokestatic 67, 3) := by decide +kernel
theorem dX0_rowsWithin_21 : decode cX0_rowsWithin 21 = .ok (.invokevirtual 42, 3) := by decide +kernel
theorem dX0_rowsWithin_24 : decode cX0_rowsWithin 24 = .ok (.ireturn, 1) := by decide +kernel
theorem dX0_turnTo_0 : decode cX0_turnTo 0 = .ok (.aload_n 0, 1) := by decide +kernel
theorem dX0_turnTo_1 : decode cX0_turnTo 1 = .ok (.getfield 14, 3) := by decide +kernel
theorem dX0_turnTo_4 : decode cX0_turnTo 4 = .ok (.aload_n 1, 1) := by decide +kernel
theorem dX0_turnTo_5 : decode cX0_turnTo 5 = .ok (.invokevirtual 73, 3) := by decide +kernel
theorem dX0_turnTo_8 : decode cX0_turnTo 8 = .ok (.ifCond .ne 19, 3) := by decide +kernel
theorem dX0_turnTo_11 : decode cX0_turnTo 11 = .ok (.aload_n 0, 1) := by decide +kernel
theorem dX0_turnTo_12 : decode cX0_turnTo 12 = .ok (.getfield 14, 3) := by decide +kernel
theorem dX0_turnTo_15 : decode cX0_turnTo 15 = .ok (.aload_n 1, 1) := by decide +kernel
theorem dX0_turnTo_16 : decode cX0_turnTo 16 = .ok (.invokevirtual 77, 3) := by decide +kernel
theorem dX0_turnTo_19 : decode cX0_turnTo 19 = .ok (.aload_n 0, 1) := by decide +kernel
theorem dX0_turnTo_20 : decode cX0_turnTo 20 = .ok (.getfield 22, 3) := by decide +kernel
theorem dX0_turnTo_23 : decode cX0_turnTo 23 = .ok (.iconst (-1), 1) := by decide +kernel
theorem dX0_turnTo_24 : decode cX0_turnTo 24 = .ok (.invokestatic 80, 3) := by decide +kernel
theorem dX0_turnTo_27 : decode cX0_turnTo 27 = .ok (.return_, 1) := by decide +kernel
theorem dX0_waiting_0 : decode cX0_waiting 0 = .ok (.iload_n 3, 1) := by decide +kernel
theorem dX0_waiting_1 : decode cX0_waiting 1 = .ok (.bipush 9, 2) := by decide +kernel
theorem dX0_waiting_3 : decode cX0_waiting 3 = .ok (.ishl, 1) := by decide +kernel
theorem dX0_waiting_4 : decode cX0_waiting 4 = .ok (.iload_n 2, 1) := by decide +kernel
theorem dX0_waiting_5 : decode cX0_waiting 5 = .ok (.ior, 1) := by decide +kernel
theorem dX0_waiting_6 : decode cX0_waiting 6 = .ok (.istore 4, 2) := by decide +kernel
theorem dX0_waiting_8 : decode cX0_waiting 8 = .ok (.iconst 0, 1) := by decide +kernel
theorem dX0_waiting_9 : decode cX0_waiting 9 = .ok (.istore 5, 2) := by decide +kernel
theorem dX0_waiting_11 : decode cX0_waiting 11 = .ok (.iconst 0, 1) := by decide +kernel
theorem dX0_waiting_12 : decode cX0_waiting 12 = .ok (.istore 6, 2) := by decide +kernel
theorem dX0_waiting_14 : decode cX0_waiting 14 = .ok (.iload_n 1, 1) := by decide +kernel
theorem dX0_waiting_15 : decode cX0_waiting 15 = .ok (.iconst 1, 1) := by decide +kernel
theorem dX0_waiting_16 : decode cX0_waiting 16 = .ok (.isub, 1) := by decide +kernel
theorem dX0_waiting_17 : decode cX0_waiting 17 = .ok (.aload_n 0, 1) := by decide +kernel
theorem dX0_waiting_18 : decode cX0_waiting 18 = .ok (.getfield 14, 3) := by decide +kernel
theorem dX0_waiting_21 : decode cX0_waiting 21 = .ok (.getfield 55, 3) := by decide +kernel
theorem dX0_waiting_24 : decode cX0_waiting 24 = .ok (.iconst 2, 1) := by decide +kernel
theorem dX0_waiting_25 : decode cX0_waiting 25 = .ok (.isub, 1) := by decide +kernel
theorem dX0_waiting_26 : decode cX0_waiting 26 = .ok (.iload_n 3, 1) := by decide +kernel
theorem dX0_waiting_27 : decode cX0_waiting 27 = .ok (.isub, 1) := by decide +kernel
theorem dX0_waiting_28 : decode cX0_waiting 28 = .ok (.invokestatic 67, 3) := by decide +kernel
theorem dX0_waiting_31 : decode cX0_waiting 31 = .ok (.istore 7, 2) := by decide +kernel
theorem dX0_waiting_33 : decode cX0_waiting 33 = .ok (.iconst 0, 1) := by decide +kernel
theorem dX0_waiting_34 : decode cX0_waiting 34 = .ok (.iload_n 1, 1) := by decide +kernel
theorem dX0_waiting_35 : decode cX0_waiting 35 = .ok (.iconst 1, 1) := by decide +kernel
theorem dX0_waiting_36 : decode cX0_waiting 36 = .ok (.isub, 1) := by decide +kernel
theorem dX0_waiting_37 : decode cX0_waiting 37 = .ok (.iload_n 3, 1) := by decide +kernel
theorem dX0_waiting_38 : decode cX0_waiting 38 = .ok (.isub, 1) := by decide +kernel
theorem dX0_waiting_39 : decode cX0_waiting 39 = .ok (.invokestatic 90, 3) := by decide +kernel
theorem dX0_waiting_42 : decode cX0_waiting 42 = .ok (.istore 8, 2) := by decide +kernel
theorem dX0_waiting_44 : decode cX0_waiting 44 = .ok (.iload 8, 2) := by decide +kernel
theorem dX0_waiting_46 : decode cX0_waiting 46 = .ok (.iload 7, 2) := by decide +kernel
theorem dX0_waiting_48 : decode cX0_waiting 48 = .ok (.if_icmp .gt 81, 3) := by decide +kernel
theorem dX0_waiting_51 : decode cX0_waiting 51 = .ok (.aload_n 0, 1) := by decide +kernel
theorem dX0_waiting_52 : decode cX0_waiting 52 = .ok (.getfield 14, 3) := by decide +kernel
theorem dX0_waiting_55 : decode cX0_waiting 55 = .ok (.getfield 93, 3) := by decide +kernel
theorem dX0_waiting_58 : decode cX0_waiting 58 = .ok (.aload_n 0, 1) := by decide +kernel
theorem dX0_waiting_59 : decode cX0_waiting 59 = .ok (.getfield 18, 3) := by decide +kernel
theorem dX0_waiting_62 : decode cX0_waiting 62 = .ok (.iload 8, 2) := by decide +kernel
theorem dX0_waiting_64 : decode cX0_waiting 64 = .ok (.iaload, 1) := by decide +kernel
theorem dX0_waiting_65 : decode cX0_waiting 65 = .ok (.iaload, 1) := by decide +kernel
theorem dX0_waiting_66 : decode cX0_waiting 66 = .ok (.iload_n 2, 1) := by decide +kernel
theorem dX0_waiting_67 : decode cX0_waiting 67 = .ok (.iconst (-1), 1) := by decide +kernel
theorem dX0_waiting_68 : decode cX0_waiting 68 = .ok (.ixor, 1) := by decide +kernel
theorem dX0_waiting_69 : decode cX0_waiting 69 = .ok (.iand, 1) := by decide +kernel
theorem dX0_waiting_70 : decode cX0_waiting 70 = .ok (.istore 9, 2) := by decide +kernel
theorem dX0_waiting_72 : decode cX0_waiting 72 = .ok (.iload 9, 2) := by decide +kernel
theorem dX0_waiting_74 : decode cX0_waiting 74 = .ok (.ifCond .eq 49, 3) := by decide +kernel
theorem dX0_waiting_77 : decode cX0_waiting 77 = .ok (.iload 6, 2) := by decide +kernel
theorem dX0_waiting_79 : decode cX0_waiting 79 = .ok (.iload 9, 2) := by decide +kernel
theorem dX0_waiting_81 : decode cX0_waiting 81 = .ok (.ior, 1) := by decide +kernel
theorem dX0_waiting_82 : decode cX0_waiting 82 = .ok (.istore 6, 2) := by decide +kernel
theorem dX0_waiting_84 : decode cX0_waiting 84 = .ok (.iload 6, 2) := by decide +kernel
theorem dX0_waiting_86 : decode cX0_waiting 86 = .ok (.invokestatic 96, 3) := by decide +kernel
theorem dX0_waiting_89 : decode cX0_waiting 89 = .ok (.iload 8, 2) := by decide +kernel
theorem dX0_waiting_91 : decode cX0_waiting 91 = .ok (.iload_n 3, 1) := by decide +kernel
theorem dX0_waiting_92 : decode cX0_waiting 92 = .ok (.iadd, 1) := by decide +kernel
theorem dX0_waiting_93 : decode cX0_waiting 93 = .ok (.iconst 1, 1) := by decide +kernel
theorem dX0_waiting_94 : decode cX0_waiting 94 = .ok (.iadd, 1) := by decide +kernel
theorem dX0_waiting_95 : decode cX0_waiting 95 = .ok (.iload_n 1, 1) := by decide +kernel
theorem dX0_waiting_96 : decode cX0_waiting 96 = .ok (.isub, 1) := by decide +kernel
theorem dX0_waiting_97 : decode cX0_waiting 97 = .ok (.if_icmp .le 5, 3) := by decide +kernel
theorem dX0_waiting_100 : decode cX0_waiting 100 = .ok (.iconst (-1), 1) := by decide +kernel
theorem dX0_waiting_101 : decode cX0_waiting 101 = .ok (.ireturn, 1) := by decide +kernel
theorem dX0_waiting_102 : decode cX0_waiting 102 = .ok (.iload 5, 2) := by decide +kernel
theorem dX0_waiting_104 : decode cX0_waiting 104 = .ok (.aload_n 0, 1) := by decide +kernel
theorem dX0_waiting_105 : decode cX0_waiting 105 = .ok (.getfield 18, 3) := by decide +kernel
theorem dX0_waiting_108 : decode cX0_waiting 108 = .ok (.iload 8, 2) := by decide +kernel
theorem dX0_waiting_110 : decode cX0_waiting 110 = .ok (.iaload, 1) := by decide +kernel
theorem dX0_waiting_111 : decode cX0_waiting 111 = .ok (.iconst 1, 1) := by decide +kernel
theorem dX0_waiting_112 : decode cX0_waiting 112 = .ok (.iadd, 1) := by decide +kernel
theorem dX0_waiting_113 : decode cX0_waiting 113 = .ok (.iconst 4, 1) := by decide +kernel
theorem dX0_waiting_114 : decode cX0_waiting 114 = .ok (.iload 8, 2) := by decide +kernel
theorem dX0_waiting_116 : decode cX0_waiting 116 = .ok (.iconst 3, 1) := by decide +kernel
theorem dX0_waiting_117 : decode cX0_waiting 117 = .ok (.iand, 1) := by decide +kernel
theorem dX0_waiting_118 : decode cX0_waiting 118 = .ok (.imul, 1) := by decide +kernel
theorem dX0_waiting_119 : decode cX0_waiting 119 = .ok (.ishl, 1) := by decide +kernel
theorem dX0_waiting_120 : decode cX0_waiting 120 = .ok (.ior, 1) := by decide +kernel
theorem dX0_waiting_121 : decode cX0_waiting 121 = .ok (.istore 5, 2) := by decide +kernel
theorem dX0_waiting_123 : decode cX0_waiting 123 = .ok (.iinc 8 1, 3) := by decide +kernel
theorem dX0_waiting_126 : decode cX0_waiting 126 = .ok (.goto (-82), 3) := by decide +kernel
theorem dX0_waiting_129 : decode cX0_waiting 129 = .ok (.iload 4, 2) := by decide +kernel
theorem dX0_waiting_131 : decode cX0_waiting 131 = .ok (.bipush 16, 2) := by decide +kernel
theorem dX0_waiting_133 : decode cX0_waiting 133 = .ok (.ishl, 1) := by decide +kernel
theorem dX0_waiting_134 : decode cX0_waiting 134 = .ok (.iload 5, 2) := by decide +kernel
theorem dX0_waiting_136 : decode cX0_waiting 136 = .ok (.ior, 1) := by decide +kernel
theorem dX0_waiting_137 : decode cX0_waiting 137 = .ok (.ireturn, 1) := by decide +kernel
theorem dX10_ballBound_0 : decode cX10_ballBound 0 = .ok (.iconst 0, 1) := by decide +kernel
theorem dX10_ballBound_1 : decode cX10_ballBound 1 = .ok (.istore_n 1, 1) := by decide +kernel
theorem dX10_ballBound_2 : decode cX10_ballBound 2 = .ok (.iconst 0, 1) := by decide +kernel
theorem dX10_ballBound_3 : decode cX10_ballBound 3 = .ok (.istore_n 2, 1) := by decide +kernel
theorem dX10_ballBound_4 : decode cX10_ballBound 4 = .ok (.iload_n 2, 1) := by decide +kernel
theorem dX10_ballBound_5 : decode cX10_ballBound 5 = .ok (.aload_n 0, 1) := by decide +kernel
theorem dX10_ballBound_6 : decode cX10_ballBound 6 = .ok (.getfield 9, 3) := by decide +kernel
theorem dX10_ballBound_9 : decode cX10_ballBound 9 = .ok (.if_icmp .ge 64, 3) := by decide +kernel
theorem dX10_ballBound_12 : decode cX10_ballBound 12 = .ok (.iconst 1, 1) := by decide +kernel
theorem dX10_ballBound_13 : decode cX10_ballBound 13 = .ok (.iload_n 2, 1) := by decide +kernel
theorem dX10_ballBound_14 : decode cX10_ballBound 14 = .ok (.ishl, 1) := by decide +kernel
theorem dX10_ballBound_15 : decode cX10_ballBound 15 = .ok (.istore_n 3, 1) := by decide +kernel
theorem dX10_ballBound_16 : decode cX10_ballBound 16 = .ok (.iconst 1, 1) := by decide +kernel
theorem dX10_ballBound_17 : decode cX10_ballBound 17 = .ok (.istore 4, 2) := by decide +kernel
theorem dX10_ballBound_19 : decode cX10_ballBound 19 = .ok (.iload 4, 2) := by decide +kernel
theorem dX10_ballBound_21 : decode cX10_ballBound 21 = .ok (.aload_n 0, 1) := by decide +kernel
theorem dX10_ballBound_22 : decode cX10_ballBound 22 = .ok (.getfield 9, 3) := by decide +kernel
theorem dX10_ballBound_25 : decode cX10_ballBound 25 = .ok (.if_icmp .ge 42, 3) := by decide +kernel
theorem dX10_ballBound_28 : decode cX10_ballBound 28 = .ok (.aload_n 0, 1) := by decide +kernel
theorem dX10_ballBound_29 : decode cX10_ballBound 29 = .ok (.iload_n 3, 1) := by decide +kernel
theorem dX10_ballBound_30 : decode cX10_ballBound 30 = .ok (.invokestatic 38, 3) := by decide +kernel
theorem dX10_ballBound_33 : decode cX10_ballBound 33 = .ok (.istore_n 3, 1) := by decide +kernel
theorem dX10_ballBound_34 : decode cX10_ballBound 34 = .ok (.iload_n 3, 1) := by decide +kernel
theorem dX10_ballBound_35 : decode cX10_ballBound 35 = .ok (.invokestatic 55, 3) := by decide +kernel
theorem dX10_ballBound_38 : decode cX10_ballBound 38 = .ok (.iconst 1, 1) := by decide +kernel
theorem dX10_ballBound_39 : decode cX10_ballBound 39 = .ok (.isub, 1) := by decide +kernel
theorem dX10_ballBound_40 : decode cX10_ballBound 40 = .ok (.istore 5, 2) := by decide +kernel
theorem dX10_ballBound_42 : decode cX10_ballBound 42 = .ok (.iload_n 1, 1) := by decide +kernel
theorem dX10_ballBound_43 : decode cX10_ballBound 43 = .ok (.iload 5, 2) := by decide +kernel
theorem dX10_ballBound_45 : decode cX10_ballBound 45 = .ok (.iconst 2, 1) := by decide +kernel
theorem dX10_ballBound_46 : decode cX10_ballBound 46 = .ok (.iload 4, 2) := by decide +kernel
theorem dX10_ballBound_48 : decode cX10_ballBound 48 = .ok (.imul, 1) := by decide +kernel
theorem dX10_ballBound_49 : decode cX10_ballBound 49 = .ok (.iadd, 1) := by decide +kernel
theorem dX10_ballBound_50 : decode cX10_ballBound 50 = .ok (.iconst 1, 1) := by decide +kernel
theorem dX10_ballBound_51 : decode cX10_ballBound 51 = .ok (.isub, 1) := by decide +kernel
theorem dX10_ballBound_52 : decode cX10_ballBound 52 = .ok (.iconst 2, 1) := by decide +kernel
theorem dX10_ballBound_53 : decode cX10_ballBound 53 = .ok (.iload 4, 2) := by decide +kernel
theorem dX10_ballBound_55 : decode cX10_ballBound 55 = .ok (.imul, 1) := by decide +kernel
theorem dX10_ballBound_56 : decode cX10_ballBound 56 = .ok (.idiv, 1) := by decide +kernel
theorem dX10_ballBound_57 : decode cX10_ballBound 57 = .ok (.invokestatic 25, 3) := by decide +kernel
theorem dX10_ballBound_60 : decode cX10_ballBound 60 = .ok (.istore_n 1, 1) := by decide +kernel
theorem dX10_ballBound_61 : decode cX10_ballBound 61 = .ok (.iinc 4 1, 3) := by decide +kernel
theorem dX10_ballBound_64 : decode cX10_ballBound 64 = .ok (.goto (-45), 3) := by decide +kernel
theorem dX10_ballBound_67 : decode cX10_ballBound 67 = .ok (.iinc 2 1, 3) := by decide +kernel
theorem dX10_ballBound_70 : decode cX10_ballBound 70 = .ok (.goto (-66), 3) := by decide +kernel
theorem dX10_ballBound_73 : decode cX10_ballBound 73 = .ok (.iload_n 1, 1) := by decide +kernel
theorem dX10_ballBound_74 : decode cX10_ballBound 74 = .ok (.ireturn, 1) := by decide +kernel
theorem dX10_core_0 : decode cX10_core 0 = .ok (.aload_n 0, 1) := by decide +kernel
theorem dX10_core_1 : decode cX10_core 1 = .ok (.invokevirtual 48, 3) := by decide +kernel
theorem dX10_core_4 : decode cX10_core 4 = .ok (.istore_n 1, 1) := by decide +kernel
theorem dX10_core_5 : decode cX10_core 5 = .ok (.iconst 0, 1) := by decide +kernel
theorem dX10_core_6 : decode cX10_core 6 = .ok (.istore_n 2, 1) := by decide +kernel
theorem dX10_core_7 : decode cX10_core 7 = .ok (.iconst 0, 1) := by decide +kernel
theorem dX10_core_8 : decode cX10_core 8 = .ok (.istore_n 3, 1) := by decide +kernel
theorem dX10_core_9 : decode cX10_core 9 = .ok (.iload_n 3, 1) := by decide +kernel
theorem dX10_core_10 : decode cX10_core 10 = .ok (.aload_n 0, 1) := by decide +kernel
theorem dX10_core_11 : decode cX10_core 11 = .ok (.getfield 9, 3) := by decide +kernel
theorem dX10_core_14 : decode cX10_core 14 = .ok (.if_icmp .ge 51, 3) := by decide +kernel
theorem dX10_core_17 : decode cX10_core 17 = .ok (.aload_n 0, 1) := by decide +kernel
theorem dX10_core_18 : decode cX10_core 18 = .ok (.iload_n 1, 1) := by decide +kernel
theorem dX10_core_19 : decode cX10_core 19 = .ok (.iload_n 1, 1) := by decide +kernel
theorem dX10_core_20 : decode cX10_core 20 = .ok (.invokestatic 52, 3) := by decide +kernel
theorem dX10_core_23 : decode cX10_core 23 = .ok (.istore 4, 2) := by decide +kernel
theorem dX10_core_25 : decode cX10_core 25 = .ok (.iload 4, 2) := by decide +kernel
theorem dX10_core_27 : decode cX10_core 27 = .ok (.iconst (-1), 1) := by decide +kernel
theorem dX10_core_28 : decode cX10_core 28 = .ok (.if_icmp .ne 5, 3) := by decide +kernel
theorem dX10_core_31 : decode cX10_core 31 = .ok (.iload_n 2, 1) := by decide +kernel
theorem dX10_core_32 : decode cX10_core 32 = .ok (.ireturn, 1) := by decide +kernel
theorem dX10_core_33 : decode cX10_core 33 = .ok (.iload_n 2, 1) := by decide +kernel
theorem dX10_core_34 : decode cX10_core 34 = .ok (.aload_n 0, 1) := by decide +kernel
theorem dX10_core_35 : decode cX10_core 35 = .ok (.getfield 34, 3) := by decide +kernel
theorem dX10_core_38 : decode cX10_core 38 = .ok (.iload 4, 2) := by decide +kernel
theorem dX10_core_40 : decode cX10_core 40 = .ok (.iaload, 1) := by decide +kernel
theorem dX10_core_41 : decode cX10_core 41 = .ok (.iload_n 1, 1) := by decide +kernel
theorem dX10_core_42 : decode cX10_core 42 = .ok (.iand, 1) := by decide +kernel
theorem dX10_core_43 : decode cX10_core 43 = .ok (.invokestatic 55, 3) := by decide +kernel
theorem dX10_core_46 : decode cX10_core 46 = .ok (.invokestatic 25, 3) := by decide +kernel
theorem dX10_core_49 : decode cX10_core 49 = .ok (.istore_n 2, 1) := by decide +kernel
theorem dX10_core_50 : decode cX10_core 50 = .ok (.iload_n 1, 1) := by decide +kernel
theorem dX10_core_51 : decode cX10_core 51 = .ok (.iconst 1, 1) := by decide +kernel
theorem dX10_core_52 : decode cX10_core 52 = .ok (.iload 4, 2) := by decide +kernel
theorem dX10_core_54 : decode cX10_core 54 = .ok (.ishl, 1) := by decide +kernel
theorem dX10_core_55 : decode cX10_core 55 = .ok (.iconst (-1), 1) := by decide +kernel
theorem dX10_core_56 : decode cX10_core 56 = .ok (.ixor, 1) := by decide +kernel
theorem dX10_core_57 : decode cX10_core 57 = .ok (.iand, 1) := by decide +kernel
theorem dX10_core_58 : decode cX10_core 58 = .ok (.istore_n 1, 1) := by decide +kernel
theorem dX10_core_59 : decode cX10_core 59 = .ok (.iinc 3 1, 3) := by decide +kernel
theorem dX10_core_62 : decode cX10_core 62 = .ok (.goto (-53), 3) := by decide +kernel
theorem dX10_core_65 : decode cX10_core 65 = .ok (.iload_n 2, 1) := by decide +kernel
theorem dX10_core_66 : decode cX10_core 66 = .ok (.ireturn, 1) := by decide +kernel
theorem dX10_diameter_0 : decode cX10_diameter 0 = .ok (.iconst 0, 1) := by decide +kernel
theorem dX10_diameter_1 : decode cX10_diameter 1 = .ok (.istore_n 1, 1) := by decide +kernel
theorem dX10_diameter_2 : decode cX10_diameter 2 = .ok (.iconst 0, 1) := by decide +kernel
theorem dX10_diameter_3 : decode cX10_diameter 3 = .ok (.istore_n 2, 1) := by decide +kernel
theorem dX10_diameter_4 : decode cX10_diameter 4 = .ok (.iload_n 2, 1) := by decide +kernel
theorem dX10_diameter_5 : decode cX10_diameter 5 = .ok (.aload_n 0, 1) := by decide +kernel
theorem dX10_diameter_6 : decode cX10_diameter 6 = .ok (.getfield 9, 3) := by decide +kernel
theorem dX10_diameter_9 : decode cX10_diameter 9 = .ok (.if_icmp .ge 45, 3) := by decide +kernel
theorem dX10_diameter_12 : decode cX10_diameter 12 = .ok (.iconst 0, 1) := by decide +kernel
theorem dX10_diameter_13 : decode cX10_diameter 13 = .ok (.istore_n 3, 1) := by decide +kernel
theorem dX10_diameter_14 : decode cX10_diameter 14 = .ok (.iload_n 3, 1) := by decide +kernel
theorem dX10_diameter_15 : decode cX10_diameter 15 = .ok (.iload_n 2, 1) := by decide +kernel
theorem dX10_diameter_16 : decode cX10_diameter 16 = .ok (.if_icmp .ge 32, 3) := by decide +kernel
theorem dX10_diameter_19 : decode cX10_diameter 19 = .ok (.aload_n 0, 1) := by decide +kernel
theorem dX10_diameter_20 : decode cX10_diameter 20 = .ok (.iload_n 2, 1) := by decide +kernel
theorem dX10_diameter_21 : decode cX10_diameter 21 = .ok (.iload_n 3, 1) := by decide +kernel
theorem dX10_diameter_22 : decode cX10_diameter 22 = .ok (.invokestatic 44, 3) := by decide +kernel
theorem dX10_diameter_25 : decode cX10_diameter 25 = .ok (.istore 4, 2) := by decide +kernel
theorem dX10_diameter_27 : decode cX10_diameter 27 = .ok (.iload 4, 2) := by decide +kernel
theorem dX10_diameter_29 : decode cX10_diameter 29 = .ok (.iconst (-1), 1) := by decide +kernel
theorem dX10_diameter_30 : decode cX10_diameter 30 = .ok (.if_icmp .ne 5, 3) := by decide +kernel
theorem dX10_diameter_33 : decode cX10_diameter 33 = .ok (.iconst (-1), 1) := by decide +kernel
theorem dX10_diameter_34 : decode cX10_diameter 34 = .ok (.ireturn, 1) := by decide +kernel
theorem dX10_diameter_35 : decode cX10_diameter 35 = .ok (.iload_n 1, 1) := by decide +kernel
theorem dX10_diameter_36 : decode cX10_diameter 36 = .ok (.iload 4, 2) := by decide +kernel
theorem dX10_diameter_38 : decode cX10_diameter 38 = .ok (.invokestatic 25, 3) := by decide +kernel
theorem dX10_diameter_41 : decode cX10_diameter 41 = .ok (.istore_n 1, 1) := by decide +kernel
theorem dX10_diameter_42 : decode cX10_diameter 42 = .ok (.iinc 3 1, 3) := by decide +kernel
theorem dX10_diameter_45 : decode cX10_diameter 45 = .ok (.goto (-31), 3) := by decide +kernel
theorem dX10_diameter_48 : decode cX10_diameter 48 = .ok (.iinc 2 1, 3) := by decide +kernel
theorem dX10_diameter_51 : decode cX10_diameter 51 = .ok (.goto (-47), 3) := by decide +kernel
theorem dX10_diameter_54 : decode cX10_diameter 54 = .ok (.iload_n 1, 1) := by decide +kernel
theorem dX10_diameter_55 : decode cX10_diameter 55 = .ok (.ireturn, 1) := by decide +kernel
theorem dX10_distance_0 : decode cX10_distance 0 = .ok (.iconst 1, 1) := by decide +kernel
theorem dX10_distance_1 : decode cX10_distance 1 = .ok (.iload_n 1, 1) := by decide +kernel
theorem dX10_distance_2 : decode cX10_distance 2 = .ok (.ishl, 1) := by decide +kernel
theorem dX10_distance_3 : decode cX10_distance 3 = .ok (.istore_n 3, 1) := by decide +kernel
theorem dX10_distance_4 : decode cX10_distance 4 = .ok (.iconst 0, 1) := by decide +kernel
theorem dX10_distance_5 : decode cX10_distance 5 = .ok (.istore 4, 2) := by decide +kernel
theorem dX10_distance_7 : decode cX10_distance 7 = .ok (.iload 4, 2) := by decide +kernel
theorem dX10_distance_9 : decode cX10_distance 9 = .ok (.aload_n 0, 1) := by decide +kernel
theorem dX10_distance_10 : decode cX10_distance 10 = .ok (.getfield 9, 3) := by decide +kernel
theorem dX10_distance_13 : decode cX10_distance 13 = .ok (.if_icmp .ge 26, 3) := by decide +kernel
theorem dX10_distance_16 : decode cX10_distance 16 = .ok (.iload_n 3, 1) := by decide +kernel
theorem dX10_distance_17 : decode cX10_distance 17 = .ok (.iload_n 2, 1) := by decide +kernel
theorem dX10_distance_18 : decode cX10_distance 18 = .ok (.ishr, 1) := by decide +kernel
theorem dX10_distance_19 : decode cX10_distance 19 = .ok (.iconst 1, 1) := by decide +kernel
theorem dX10_distance_20 : decode cX10_distance 20 = .ok (.iand, 1) := by decide +kernel
theorem dX10_distance_21 : decode cX10_distance 21 = .ok (.ifCond .eq 6, 3) := by decide +kernel
theorem dX10_distance_24 : decode cX10_distance 24 = .ok (.iload 4, 2) := by decide +kernel
theorem dX10_distance_26 : decode cX10_distance 26 = .ok (.ireturn, 1) := by decide +kernel
theorem dX10_distance_27 : decode cX10_distance 27 = .ok (.aload_n 0, 1) := by decide +kernel
theorem dX10_distance_28 : decode cX10_distance 28 = .ok (.iload_n 3, 1) := by decide +kernel
theorem dX10_distance_29 : decode cX10_distance 29 = .ok (.invokestatic 38, 3) := by decide +kernel
theorem dX10_distance_32 : decode cX10_distance 32 = .ok (.istore_n 3, 1) := by decide +kernel
theorem dX10_distance_33 : decode cX10_distance 33 = .ok (.iinc 4 1, 3) := by decide +kernel
theorem dX10_distance_36 : decode cX10_distance 36 = .ok (.goto (-29), 3) := by decide +kernel
theorem dX10_distance_39 : decode cX10_distance 39 = .ok (.iconst (-1), 1) := by decide +kernel
theorem dX10_distance_40 : decode cX10_distance 40 = .ok (.ireturn, 1) := by decide +kernel
theorem dX10_fewestLines_0 : decode cX10_fewestLines 0 = .ok (.iconst (-1), 1) := by decide +kernel
theorem dX10_fewestLines_1 : decode cX10_fewestLines 1 = .ok (.istore_n 3, 1) := by decide +kernel
theorem dX10_fewestLines_2 : decode cX10_fewestLines 2 = .ok (.bipush 9, 2) := by decide +kernel
theorem dX10_fewestLines_4 : decode cX10_fewestLines 4 = .ok (.istore 4, 2) := by decide +kernel
theorem dX10_fewestLines_6 : decode cX10_fewestLines 6 = .ok (.iconst 0, 1) := by decide +kernel
theorem dX10_fewestLines_7 : decode cX10_fewestLines 7 = .ok (.istore 5, 2) := by decide +kernel
theorem dX10_fewestLines_9 : decode cX10_fewestLines 9 = .ok (.iload 5, 2) := by decide +kernel
theorem dX10_fewestLines_11 : decode cX10_fewestLines 11 = .ok (.aload_n 0, 1) := by decide +kernel
theorem dX10_fewestLines_12 : decode cX10_fewestLines 12 = .ok (.getfield 9, 3) := by decide +kernel
theorem dX10_fewestLines_15 : decode cX10_fewestLines 15 = .ok (.if_icmp .ge 46, 3) := by decide +kernel
theorem dX10_fewestLines_18 : decode cX10_fewestLines 18 = .ok (.aload_n 0, 1) := by decide +kernel
theorem dX10_fewestLines_19 : decode cX10_fewestLines 19 = .ok (.getfield 34, 3) := by decide +kernel
theorem dX10_fewestLines_22 : decode cX10_fewestLines 22 = .ok (.iload 5, 2) := by decide +kernel
theorem dX10_fewestLines_24 : decode cX10_fewestLines 24 = .ok (.iaload, 1) := by decide +kernel
theorem dX10_fewestLines_25 : decode cX10_fewestLines 25 = .ok (.iload_n 2, 1) := by decide +kernel
theorem dX10_fewestLines_26 : decode cX10_fewestLines 26 = .ok (.iand, 1) := by decide +kernel
theorem dX10_fewestLines_27 : decode cX10_fewestLines 27 = .ok (.invokestatic 55, 3) := by decide +kernel
theorem dX10_fewestLines_30 : decode cX10_fewestLines 30 = .ok (.istore 6, 2) := by decide +kernel
theorem dX10_fewestLines_32 : decode cX10_fewestLines 32 = .ok (.iload_n 1, 1) := by decide +kernel
theorem dX10_fewestLines_33 : decode cX10_fewestLines 33 = .ok (.iload 5, 2) := by decide +kernel
theorem dX10_fewestLines_35 : decode cX10_fewestLines 35 = .ok (.ishr, 1) := by decide +kernel
theorem dX10_fewestLines_36 : decode cX10_fewestLines 36 = .ok (.iconst 1, 1) := by decide +kernel
theorem dX10_fewestLines_37 : decode cX10_fewestLines 37 = .ok (.iand, 1) := by decide +kernel
theorem dX10_fewestLines_38 : decode cX10_fewestLines 38 = .ok (.ifCond .eq 17, 3) := by decide +kernel
theorem dX10_fewestLines_41 : decode cX10_fewestLines 41 = .ok (.iload 6, 2) := by decide +kernel
theorem dX10_fewestLines_43 : decode cX10_fewestLines 43 = .ok (.iload 4, 2) := by decide +kernel
theorem dX10_fewestLines_45 : decode cX10_fewestLines 45 = .ok (.if_icmp .ge 10, 3) := by decide +kernel
theorem dX10_fewestLines_48 : decode cX10_fewestLines 48 = .ok (.iload 5, 2) := by decide +kernel
theorem dX10_fewestLines_50 : decode cX10_fewestLines 50 = .ok (.istore_n 3, 1) := by decide +kernel
theorem dX10_fewestLines_51 : decode cX10_fewestLines 51 = .ok (.iload 6, 2) := by decide +kernel
theorem dX10_fewestLines_53 : decode cX10_fewestLines 53 = .ok (.istore 4, 2) := by decide +kernel
theorem dX10_fewestLines_55 : decode cX10_fewestLines 55 = .ok (.iinc 5 1, 3) := by decide +kernel
theorem dX10_fewestLines_58 : decode cX10_fewestLines 58 = .ok (.goto (-49), 3) := by decide +kernel
theorem dX10_fewestLines_61 : decode cX10_fewestLines 61 = .ok (.iload_n 3, 1) := by decide +kernel
theorem dX10_fewestLines_62 : decode cX10_fewestLines 62 = .ok (.ireturn, 1) := by decide +kernel
theorem dX10_grown_0 : decode cX10_grown 0 = .ok (.iload_n 1, 1) := by decide +kernel
theorem dX10_grown_1 : decode cX10_grown 1 = .ok (.istore_n 2, 1) := by decide +kernel
theorem dX10_grown_2 : decode cX10_grown 2 = .ok (.iconst 0, 1) := by decide +kernel
theorem dX10_grown_3 : decode cX10_grown 3 = .ok (.istore_n 3, 1) := by decide +kernel
theorem dX10_grown_4 : decode cX10_grown 4 = .ok (.iload_n 3, 1) := by decide +kernel
theorem dX10_grown_5 : decode cX10_grown 5 = .ok (.aload_n 0, 1) := by decide +kernel
theorem dX10_grown_6 : decode cX10_grown 6 = .ok (.getfield 9, 3) := by decide +kernel
theorem dX10_grown_9 : decode cX10_grown 9 = .ok (.if_icmp .ge 26, 3) := by decide +kernel
theorem dX10_grown_12 : decode cX10_grown 12 = .ok (.iload_n 1, 1) := by decide +kernel
theorem dX10_grown_13 : decode cX10_grown 13 = .ok (.iload_n 3, 1) := by decide +kernel
theorem dX10_grown_14 : decode cX10_grown 14 = .ok (.ishr, 1) := by decide +kernel
theorem dX10_grown_15 : decode cX10_grown 15 = .ok (.iconst 1, 1) := by decide +kernel
theorem dX10_grown_16 : decode cX10_grown 16 = .ok (.iand, 1) := by decide +kernel
theorem dX10_grown_17 : decode cX10_grown 17 = .ok (.ifCond .eq 12, 3) := by decide +kernel
theorem dX10_grown_20 : decode cX10_grown 20 = .ok (.iload_n 2, 1) := by decide +kernel
theorem dX10_grown_21 : decode cX10_grown 21 = .ok (.aload_n 0, 1) := by decide +kernel
theorem dX10_grown_22 : decode cX10_grown 22 = .ok (.getfield 34, 3) := by decide +kernel
theorem dX10_grown_25 : decode cX10_grown 25 = .ok (.iload_n 3, 1) := by decide +kernel
theorem dX10_grown_26 : decode cX10_grown 26 = .ok (.iaload, 1) := by decide +kernel
theorem dX10_grown_27 : decode cX10_grown 27 = .ok (.ior, 1) := by decide +kernel
theorem dX10_grown_28 : decode cX10_grown 28 = .ok (.istore_n 2, 1) := by decide +kernel
theorem dX10_grown_29 : decode cX10_grown 29 = .ok (.iinc 3 1, 3) := by decide +kernel
theorem dX10_grown_32 : decode cX10_grown 32 = .ok (.goto (-28), 3) := by decide +kernel
theorem dX10_grown_35 : decode cX10_grown 35 = .ok (.iload_n 2, 1) := by decide +kernel
theorem dX10_grown_36 : decode cX10_grown 36 = .ok (.ireturn, 1) := by decide +kernel
theorem dX10_lineBound_0 : decode cX10_lineBound 0 = .ok (.iload_n 1, 1) := by decide +kernel
theorem dX10_lineBound_1 : decode cX10_lineBound 1 = .ok (.ifCond .ne 12, 3) := by decide +kernel
theorem dX10_lineBound_4 : decode cX10_lineBound 4 = .ok (.aload_n 0, 1) := by decide +kernel
theorem dX10_lineBound_5 : decode cX10_lineBound 5 = .ok (.invokestatic 60, 3) := by decide +kernel
theorem dX10_lineBound_8 : decode cX10_lineBound 8 = .ok (.iconst 1, 1) := by decide +kernel
theorem dX10_lineBound_9 : decode cX10_lineBound 9 = .ok (.iadd, 1) := by decide +kernel
theorem dX10_lineBound_10 : decode cX10_lineBound 10 = .ok (.iconst 2, 1) := by decide +kernel
theorem dX10_lineBound_11 : decode cX10_lineBound 11 = .ok (.idiv, 1) := by decide +kernel
theorem dX10_lineBound_12 : decode cX10_lineBound 12 = .ok (.ireturn, 1) := by decide +kernel
theorem dX10_lineBound_13 : decode cX10_lineBound 13 = .ok (.iload_n 1, 1) := by decide +kernel
theorem dX10_lineBound_14 : decode cX10_lineBound 14 = .ok (.iconst 2, 1) := by decide +kernel
theorem dX10_lineBound_15 : decode cX10_lineBound 15 = .ok (.if_icmp .ne 14, 3) := by decide +kernel
theorem dX10_lineBound_18 : decode cX10_lineBound 18 = .ok (.aload_n 0, 1) := by decide +kernel
theorem dX10_lineBound_19 : decode cX10_lineBound 19 = .ok (.invokestatic 64, 3) := by decide +kernel
theorem dX10_lineBound_22 : decode cX10_lineBound 22 = .ok (.iconst 1, 1) := by decide +kernel
theorem dX10_lineBound_23 : decode cX10_lineBound 23 = .ok (.iadd, 1) := by decide +kernel
theorem dX10_lineBound_24 : decode cX10_lineBound 24 = .ok (.iconst 2, 1) := by decide +kernel
theorem dX10_lineBound_25 : decode cX10_lineBound 25 = .ok (.idiv, 1) := by decide +kernel
theorem dX10_lineBound_26 : decode cX10_lineBound 26 = .ok (.goto 7, 3) := by decide +kernel
theorem dX10_lineBound_29 : decode cX10_lineBound 29 = .ok (.aload_n 0, 1) := by decide +kernel
theorem dX10_lineBound_30 : decode cX10_lineBound 30 = .ok (.invokestatic 67, 3) := by decide +kernel
theorem dX10_lineBound_33 : decode cX10_lineBound 33 = .ok (.ireturn, 1) := by decide +kernel
theorem dX10_mostLinesAtPoint_0 : decode cX10_mostLinesAtPoint 0 = .ok (.iconst 0, 1) := by decide +kernel
theorem dX10_mostLinesAtPoint_1 : decode cX10_mostLinesAtPoint 1 = .ok (.istore_n 1, 1) := by decide +kernel
theorem dX10_mostLinesAtPoint_2 : decode cX10_mostLinesAtPoint 2 = .ok (.iconst 0, 1) := by decide +kernel
theorem dX10_mostLinesAtPoint_3 : decode cX10_mostLinesAtPoint 3 = .ok (.istore_n 2, 1) := by decide +kernel
theorem dX10_mostLinesAtPoint_4 : decode cX10_mostLinesAtPoint 4 = .ok (.iload_n 2, 1) := by decide +kernel
theorem dX10_mostLinesAtPoint_5 : decode cX10_mostLinesAtPoint 5 = .ok (.aload_n 0, 1) := by decide +kernel
theorem dX10_mostLinesAtPoint_6 : decode cX10_mostLinesAtPoint 6 = .ok (.getfield 9, 3) := by decide +kernel
theorem dX10_mostLinesAtPoint_9 : decode cX10_mostLinesAtPoint 9 = .ok (.if_icmp .ge 19, 3) := by decide +kernel
theorem dX10_mostLinesAtPoint_12 : decode cX10_mostLinesAtPoint 12 = .ok (.iload_n 1, 1) := by decide +kernel
theorem dX10_mostLinesAtPoint_13 : decode cX10_mostLinesAtPoint 13 = .ok (.aload_n 0, 1) := by decide +kernel
theorem dX10_mostLinesAtPoint_14 : decode cX10_mostLinesAtPoint 14 = .ok (.iload_n 2, 1) := by decide +kernel
theorem dX10_mostLinesAtPoint_15 : decode cX10_mostLinesAtPoint 15 = .ok (.invokevirtual 30, 3) := by decide +kernel
theorem dX10_mostLinesAtPoint_18 : decode cX10_mostLinesAtPoint 18 = .ok (.invokestatic 25, 3) := by decide +kernel
theorem dX10_mostLinesAtPoint_21 : decode cX10_mostLinesAtPoint 21 = .ok (.istore_n 1, 1) := by decide +kernel
theorem dX10_mostLinesAtPoint_22 : decode cX10_mostLinesAtPoint 22 = .ok (.iinc 2 1, 3) := by decide +kernel
theorem dX10_mostLinesAtPoint_25 : decode cX10_mostLinesAtPoint 25 = .ok (.goto (-21), 3) := by decide +kernel
theorem dX10_mostLinesAtPoint_28 : decode cX10_mostLinesAtPoint 28 = .ok (.iload_n 1, 1) := by decide +kernel
theorem dX10_mostLinesAtPoint_29 : decode cX10_mostLinesAtPoint 29 = .ok (.ireturn, 1) := by decide +kernel
theorem dX10_mostWeightAtPoint_0 : decode cX10_mostWeightAtPoint 0 = .ok (.iconst 0, 1) := by decide +kernel
theorem dX10_mostWeightAtPoint_1 : decode cX10_mostWeightAtPoint 1 = .ok (.istore_n 1, 1) := by decide +kernel
theorem dX10_mostWeightAtPoint_2 : decode cX10_mostWeightAtPoint 2 = .ok (.iconst 0, 1) := by decide +kernel
theorem dX10_mostWeightAtPoint_3 : decode cX10_mostWeightAtPoint 3 = .ok (.istore_n 2, 1) := by decide +kernel
theorem dX10_mostWeightAtPoint_4 : decode cX10_mostWeightAtPoint 4 = .ok (.iload_n 2, 1) := by decide +kernel
theorem dX10_mostWeightAtPoint_5 : decode cX10_mostWeightAtPoint 5 = .ok (.aload_n 0, 1) := by decide +kernel
theorem dX10_mostWeightAtPoint_6 : decode cX10_mostWeightAtPoint 6 = .ok (.getfield 9, 3) := by decide +kernel
theorem dX10_mostWeightAtPoint_9 : decode cX10_mostWeightAtPoint 9 = .ok (.if_icmp .ge 19, 3) := by decide +kernel
theorem dX10_mostWeightAtPoint_12 : decode cX10_mostWeightAtPoint 12 = .ok (.iload_n 1, 1) := by decide +kernel
theorem dX10_mostWeightAtPoint_13 : decode cX10_mostWeightAtPoint 13 = .ok (.aload_n 0, 1) := by decide +kernel
theorem dX10_mostWeightAtPoint_14 : decode cX10_mostWeightAtPoint 14 = .ok (.iload_n 2, 1) := by decide +kernel
theorem dX10_mostWeightAtPoint_15 : decode cX10_mostWeightAtPoint 15 = .ok (.invokestatic 15, 3) := by decide +kernel
theorem dX10_mostWeightAtPoint_18 : decode cX10_mostWeightAtPoint 18 = .ok (.invokestatic 25, 3) := by decide +kernel
theorem dX10_mostWeightAtPoint_21 : decode cX10_mostWeightAtPoint 21 = .ok (.istore_n 1, 1) := by decide +kernel
theorem dX10_mostWeightAtPoint_22 : decode cX10_mostWeightAtPoint 22 = .ok (.iinc 2 1, 3) := by decide +kernel
theorem dX10_mostWeightAtPoint_25 : decode cX10_mostWeightAtPoint 25 = .ok (.goto (-21), 3) := by decide +kernel
theorem dX10_mostWeightAtPoint_28 : decode cX10_mostWeightAtPoint 28 = .ok (.iload_n 1, 1) := by decide +kernel
theorem dX10_mostWeightAtPoint_29 : decode cX10_mostWeightAtPoint 29 = .ok (.ireturn, 1) := by decide +kernel
theorem dX10_partCount_0 : decode cX10_partCount 0 = .ok (.iconst 0, 1) := by decide +kernel
theorem dX10_partCount_1 : decode cX10_partCount 1 = .ok (.istore_n 1, 1) := by decide +kernel
theorem dX10_partCount_2 : decode cX10_partCount 2 = .ok (.iconst 0, 1) := by decide +kernel
theorem dX10_partCount_3 : decode cX10_partCount 3 = .ok (.istore_n 2, 1) := by decide +kernel
theorem dX10_partCount_4 : decode cX10_partCount 4 = .ok (.iconst 0, 1) := by decide +kernel
theorem dX10_partCount_5 : decode cX10_partCount 5 = .ok (.istore_n 3, 1) := by decide +kernel
theorem dX10_partCount_6 : decode cX10_partCount 6 = .ok (.iload_n 3, 1) := by decide +kernel
theorem dX10_partCount_7 : decode cX10_partCount 7 = .ok (.aload_n 0, 1) := by decide +kernel
theorem dX10_partCount_8 : decode cX10_partCount 8 = .ok (.getfield 9, 3) := by decide +kernel
theorem dX10_partCount_11 : decode cX10_partCount 11 = .ok (.if_icmp .ge 28, 3) := by decide +kernel
theorem dX10_partCount_14 : decode cX10_partCount 14 = .ok (.iload_n 2, 1) := by decide +kernel
theorem dX10_partCount_15 : decode cX10_partCount 15 = .ok (.iload_n 3, 1) := by decide +kernel
theorem dX10_partCount_16 : decode cX10_partCount 16 = .ok (.ishr, 1) := by decide +kernel
theorem dX10_partCount_17 : decode cX10_partCount 17 = .ok (.iconst 1, 1) := by decide +kernel
theorem dX10_partCount_18 : decode cX10_partCount 18 = .ok (.iand, 1) := by decide +kernel
theorem dX10_partCount_19 : decode cX10_partCount 19 = .ok (.ifCond .ne 14, 3) := by decide +kernel
theorem dX10_partCount_22 : decode cX10_partCount 22 = .ok (.iinc 1 1, 3) := by decide +kernel
theorem dX10_partCount_25 : decode cX10_partCount 25 = .ok (.iload_n 2, 1) := by decide +kernel
theorem dX10_partCount_26 : decode cX10_partCount 26 = .ok (.aload_n 0, 1) := by decide +kernel
theorem dX10_partCount_27 : decode cX10_partCount 27 = .ok (.iload_n 3, 1) := by decide +kernel
theorem dX10_partCount_28 : decode cX10_partCount 28 = .ok (.invokestatic 41, 3) := by decide +kernel
theorem dX10_partCount_31 : decode cX10_partCount 31 = .ok (.ior, 1) := by decide +kernel
theorem dX10_partCount_32 : decode cX10_partCount 32 = .ok (.istore_n 2, 1) := by decide +kernel
theorem dX10_partCount_33 : decode cX10_partCount 33 = .ok (.iinc 3 1, 3) := by decide +kernel
theorem dX10_partCount_36 : decode cX10_partCount 36 = .ok (.goto (-30), 3) := by decide +kernel
theorem dX10_partCount_39 : decode cX10_partCount 39 = .ok (.iload_n 1, 1) := by decide +kernel
theorem dX10_partCount_40 : decode cX10_partCount 40 = .ok (.ireturn, 1) := by decide +kernel
theorem dX10_partOf_0 : decode cX10_partOf 0 = .ok (.iconst 1, 1) := by decide +kernel
theorem dX10_partOf_1 : decode cX10_partOf 1 = .ok (.iload_n 1, 1) := by decide +kernel
theorem dX10_partOf_2 : decode cX10_partOf 2 = .ok (.ishl, 1) := by decide +kernel
theorem dX10_partOf_3 : decode cX10_partOf 3 = .ok (.istore_n 2, 1) := by decide +kernel
theorem dX10_partOf_4 : decode cX10_partOf 4 = .ok (.iconst 1, 1) := by decide +kernel
theorem dX10_partOf_5 : decode cX10_partOf 5 = .ok (.istore_n 3, 1) := by decide +kernel
theorem dX10_partOf_6 : decode cX10_partOf 6 = .ok (.iload_n 3, 1) := by decide +kernel
theorem dX10_partOf_7 : decode cX10_partOf 7 = .ok (.aload_n 0, 1) := by decide +kernel
theorem dX10_partOf_8 : decode cX10_partOf 8 = .ok (.getfield 9, 3) := by decide +kernel
theorem dX10_partOf_11 : decode cX10_partOf 11 = .ok (.if_icmp .ge 15, 3) := by decide +kernel
theorem dX10_partOf_14 : decode cX10_partOf 14 = .ok (.aload_n 0, 1) := by decide +kernel
theorem dX10_partOf_15 : decode cX10_partOf 15 = .ok (.iload_n 2, 1) := by decide +kernel
theorem dX10_partOf_16 : decode cX10_partOf 16 = .ok (.invokestatic 38, 3) := by decide +kernel
theorem dX10_partOf_19 : decode cX10_partOf 19 = .ok (.istore_n 2, 1) := by decide +kernel
theorem dX10_partOf_20 : decode cX10_partOf 20 = .ok (.iinc 3 1, 3) := by decide +kernel
theorem dX10_partOf_23 : decode cX10_partOf 23 = .ok (.goto (-17), 3) := by decide +kernel
theorem dX10_partOf_26 : decode cX10_partOf 26 = .ok (.iload_n 2, 1) := by decide +kernel
theorem dX10_partOf_27 : decode cX10_partOf 27 = .ok (.ireturn, 1) := by decide +kernel
theorem dX10_shrinkAway_0 : decode cX10_shrinkAway 0 = .ok (.iconst 0, 1) := by decide +kernel
theorem dX10_shrinkAway_1 : decode cX10_shrinkAway 1 = .ok (.istore_n 1, 1) := by decide +kernel
theorem dX10_shrinkAway_2 : decode cX10_shrinkAway 2 = .ok (.aload_n 0, 1) := by decide +kernel
theorem dX10_shrinkAway_3 : decode cX10_shrinkAway 3 = .ok (.getfield 9, 3) := by decide +kernel
theorem dX10_shrinkAway_6 : decode cX10_shrinkAway 6 = .ok (.istore_n 2, 1) := by decide +kernel
theorem dX10_shrinkAway_7 : decode cX10_shrinkAway 7 = .ok (.iconst 0, 1) := by decide +kernel
theorem dX10_shrinkAway_8 : decode cX10_shrinkAway 8 = .ok (.istore_n 3, 1) := by decide +kernel
theorem dX10_shrinkAway_9 : decode cX10_shrinkAway 9 = .ok (.iload_n 3, 1) := by decide +kernel
theorem dX10_shrinkAway_10 : decode cX10_shrinkAway 10 = .ok (.iload_n 2, 1) := by decide +kernel
theorem dX10_shrinkAway_11 : decode cX10_shrinkAway 11 = .ok (.if_icmp .ge 82, 3) := by decide +kernel
theorem dX10_shrinkAway_14 : decode cX10_shrinkAway 14 = .ok (.aload_n 0, 1) := by decide +kernel
theorem dX10_shrinkAway_15 : decode cX10_shrinkAway 15 = .ok (.invokevirtual 48, 3) := by decide +kernel
theorem dX10_shrinkAway_18 : decode cX10_shrinkAway 18 = .ok (.istore 4, 2) := by decide +kernel
theorem dX10_shrinkAway_20 : decode cX10_shrinkAway 20 = .ok (.aload_n 0, 1) := by decide +kernel
theorem dX10_shrinkAway_21 : decode cX10_shrinkAway 21 = .ok (.iload 4, 2) := by decide +kernel
theorem dX10_shrinkAway_23 : decode cX10_shrinkAway 23 = .ok (.iload 4, 2) := by decide +kernel
theorem dX10_shrinkAway_25 : decode cX10_shrinkAway 25 = .ok (.invokestatic 52, 3) := by decide +kernel
theorem dX10_shrinkAway_28 : decode cX10_shrinkAway 28 = .ok (.istore 5, 2) := by decide +kernel
theorem dX10_shrinkAway_30 : decode cX10_shrinkAway 30 = .ok (.iload 5, 2) := by decide +kernel
theorem dX10_shrinkAway_32 : decode cX10_shrinkAway 32 = .ok (.iconst (-1), 1) := by decide +kernel
theorem dX10_shrinkAway_33 : decode cX10_shrinkAway 33 = .ok (.if_icmp .ne 5, 3) := by decide +kernel
theorem dX10_shrinkAway_36 : decode cX10_shrinkAway 36 = .ok (.iload_n 1, 1) := by decide +kernel
theorem dX10_shrinkAway_37 : decode cX10_shrinkAway 37 = .ok (.ireturn, 1) := by decide +kernel
theorem dX10_shrinkAway_38 : decode cX10_shrinkAway 38 = .ok (.iload_n 1, 1) := by decide +kernel
theorem dX10_shrinkAway_39 : decode cX10_shrinkAway 39 = .ok (.aload_n 0, 1) := by decide +kernel
theorem dX10_shrinkAway_40 : decode cX10_shrinkAway 40 = .ok (.iload 5, 2) := by decide +kernel
theorem dX10_shrinkAway_42 : decode cX10_shrinkAway 42 = .ok (.invokevirtual 30, 3) := by decide +kernel
theorem dX10_shrinkAway_45 : decode cX10_shrinkAway 45 = .ok (.invokestatic 25, 3) := by decide +kernel
theorem dX10_shrinkAway_48 : decode cX10_shrinkAway 48 = .ok (.istore_n 1, 1) := by decide +kernel
theorem dX10_shrinkAway_49 : decode cX10_shrinkAway 49 = .ok (.aload_n 0, 1) := by decide +kernel
theorem dX10_shrinkAway_50 : decode cX10_shrinkAway 50 = .ok (.aload_n 0, 1) := by decide +kernel
theorem dX10_shrinkAway_51 : decode cX10_shrinkAway 51 = .ok (.getfield 34, 3) := by decide +kernel
theorem dX10_shrinkAway_54 : decode cX10_shrinkAway 54 = .ok (.iload 5, 2) := by decide +kernel
theorem dX10_shrinkAway_56 : decode cX10_shrinkAway 56 = .ok (.iaload, 1) := by decide +kernel
theorem dX10_shrinkAway_57 : decode cX10_shrinkAway 57 = .ok (.iload 4, 2) := by decide +kernel
theorem dX10_shrinkAway_59 : decode cX10_shrinkAway 59 = .ok (.invokestatic 52, 3) := by decide +kernel
theorem dX10_shrinkAway_62 : decode cX10_shrinkAway 62 = .ok (.istore 6, 2) := by decide +kernel
theorem dX10_shrinkAway_64 : decode cX10_shrinkAway 64 = .ok (.iload 6, 2) := by decide +kernel
theorem dX10_shrinkAway_66 : decode cX10_shrinkAway 66 = .ok (.iconst (-1), 1) := by decide +kernel
theorem dX10_shrinkAway_67 : decode cX10_shrinkAway 67 = .ok (.if_icmp .ne 12, 3) := by decide +kernel
theorem dX10_shrinkAway_70 : decode cX10_shrinkAway 70 = .ok (.aload_n 0, 1) := by decide +kernel
theorem dX10_shrinkAway_71 : decode cX10_shrinkAway 71 = .ok (.iload 5, 2) := by decide +kernel
theorem dX10_shrinkAway_73 : decode cX10_shrinkAway 73 = .ok (.invokevirtual 70, 3) := by decide +kernel
theorem dX10_shrinkAway_76 : decode cX10_shrinkAway 76 = .ok (.goto 11, 3) := by decide +kernel
theorem dX10_shrinkAway_79 : decode cX10_shrinkAway 79 = .ok (.aload_n 0, 1) := by decide +kernel
theorem dX10_shrinkAway_80 : decode cX10_shrinkAway 80 = .ok (.iload 5, 2) := by decide +kernel
theorem dX10_shrinkAway_82 : decode cX10_shrinkAway 82 = .ok (.iload 6, 2) := by decide +kernel
theorem dX10_shrinkAway_84 : decode cX10_shrinkAway 84 = .ok (.invokevirtual 74, 3) := by decide +kernel
theorem dX10_shrinkAway_87 : decode cX10_shrinkAway 87 = .ok (.iinc 3 1, 3) := by decide +kernel
theorem dX10_shrinkAway_90 : decode cX10_shrinkAway 90 = .ok (.goto (-81), 3) := by decide +kernel
theorem dX10_shrinkAway_93 : decode cX10_shrinkAway 93 = .ok (.iload_n 1, 1) := by decide +kernel
theorem dX10_shrinkAway_94 : decode cX10_shrinkAway 94 = .ok (.ireturn, 1) := by decide +kernel
theorem dX10_thinnestHalf_0 : decode cX10_thinnestHalf 0 = .ok (.iconst 0, 1) := by decide +kernel
theorem dX10_thinnestHalf_1 : decode cX10_thinnestHalf 1 = .ok (.istore_n 1, 1) := by decide +kernel
theorem dX10_thinnestHalf_2 : decode cX10_thinnestHalf 2 = .ok (.ldc 78, 2) := by decide +kernel
theorem dX10_thinnestHalf_4 : decode cX10_thinnestHalf 4 = .ok (.istore_n 2, 1) := by decide +kernel
theorem dX10_thinnestHalf_5 : decode cX10_thinnestHalf 5 = .ok (.iconst 0, 1) := by decide +kernel
theorem dX10_thinnestHalf_6 : decode cX10_thinnestHalf 6 = .ok (.istore_n 3, 1) := by decide +kernel
theorem dX10_thinnestHalf_7 : decode cX10_thinnestHalf 7 = .ok (.iload_n 3, 1) := by decide +kernel
theorem dX10_thinnestHalf_8 : decode cX10_thinnestHalf 8 = .ok (.aload_n 0, 1) := by decide +kernel
theorem dX10_thinnestHalf_9 : decode cX10_thinnestHalf 9 = .ok (.invokevirtual 48, 3) := by decide +kernel
theorem dX10_thinnestHalf_12 : decode cX10_thinnestHalf 12 = .ok (.if_icmp .gt 40, 3) := by decide +kernel
theorem dX10_thinnestHalf_15 : decode cX10_thinnestHalf 15 = .ok (.iload_n 3, 1) := by decide +kernel
theorem dX10_thinnestHalf_16 : decode cX10_thinnestHalf 16 = .ok (.invokestatic 55, 3) := by decide +kernel
theorem dX10_thinnestHalf_19 : decode cX10_thinnestHalf 19 = .ok (.aload_n 0, 1) := by decide +kernel
theorem dX10_thinnestHalf_20 : decode cX10_thinnestHalf 20 = .ok (.getfield 9, 3) := by decide +kernel
theorem dX10_thinnestHalf_23 : decode cX10_thinnestHalf 23 = .ok (.iconst 2, 1) := by decide +kernel
theorem dX10_thinnestHalf_24 : decode cX10_thinnestHalf 24 = .ok (.idiv, 1) := by decide +kernel
theorem dX10_thinnestHalf_25 : decode cX10_thinnestHalf 25 = .ok (.if_icmp .ne 21, 3) := by decide +kernel
theorem dX10_thinnestHalf_28 : decode cX10_thinnestHalf 28 = .ok (.aload_n 0, 1) := by decide +kernel
theorem dX10_thinnestHalf_29 : decode cX10_thinnestHalf 29 = .ok (.iload_n 3, 1) := by decide +kernel
theorem dX10_thinnestHalf_30 : decode cX10_thinnestHalf 30 = .ok (.invokestatic 79, 3) := by decide +kernel
theorem dX10_thinnestHalf_33 : decode cX10_thinnestHalf 33 = .ok (.istore 4, 2) := by decide +kernel
theorem dX10_thinnestHalf_35 : decode cX10_thinnestHalf 35 = .ok (.iload 4, 2) := by decide +kernel
theorem dX10_thinnestHalf_37 : decode cX10_thinnestHalf 37 = .ok (.iload_n 2, 1) := by decide +kernel
theorem dX10_thinnestHalf_38 : decode cX10_thinnestHalf 38 = .ok (.if_icmp .ge 8, 3) := by decide +kernel
theorem dX10_thinnestHalf_41 : decode cX10_thinnestHalf 41 = .ok (.iload 4, 2) := by decide +kernel
theorem dX10_thinnestHalf_43 : decode cX10_thinnestHalf 43 = .ok (.istore_n 2, 1) := by decide +kernel
theorem dX10_thinnestHalf_44 : decode cX10_thinnestHalf 44 = .ok (.iload_n 3, 1) := by decide +kernel
theorem dX10_thinnestHalf_45 : decode cX10_thinnestHalf 45 = .ok (.istore_n 1, 1) := by decide +kernel
theorem dX10_thinnestHalf_46 : decode cX10_thinnestHalf 46 = .ok (.iinc 3 1, 3) := by decide +kernel
theorem dX10_thinnestHalf_49 : decode cX10_thinnestHalf 49 = .ok (.goto (-42), 3) := by decide +kernel
