/-! decode rows -/
theorem dX6_cutWeight_56 : decode cX6_cutWeight 56 = .ok (.ishr, 1) := by decide +kernel
theorem dX6_cutWeight_57 : decode cX6_cutWeight 57 = .ok (.iconst 1, 1) := by decide +kernel
theorem dX6_cutWeight_58 : decode cX6_cutWeight 58 = .ok (.iand, 1) := by decide +kernel
theorem dX6_cutWeight_59 : decode cX6_cutWeight 59 = .ok (.ifCond .eq 13, 3) := by decide +kernel
theorem dX6_cutWeight_62 : decode cX6_cutWeight 62 = .ok (.iload_n 2, 1) := by decide +kernel
theorem dX6_cutWeight_63 : decode cX6_cutWeight 63 = .ok (.aload_n 0, 1) := by decide +kernel
theorem dX6_cutWeight_64 : decode cX6_cutWeight 64 = .ok (.iload_n 3, 1) := by decide +kernel
theorem dX6_cutWeight_65 : decode cX6_cutWeight 65 = .ok (.iload 5, 2) := by decide +kernel
theorem dX6_cutWeight_67 : decode cX6_cutWeight 67 = .ok (.invokevirtual 64, 3) := by decide +kernel
theorem dX6_cutWeight_70 : decode cX6_cutWeight 70 = .ok (.iadd, 1) := by decide +kernel
theorem dX6_cutWeight_71 : decode cX6_cutWeight 71 = .ok (.istore_n 2, 1) := by decide +kernel
theorem dX6_cutWeight_72 : decode cX6_cutWeight 72 = .ok (.iinc 5 1, 3) := by decide +kernel
theorem dX6_cutWeight_75 : decode cX6_cutWeight 75 = .ok (.goto (-32), 3) := by decide +kernel
theorem dX6_cutWeight_78 : decode cX6_cutWeight 78 = .ok (.iinc 3 1, 3) := by decide +kernel
theorem dX6_cutWeight_81 : decode cX6_cutWeight 81 = .ok (.goto (-77), 3) := by decide +kernel
theorem dX6_cutWeight_84 : decode cX6_cutWeight 84 = .ok (.iload_n 2, 1) := by decide +kernel
theorem dX6_cutWeight_85 : decode cX6_cutWeight 85 = .ok (.ireturn, 1) := by decide +kernel
theorem dX6_firstStep_0 : decode cX6_firstStep 0 = .ok (.iload_n 0, 1) := by decide +kernel
theorem dX6_firstStep_1 : decode cX6_firstStep 1 = .ok (.invokestatic 9, 3) := by decide +kernel
theorem dX6_firstStep_4 : decode cX6_firstStep 4 = .ok (.ifCond .eq 7, 3) := by decide +kernel
theorem dX6_firstStep_7 : decode cX6_firstStep 7 = .ok (.iconst 0, 1) := by decide +kernel
theorem dX6_firstStep_8 : decode cX6_firstStep 8 = .ok (.goto 4, 3) := by decide +kernel
theorem dX6_firstStep_11 : decode cX6_firstStep 11 = .ok (.iconst 1, 1) := by decide +kernel
theorem dX6_firstStep_12 : decode cX6_firstStep 12 = .ok (.ireturn, 1) := by decide +kernel
theorem dX6_fringeSize_0 : decode cX6_fringeSize 0 = .ok (.aload_n 0, 1) := by decide +kernel
theorem dX6_fringeSize_1 : decode cX6_fringeSize 1 = .ok (.iload_n 1, 1) := by decide +kernel
theorem dX6_fringeSize_2 : decode cX6_fringeSize 2 = .ok (.iconst (-1), 1) := by decide +kernel
theorem dX6_fringeSize_3 : decode cX6_fringeSize 3 = .ok (.ixor, 1) := by decide +kernel
theorem dX6_fringeSize_4 : decode cX6_fringeSize 4 = .ok (.iload_n 1, 1) := by decide +kernel
theorem dX6_fringeSize_5 : decode cX6_fringeSize 5 = .ok (.invokestatic 67, 3) := by decide +kernel
theorem dX6_fringeSize_8 : decode cX6_fringeSize 8 = .ok (.invokestatic 46, 3) := by decide +kernel
theorem dX6_fringeSize_11 : decode cX6_fringeSize 11 = .ok (.ireturn, 1) := by decide +kernel
theorem dX6_gateSize_0 : decode cX6_gateSize 0 = .ok (.aload_n 0, 1) := by decide +kernel
theorem dX6_gateSize_1 : decode cX6_gateSize 1 = .ok (.iload_n 1, 1) := by decide +kernel
theorem dX6_gateSize_2 : decode cX6_gateSize 2 = .ok (.iload_n 1, 1) := by decide +kernel
theorem dX6_gateSize_3 : decode cX6_gateSize 3 = .ok (.iconst (-1), 1) := by decide +kernel
theorem dX6_gateSize_4 : decode cX6_gateSize 4 = .ok (.ixor, 1) := by decide +kernel
theorem dX6_gateSize_5 : decode cX6_gateSize 5 = .ok (.invokestatic 67, 3) := by decide +kernel
theorem dX6_gateSize_8 : decode cX6_gateSize 8 = .ok (.invokestatic 46, 3) := by decide +kernel
theorem dX6_gateSize_11 : decode cX6_gateSize 11 = .ok (.ireturn, 1) := by decide +kernel
theorem dX6_isTakenOut_0 : decode cX6_isTakenOut 0 = .ok (.iload_n 0, 1) := by decide +kernel
theorem dX6_isTakenOut_1 : decode cX6_isTakenOut 1 = .ok (.iconst 5, 1) := by decide +kernel
theorem dX6_isTakenOut_2 : decode cX6_isTakenOut 2 = .ok (.if_icmp .eq 9, 3) := by decide +kernel
theorem dX6_isTakenOut_5 : decode cX6_isTakenOut 5 = .ok (.iload_n 0, 1) := by decide +kernel
theorem dX6_isTakenOut_6 : decode cX6_isTakenOut 6 = .ok (.bipush 6, 2) := by decide +kernel
theorem dX6_isTakenOut_8 : decode cX6_isTakenOut 8 = .ok (.if_icmp .ne 7, 3) := by decide +kernel
theorem dX6_isTakenOut_11 : decode cX6_isTakenOut 11 = .ok (.iconst 1, 1) := by decide +kernel
theorem dX6_isTakenOut_12 : decode cX6_isTakenOut 12 = .ok (.goto 4, 3) := by decide +kernel
theorem dX6_isTakenOut_15 : decode cX6_isTakenOut 15 = .ok (.iconst 0, 1) := by decide +kernel
theorem dX6_isTakenOut_16 : decode cX6_isTakenOut 16 = .ok (.ireturn, 1) := by decide +kernel
theorem dX6_joined_0 : decode cX6_joined 0 = .ok (.iload_n 0, 1) := by decide +kernel
theorem dX6_joined_1 : decode cX6_joined 1 = .ok (.iconst 3, 1) := by decide +kernel
theorem dX6_joined_2 : decode cX6_joined 2 = .ok (.if_icmp .eq 14, 3) := by decide +kernel
theorem dX6_joined_5 : decode cX6_joined 5 = .ok (.iload_n 0, 1) := by decide +kernel
theorem dX6_joined_6 : decode cX6_joined 6 = .ok (.iconst 4, 1) := by decide +kernel
theorem dX6_joined_7 : decode cX6_joined 7 = .ok (.if_icmp .eq 9, 3) := by decide +kernel
theorem dX6_joined_10 : decode cX6_joined 10 = .ok (.iload_n 0, 1) := by decide +kernel
theorem dX6_joined_11 : decode cX6_joined 11 = .ok (.bipush 6, 2) := by decide +kernel
theorem dX6_joined_13 : decode cX6_joined 13 = .ok (.if_icmp .ne 7, 3) := by decide +kernel
theorem dX6_joined_16 : decode cX6_joined 16 = .ok (.iconst 1, 1) := by decide +kernel
theorem dX6_joined_17 : decode cX6_joined 17 = .ok (.goto 4, 3) := by decide +kernel
theorem dX6_joined_20 : decode cX6_joined 20 = .ok (.iconst 0, 1) := by decide +kernel
theorem dX6_joined_21 : decode cX6_joined 21 = .ok (.istore_n 3, 1) := by decide +kernel
theorem dX6_joined_22 : decode cX6_joined 22 = .ok (.iload_n 3, 1) := by decide +kernel
theorem dX6_joined_23 : decode cX6_joined 23 = .ok (.ifCond .eq 9, 3) := by decide +kernel
theorem dX6_joined_26 : decode cX6_joined 26 = .ok (.iload_n 1, 1) := by decide +kernel
theorem dX6_joined_27 : decode cX6_joined 27 = .ok (.iload_n 2, 1) := by decide +kernel
theorem dX6_joined_28 : decode cX6_joined 28 = .ok (.iadd, 1) := by decide +kernel
theorem dX6_joined_29 : decode cX6_joined 29 = .ok (.goto 8, 3) := by decide +kernel
theorem dX6_joined_32 : decode cX6_joined 32 = .ok (.iload_n 1, 1) := by decide +kernel
theorem dX6_joined_33 : decode cX6_joined 33 = .ok (.iload_n 2, 1) := by decide +kernel
theorem dX6_joined_34 : decode cX6_joined 34 = .ok (.invokestatic 15, 3) := by decide +kernel
theorem dX6_joined_37 : decode cX6_joined 37 = .ok (.ireturn, 1) := by decide +kernel
theorem dX6_neighbours_0 : decode cX6_neighbours 0 = .ok (.aload_n 0, 1) := by decide +kernel
theorem dX6_neighbours_1 : decode cX6_neighbours 1 = .ok (.getfield 61, 3) := by decide +kernel
theorem dX6_neighbours_4 : decode cX6_neighbours 4 = .ok (.iload_n 2, 1) := by decide +kernel
theorem dX6_neighbours_5 : decode cX6_neighbours 5 = .ok (.iaload, 1) := by decide +kernel
theorem dX6_neighbours_6 : decode cX6_neighbours 6 = .ok (.istore_n 3, 1) := by decide +kernel
theorem dX6_neighbours_7 : decode cX6_neighbours 7 = .ok (.iconst 0, 1) := by decide +kernel
theorem dX6_neighbours_8 : decode cX6_neighbours 8 = .ok (.istore 4, 2) := by decide +kernel
theorem dX6_neighbours_10 : decode cX6_neighbours 10 = .ok (.iconst 0, 1) := by decide +kernel
theorem dX6_neighbours_11 : decode cX6_neighbours 11 = .ok (.istore 5, 2) := by decide +kernel
theorem dX6_neighbours_13 : decode cX6_neighbours 13 = .ok (.iload 5, 2) := by decide +kernel
theorem dX6_neighbours_15 : decode cX6_neighbours 15 = .ok (.aload_n 0, 1) := by decide +kernel
theorem dX6_neighbours_16 : decode cX6_neighbours 16 = .ok (.getfield 57, 3) := by decide +kernel
theorem dX6_neighbours_19 : decode cX6_neighbours 19 = .ok (.if_icmp .ge 72, 3) := by decide +kernel
theorem dX6_neighbours_22 : decode cX6_neighbours 22 = .ok (.iload_n 3, 1) := by decide +kernel
theorem dX6_neighbours_23 : decode cX6_neighbours 23 = .ok (.iload_n 1, 1) := by decide +kernel
theorem dX6_neighbours_24 : decode cX6_neighbours 24 = .ok (.iand, 1) := by decide +kernel
theorem dX6_neighbours_25 : decode cX6_neighbours 25 = .ok (.iload 4, 2) := by decide +kernel
theorem dX6_neighbours_27 : decode cX6_neighbours 27 = .ok (.iconst (-1), 1) := by decide +kernel
theorem dX6_neighbours_28 : decode cX6_neighbours 28 = .ok (.ixor, 1) := by decide +kernel
theorem dX6_neighbours_29 : decode cX6_neighbours 29 = .ok (.iand, 1) := by decide +kernel
theorem dX6_neighbours_30 : decode cX6_neighbours 30 = .ok (.istore 6, 2) := by decide +kernel
theorem dX6_neighbours_32 : decode cX6_neighbours 32 = .ok (.iload 6, 2) := by decide +kernel
theorem dX6_neighbours_34 : decode cX6_neighbours 34 = .ok (.ifCond .ne 6, 3) := by decide +kernel
theorem dX6_neighbours_37 : decode cX6_neighbours 37 = .ok (.goto 54, 3) := by decide +kernel
theorem dX6_neighbours_40 : decode cX6_neighbours 40 = .ok (.iload 4, 2) := by decide +kernel
theorem dX6_neighbours_42 : decode cX6_neighbours 42 = .ok (.iload 6, 2) := by decide +kernel
theorem dX6_neighbours_44 : decode cX6_neighbours 44 = .ok (.ior, 1) := by decide +kernel
theorem dX6_neighbours_45 : decode cX6_neighbours 45 = .ok (.istore 4, 2) := by decide +kernel
theorem dX6_neighbours_47 : decode cX6_neighbours 47 = .ok (.iconst 0, 1) := by decide +kernel
theorem dX6_neighbours_48 : decode cX6_neighbours 48 = .ok (.istore 7, 2) := by decide +kernel
theorem dX6_neighbours_50 : decode cX6_neighbours 50 = .ok (.iload 7, 2) := by decide +kernel
theorem dX6_neighbours_52 : decode cX6_neighbours 52 = .ok (.aload_n 0, 1) := by decide +kernel
theorem dX6_neighbours_53 : decode cX6_neighbours 53 = .ok (.getfield 57, 3) := by decide +kernel
theorem dX6_neighbours_56 : decode cX6_neighbours 56 = .ok (.if_icmp .ge 29, 3) := by decide +kernel
theorem dX6_neighbours_59 : decode cX6_neighbours 59 = .ok (.iload 6, 2) := by decide +kernel
theorem dX6_neighbours_61 : decode cX6_neighbours 61 = .ok (.iload 7, 2) := by decide +kernel
theorem dX6_neighbours_63 : decode cX6_neighbours 63 = .ok (.ishr, 1) := by decide +kernel
theorem dX6_neighbours_64 : decode cX6_neighbours 64 = .ok (.iconst 1, 1) := by decide +kernel
theorem dX6_neighbours_65 : decode cX6_neighbours 65 = .ok (.iand, 1) := by decide +kernel
theorem dX6_neighbours_66 : decode cX6_neighbours 66 = .ok (.ifCond .eq 13, 3) := by decide +kernel
theorem dX6_neighbours_69 : decode cX6_neighbours 69 = .ok (.iload_n 3, 1) := by decide +kernel
theorem dX6_neighbours_70 : decode cX6_neighbours 70 = .ok (.aload_n 0, 1) := by decide +kernel
theorem dX6_neighbours_71 : decode cX6_neighbours 71 = .ok (.getfield 61, 3) := by decide +kernel
theorem dX6_neighbours_74 : decode cX6_neighbours 74 = .ok (.iload 7, 2) := by decide +kernel
theorem dX6_neighbours_76 : decode cX6_neighbours 76 = .ok (.iaload, 1) := by decide +kernel
theorem dX6_neighbours_77 : decode cX6_neighbours 77 = .ok (.ior, 1) := by decide +kernel
theorem dX6_neighbours_78 : decode cX6_neighbours 78 = .ok (.istore_n 3, 1) := by decide +kernel
theorem dX6_neighbours_79 : decode cX6_neighbours 79 = .ok (.iinc 7 1, 3) := by decide +kernel
theorem dX6_neighbours_82 : decode cX6_neighbours 82 = .ok (.goto (-32), 3) := by decide +kernel
theorem dX6_neighbours_85 : decode cX6_neighbours 85 = .ok (.iinc 5 1, 3) := by decide +kernel
theorem dX6_neighbours_88 : decode cX6_neighbours 88 = .ok (.goto (-75), 3) := by decide +kernel
theorem dX6_neighbours_91 : decode cX6_neighbours 91 = .ok (.iload_n 3, 1) := by decide +kernel
theorem dX6_neighbours_92 : decode cX6_neighbours 92 = .ok (.iload_n 1, 1) := by decide +kernel
theorem dX6_neighbours_93 : decode cX6_neighbours 93 = .ok (.iconst (-1), 1) := by decide +kernel
theorem dX6_neighbours_94 : decode cX6_neighbours 94 = .ok (.ixor, 1) := by decide +kernel
theorem dX6_neighbours_95 : decode cX6_neighbours 95 = .ok (.iand, 1) := by decide +kernel
theorem dX6_neighbours_96 : decode cX6_neighbours 96 = .ok (.iconst 1, 1) := by decide +kernel
theorem dX6_neighbours_97 : decode cX6_neighbours 97 = .ok (.iload_n 2, 1) := by decide +kernel
theorem dX6_neighbours_98 : decode cX6_neighbours 98 = .ok (.ishl, 1) := by decide +kernel
theorem dX6_neighbours_99 : decode cX6_neighbours 99 = .ok (.iconst (-1), 1) := by decide +kernel
theorem dX6_neighbours_100 : decode cX6_neighbours 100 = .ok (.ixor, 1) := by decide +kernel
theorem dX6_neighbours_101 : decode cX6_neighbours 101 = .ok (.iand, 1) := by decide +kernel
theorem dX6_neighbours_102 : decode cX6_neighbours 102 = .ok (.ireturn, 1) := by decide +kernel
theorem dX6_newLines_0 : decode cX6_newLines 0 = .ok (.aload_n 0, 1) := by decide +kernel
theorem dX6_newLines_1 : decode cX6_newLines 1 = .ok (.iload_n 1, 1) := by decide +kernel
theorem dX6_newLines_2 : decode cX6_newLines 2 = .ok (.iload_n 2, 1) := by decide +kernel
theorem dX6_newLines_3 : decode cX6_newLines 3 = .ok (.invokestatic 42, 3) := by decide +kernel
theorem dX6_newLines_6 : decode cX6_newLines 6 = .ok (.istore_n 3, 1) := by decide +kernel
theorem dX6_newLines_7 : decode cX6_newLines 7 = .ok (.iconst 0, 1) := by decide +kernel
theorem dX6_newLines_8 : decode cX6_newLines 8 = .ok (.istore 4, 2) := by decide +kernel
theorem dX6_newLines_10 : decode cX6_newLines 10 = .ok (.iconst 0, 1) := by decide +kernel
theorem dX6_newLines_11 : decode cX6_newLines 11 = .ok (.istore 5, 2) := by decide +kernel
theorem dX6_newLines_13 : decode cX6_newLines 13 = .ok (.iload 5, 2) := by decide +kernel
theorem dX6_newLines_15 : decode cX6_newLines 15 = .ok (.aload_n 0, 1) := by decide +kernel
theorem dX6_newLines_16 : decode cX6_newLines 16 = .ok (.getfield 57, 3) := by decide +kernel
theorem dX6_newLines_19 : decode cX6_newLines 19 = .ok (.if_icmp .ge 55, 3) := by decide +kernel
theorem dX6_newLines_22 : decode cX6_newLines 22 = .ok (.iload_n 3, 1) := by decide +kernel
theorem dX6_newLines_23 : decode cX6_newLines 23 = .ok (.iload 5, 2) := by decide +kernel
theorem dX6_newLines_25 : decode cX6_newLines 25 = .ok (.ishr, 1) := by decide +kernel
theorem dX6_newLines_26 : decode cX6_newLines 26 = .ok (.iconst 1, 1) := by decide +kernel
theorem dX6_newLines_27 : decode cX6_newLines 27 = .ok (.iand, 1) := by decide +kernel
theorem dX6_newLines_28 : decode cX6_newLines 28 = .ok (.ifCond .ne 7, 3) := by decide +kernel
theorem dX6_newLines_31 : decode cX6_newLines 31 = .ok (.iconst 0, 1) := by decide +kernel
theorem dX6_newLines_32 : decode cX6_newLines 32 = .ok (.goto 9, 3) := by decide +kernel
theorem dX6_newLines_35 : decode cX6_newLines 35 = .ok (.iload_n 3, 1) := by decide +kernel
theorem dX6_newLines_36 : decode cX6_newLines 36 = .ok (.iload 5, 2) := by decide +kernel
theorem dX6_newLines_38 : decode cX6_newLines 38 = .ok (.invokestatic 70, 3) := by decide +kernel
theorem dX6_newLines_41 : decode cX6_newLines 41 = .ok (.istore 6, 2) := by decide +kernel
theorem dX6_newLines_43 : decode cX6_newLines 43 = .ok (.iload 6, 2) := by decide +kernel
theorem dX6_newLines_45 : decode cX6_newLines 45 = .ok (.ifCond .eq 23, 3) := by decide +kernel
theorem dX6_newLines_48 : decode cX6_newLines 48 = .ok (.iload 4, 2) := by decide +kernel
theorem dX6_newLines_50 : decode cX6_newLines 50 = .ok (.iload 6, 2) := by decide +kernel
theorem dX6_newLines_52 : decode cX6_newLines 52 = .ok (.aload_n 0, 1) := by decide +kernel
theorem dX6_newLines_53 : decode cX6_newLines 53 = .ok (.iload_n 1, 1) := by decide +kernel
theorem dX6_newLines_54 : decode cX6_newLines 54 = .ok (.iload 5, 2) := by decide +kernel
theorem dX6_newLines_56 : decode cX6_newLines 56 = .ok (.invokestatic 42, 3) := by decide +kernel
theorem dX6_newLines_59 : decode cX6_newLines 59 = .ok (.iconst (-1), 1) := by decide +kernel
theorem dX6_newLines_60 : decode cX6_newLines 60 = .ok (.ixor, 1) := by decide +kernel
theorem dX6_newLines_61 : decode cX6_newLines 61 = .ok (.iand, 1) := by decide +kernel
theorem dX6_newLines_62 : decode cX6_newLines 62 = .ok (.invokestatic 46, 3) := by decide +kernel
theorem dX6_newLines_65 : decode cX6_newLines 65 = .ok (.iadd, 1) := by decide +kernel
theorem dX6_newLines_66 : decode cX6_newLines 66 = .ok (.istore 4, 2) := by decide +kernel
theorem dX6_newLines_68 : decode cX6_newLines 68 = .ok (.iinc 5 1, 3) := by decide +kernel
theorem dX6_newLines_71 : decode cX6_newLines 71 = .ok (.goto (-58), 3) := by decide +kernel
theorem dX6_newLines_74 : decode cX6_newLines 74 = .ok (.iload 4, 2) := by decide +kernel
theorem dX6_newLines_76 : decode cX6_newLines 76 = .ok (.ireturn, 1) := by decide +kernel
theorem dX6_of_0 : decode cX6_of 0 = .ok (.iload_n 1, 1) := by decide +kernel
theorem dX6_of_1 : decode cX6_of 1 = .ok (.tableswitch 68 1 6 #[39, 68, 68, 45, 51, 61], 39) := by decide +kernel
theorem dX6_of_40 : decode cX6_of 40 = .ok (.aload_n 0, 1) := by decide +kernel
theorem dX6_of_41 : decode cX6_of 41 = .ok (.iload_n 2, 1) := by decide +kernel
theorem dX6_of_42 : decode cX6_of 42 = .ok (.invokestatic 35, 3) := by decide +kernel
theorem dX6_of_45 : decode cX6_of 45 = .ok (.ireturn, 1) := by decide +kernel
theorem dX6_of_46 : decode cX6_of 46 = .ok (.aload_n 0, 1) := by decide +kernel
theorem dX6_of_47 : decode cX6_of 47 = .ok (.iload_n 2, 1) := by decide +kernel
theorem dX6_of_48 : decode cX6_of 48 = .ok (.invokestatic 39, 3) := by decide +kernel
theorem dX6_of_51 : decode cX6_of 51 = .ok (.ireturn, 1) := by decide +kernel
theorem dX6_of_52 : decode cX6_of 52 = .ok (.aload_n 0, 1) := by decide +kernel
theorem dX6_of_53 : decode cX6_of 53 = .ok (.iload_n 2, 1) := by decide +kernel
theorem dX6_of_54 : decode cX6_of 54 = .ok (.iload_n 3, 1) := by decide +kernel
theorem dX6_of_55 : decode cX6_of 55 = .ok (.invokestatic 42, 3) := by decide +kernel
theorem dX6_of_58 : decode cX6_of 58 = .ok (.invokestatic 46, 3) := by decide +kernel
theorem dX6_of_61 : decode cX6_of 61 = .ok (.ireturn, 1) := by decide +kernel
theorem dX6_of_62 : decode cX6_of 62 = .ok (.aload_n 0, 1) := by decide +kernel
theorem dX6_of_63 : decode cX6_of 63 = .ok (.iload_n 2, 1) := by decide +kernel
theorem dX6_of_64 : decode cX6_of 64 = .ok (.iload_n 3, 1) := by decide +kernel
theorem dX6_of_65 : decode cX6_of 65 = .ok (.invokestatic 51, 3) := by decide +kernel
theorem dX6_of_68 : decode cX6_of 68 = .ok (.ireturn, 1) := by decide +kernel
theorem dX6_of_69 : decode cX6_of 69 = .ok (.aload_n 0, 1) := by decide +kernel
theorem dX6_of_70 : decode cX6_of 70 = .ok (.iload_n 2, 1) := by decide +kernel
theorem dX6_of_71 : decode cX6_of 71 = .ok (.invokestatic 54, 3) := by decide +kernel
theorem dX6_of_74 : decode cX6_of 74 = .ok (.ireturn, 1) := by decide +kernel
theorem dX6_withLineInto_0 : decode cX6_withLineInto 0 = .ok (.iconst 0, 1) := by decide +kernel
theorem dX6_withLineInto_1 : decode cX6_withLineInto 1 = .ok (.istore_n 3, 1) := by decide +kernel
theorem dX6_withLineInto_2 : decode cX6_withLineInto 2 = .ok (.iconst 0, 1) := by decide +kernel
theorem dX6_withLineInto_3 : decode cX6_withLineInto 3 = .ok (.istore 4, 2) := by decide +kernel
theorem dX6_withLineInto_5 : decode cX6_withLineInto 5 = .ok (.iload 4, 2) := by decide +kernel
theorem dX6_withLineInto_7 : decode cX6_withLineInto 7 = .ok (.aload_n 0, 1) := by decide +kernel
theorem dX6_withLineInto_8 : decode cX6_withLineInto 8 = .ok (.getfield 57, 3) := by decide +kernel
theorem dX6_withLineInto_11 : decode cX6_withLineInto 11 = .ok (.if_icmp .ge 37, 3) := by decide +kernel
theorem dX6_withLineInto_14 : decode cX6_withLineInto 14 = .ok (.iload_n 1, 1) := by decide +kernel
theorem dX6_withLineInto_15 : decode cX6_withLineInto 15 = .ok (.iload 4, 2) := by decide +kernel
theorem dX6_withLineInto_17 : decode cX6_withLineInto 17 = .ok (.ishr, 1) := by decide +kernel
theorem dX6_withLineInto_18 : decode cX6_withLineInto 18 = .ok (.iconst 1, 1) := by decide +kernel
theorem dX6_withLineInto_19 : decode cX6_withLineInto 19 = .ok (.iand, 1) := by decide +kernel
theorem dX6_withLineInto_20 : decode cX6_withLineInto 20 = .ok (.ifCond .eq 22, 3) := by decide +kernel
theorem dX6_withLineInto_23 : decode cX6_withLineInto 23 = .ok (.aload_n 0, 1) := by decide +kernel
theorem dX6_withLineInto_24 : decode cX6_withLineInto 24 = .ok (.getfield 61, 3) := by decide +kernel
theorem dX6_withLineInto_27 : decode cX6_withLineInto 27 = .ok (.iload 4, 2) := by decide +kernel
theorem dX6_withLineInto_29 : decode cX6_withLineInto 29 = .ok (.iaload, 1) := by decide +kernel
theorem dX6_withLineInto_30 : decode cX6_withLineInto 30 = .ok (.iload_n 2, 1) := by decide +kernel
theorem dX6_withLineInto_31 : decode cX6_withLineInto 31 = .ok (.iand, 1) := by decide +kernel
theorem dX6_withLineInto_32 : decode cX6_withLineInto 32 = .ok (.ifCond .eq 10, 3) := by decide +kernel
theorem dX6_withLineInto_35 : decode cX6_withLineInto 35 = .ok (.iload_n 3, 1) := by decide +kernel
theorem dX6_withLineInto_36 : decode cX6_withLineInto 36 = .ok (.iconst 1, 1) := by decide +kernel
theorem dX6_withLineInto_37 : decode cX6_withLineInto 37 = .ok (.iload 4, 2) := by decide +kernel
theorem dX6_withLineInto_39 : decode cX6_withLineInto 39 = .ok (.ishl, 1) := by decide +kernel
theorem dX6_withLineInto_40 : decode cX6_withLineInto 40 = .ok (.ior, 1) := by decide +kernel
theorem dX6_withLineInto_41 : decode cX6_withLineInto 41 = .ok (.istore_n 3, 1) := by decide +kernel
theorem dX6_withLineInto_42 : decode cX6_withLineInto 42 = .ok (.iinc 4 1, 3) := by decide +kernel
theorem dX6_withLineInto_45 : decode cX6_withLineInto 45 = .ok (.goto (-40), 3) := by decide +kernel
theorem dX6_withLineInto_48 : decode cX6_withLineInto 48 = .ok (.iload_n 3, 1) := by decide +kernel
theorem dX6_withLineInto_49 : decode cX6_withLineInto 49 = .ok (.ireturn, 1) := by decide +kernel
theorem dX7_blame_0 : decode cX7_blame 0 = .ok (.aload_n 0, 1) := by decide +kernel
theorem dX7_blame_1 : decode cX7_blame 1 = .ok (.iload_n 1, 1) := by decide +kernel
theorem dX7_blame_2 : decode cX7_blame 2 = .ok (.putfield 26, 3) := by decide +kernel
theorem dX7_blame_5 : decode cX7_blame 5 = .ok (.aload_n 0, 1) := by decide +kernel
theorem dX7_blame_6 : decode cX7_blame 6 = .ok (.aload_n 0, 1) := by decide +kernel
theorem dX7_blame_7 : decode cX7_blame 7 = .ok (.getfield 101, 3) := by decide +kernel
theorem dX7_blame_10 : decode cX7_blame 10 = .ok (.putfield 18, 3) := by decide +kernel
theorem dX7_blame_13 : decode cX7_blame 13 = .ok (.iconst 0, 1) := by decide +kernel
theorem dX7_blame_14 : decode cX7_blame 14 = .ok (.ireturn, 1) := by decide +kernel
theorem dX7_init_0 : decode cX7_init 0 = .ok (.aload_n 0, 1) := by decide +kernel
theorem dX7_init_1 : decode cX7_init 1 = .ok (.invokespecial 3, 3) := by decide +kernel
theorem dX7_init_4 : decode cX7_init 4 = .ok (.aload_n 0, 1) := by decide +kernel
theorem dX7_init_5 : decode cX7_init 5 = .ok (.new 9, 3) := by decide +kernel
theorem dX7_init_8 : decode cX7_init 8 = .ok (.dup, 1) := by decide +kernel
theorem dX7_init_9 : decode cX7_init 9 = .ok (.invokespecial 11, 3) := by decide +kernel
theorem dX7_init_12 : decode cX7_init 12 = .ok (.putfield 12, 3) := by decide +kernel
theorem dX7_init_15 : decode cX7_init 15 = .ok (.aload_n 0, 1) := by decide +kernel
theorem dX7_init_16 : decode cX7_init 16 = .ok (.iconst (-1), 1) := by decide +kernel
theorem dX7_init_17 : decode cX7_init 17 = .ok (.putfield 18, 3) := by decide +kernel
theorem dX7_init_20 : decode cX7_init 20 = .ok (.aload_n 0, 1) := by decide +kernel
theorem dX7_init_21 : decode cX7_init 21 = .ok (.aload_n 1, 1) := by decide +kernel
theorem dX7_init_22 : decode cX7_init 22 = .ok (.putfield 22, 3) := by decide +kernel
theorem dX7_init_25 : decode cX7_init 25 = .ok (.return_, 1) := by decide +kernel
theorem dX7_isBlank_0 : decode cX7_isBlank 0 = .ok (.iload_n 0, 1) := by decide +kernel
theorem dX7_isBlank_1 : decode cX7_isBlank 1 = .ok (.bipush 32, 2) := by decide +kernel
theorem dX7_isBlank_3 : decode cX7_isBlank 3 = .ok (.if_icmp .eq 9, 3) := by decide +kernel
theorem dX7_isBlank_6 : decode cX7_isBlank 6 = .ok (.iload_n 0, 1) := by decide +kernel
theorem dX7_isBlank_7 : decode cX7_isBlank 7 = .ok (.bipush 10, 2) := by decide +kernel
theorem dX7_isBlank_9 : decode cX7_isBlank 9 = .ok (.if_icmp .ne 7, 3) := by decide +kernel
theorem dX7_isBlank_12 : decode cX7_isBlank 12 = .ok (.iconst 1, 1) := by decide +kernel
theorem dX7_isBlank_13 : decode cX7_isBlank 13 = .ok (.goto 4, 3) := by decide +kernel
theorem dX7_isBlank_16 : decode cX7_isBlank 16 = .ok (.iconst 0, 1) := by decide +kernel
theorem dX7_isBlank_17 : decode cX7_isBlank 17 = .ok (.ireturn, 1) := by decide +kernel
theorem dX7_isNumberFrom_0 : decode cX7_isNumberFrom 0 = .ok (.aload_n 0, 1) := by decide +kernel
theorem dX7_isNumberFrom_1 : decode cX7_isNumberFrom 1 = .ok (.getfield 93, 3) := by decide +kernel
theorem dX7_isNumberFrom_4 : decode cX7_isNumberFrom 4 = .ok (.iconst 2, 1) := by decide +kernel
theorem dX7_isNumberFrom_5 : decode cX7_isNumberFrom 5 = .ok (.if_icmp .eq 9, 3) := by decide +kernel
theorem dX7_isNumberFrom_8 : decode cX7_isNumberFrom 8 = .ok (.aload_n 0, 1) := by decide +kernel
theorem dX7_isNumberFrom_9 : decode cX7_isNumberFrom 9 = .ok (.iconst 1, 1) := by decide +kernel
theorem dX7_isNumberFrom_10 : decode cX7_isNumberFrom 10 = .ok (.invokevirtual 51, 3) := by decide +kernel
theorem dX7_isNumberFrom_13 : decode cX7_isNumberFrom 13 = .ok (.ireturn, 1) := by decide +kernel
theorem dX7_isNumberFrom_14 : decode cX7_isNumberFrom 14 = .ok (.aload_n 0, 1) := by decide +kernel
theorem dX7_isNumberFrom_15 : decode cX7_isNumberFrom 15 = .ok (.iconst 0, 1) := by decide +kernel
theorem dX7_isNumberFrom_16 : decode cX7_isNumberFrom 16 = .ok (.putfield 59, 3) := by decide +kernel
theorem dX7_isNumberFrom_19 : decode cX7_isNumberFrom 19 = .ok (.aload_n 0, 1) := by decide +kernel
theorem dX7_isNumberFrom_20 : decode cX7_isNumberFrom 20 = .ok (.getfield 101, 3) := by decide +kernel
theorem dX7_isNumberFrom_23 : decode cX7_isNumberFrom 23 = .ok (.istore_n 3, 1) := by decide +kernel
theorem dX7_isNumberFrom_24 : decode cX7_isNumberFrom 24 = .ok (.iload_n 3, 1) := by decide +kernel
theorem dX7_isNumberFrom_25 : decode cX7_isNumberFrom 25 = .ok (.aload_n 0, 1) := by decide +kernel
theorem dX7_isNumberFrom_26 : decode cX7_isNumberFrom 26 = .ok (.getfield 29, 3) := by decide +kernel
theorem dX7_isNumberFrom_29 : decode cX7_isNumberFrom 29 = .ok (.if_icmp .ge 38, 3) := by decide +kernel
theorem dX7_isNumberFrom_32 : decode cX7_isNumberFrom 32 = .ok (.aload_n 0, 1) := by decide +kernel
theorem dX7_isNumberFrom_33 : decode cX7_isNumberFrom 33 = .ok (.sipush 1000, 3) := by decide +kernel
theorem dX7_isNumberFrom_36 : decode cX7_isNumberFrom 36 = .ok (.aload_n 0, 1) := by decide +kernel
theorem dX7_isNumberFrom_37 : decode cX7_isNumberFrom 37 = .ok (.getfield 59, 3) := by decide +kernel
theorem dX7_isNumberFrom_40 : decode cX7_isNumberFrom 40 = .ok (.bipush 10, 2) := by decide +kernel
theorem dX7_isNumberFrom_42 : decode cX7_isNumberFrom 42 = .ok (.imul, 1) := by decide +kernel
theorem dX7_isNumberFrom_43 : decode cX7_isNumberFrom 43 = .ok (.aload_n 0, 1) := by decide +kernel
theorem dX7_isNumberFrom_44 : decode cX7_isNumberFrom 44 = .ok (.getfield 22, 3) := by decide +kernel
theorem dX7_isNumberFrom_47 : decode cX7_isNumberFrom 47 = .ok (.iload_n 3, 1) := by decide +kernel
theorem dX7_isNumberFrom_48 : decode cX7_isNumberFrom 48 = .ok (.invokevirtual 107, 3) := by decide +kernel
theorem dX7_isNumberFrom_51 : decode cX7_isNumberFrom 51 = .ok (.iadd, 1) := by decide +kernel
theorem dX7_isNumberFrom_52 : decode cX7_isNumberFrom 52 = .ok (.bipush 48, 2) := by decide +kernel
theorem dX7_isNumberFrom_54 : decode cX7_isNumberFrom 54 = .ok (.isub, 1) := by decide +kernel
theorem dX7_isNumberFrom_55 : decode cX7_isNumberFrom 55 = .ok (.invokestatic 124, 3) := by decide +kernel
theorem dX7_isNumberFrom_58 : decode cX7_isNumberFrom 58 = .ok (.putfield 59, 3) := by decide +kernel
theorem dX7_isNumberFrom_61 : decode cX7_isNumberFrom 61 = .ok (.iinc 3 1, 3) := by decide +kernel
theorem dX7_isNumberFrom_64 : decode cX7_isNumberFrom 64 = .ok (.goto (-40), 3) := by decide +kernel
theorem dX7_isNumberFrom_67 : decode cX7_isNumberFrom 67 = .ok (.aload_n 0, 1) := by decide +kernel
theorem dX7_isNumberFrom_68 : decode cX7_isNumberFrom 68 = .ok (.getfield 59, 3) := by decide +kernel
theorem dX7_isNumberFrom_71 : decode cX7_isNumberFrom 71 = .ok (.iload_n 1, 1) := by decide +kernel
theorem dX7_isNumberFrom_72 : decode cX7_isNumberFrom 72 = .ok (.if_icmp .lt 11, 3) := by decide +kernel
theorem dX7_isNumberFrom_75 : decode cX7_isNumberFrom 75 = .ok (.aload_n 0, 1) := by decide +kernel
theorem dX7_isNumberFrom_76 : decode cX7_isNumberFrom 76 = .ok (.getfield 59, 3) := by decide +kernel
theorem dX7_isNumberFrom_79 : decode cX7_isNumberFrom 79 = .ok (.iload_n 2, 1) := by decide +kernel
theorem dX7_isNumberFrom_80 : decode cX7_isNumberFrom 80 = .ok (.if_icmp .le 11, 3) := by decide +kernel
theorem dX7_isNumberFrom_83 : decode cX7_isNumberFrom 83 = .ok (.aload_n 0, 1) := by decide +kernel
theorem dX7_isNumberFrom_84 : decode cX7_isNumberFrom 84 = .ok (.iconst 2, 1) := by decide +kernel
theorem dX7_isNumberFrom_85 : decode cX7_isNumberFrom 85 = .ok (.invokevirtual 51, 3) := by decide +kernel
theorem dX7_isNumberFrom_88 : decode cX7_isNumberFrom 88 = .ok (.ifCond .eq 7, 3) := by decide +kernel
theorem dX7_isNumberFrom_91 : decode cX7_isNumberFrom 91 = .ok (.iconst 1, 1) := by decide +kernel
theorem dX7_isNumberFrom_92 : decode cX7_isNumberFrom 92 = .ok (.goto 4, 3) := by decide +kernel
theorem dX7_isNumberFrom_95 : decode cX7_isNumberFrom 95 = .ok (.iconst 0, 1) := by decide +kernel
theorem dX7_isNumberFrom_96 : decode cX7_isNumberFrom 96 = .ok (.ireturn, 1) := by decide +kernel
theorem dX7_isPoint_0 : decode cX7_isPoint 0 = .ok (.aload_n 0, 1) := by decide +kernel
theorem dX7_isPoint_1 : decode cX7_isPoint 1 = .ok (.iconst 0, 1) := by decide +kernel
theorem dX7_isPoint_2 : decode cX7_isPoint 2 = .ok (.aload_n 0, 1) := by decide +kernel
theorem dX7_isPoint_3 : decode cX7_isPoint 3 = .ok (.getfield 12, 3) := by decide +kernel
theorem dX7_isPoint_6 : decode cX7_isPoint 6 = .ok (.getfield 104, 3) := by decide +kernel
theorem dX7_isPoint_9 : decode cX7_isPoint 9 = .ok (.iconst 1, 1) := by decide +kernel
theorem dX7_isPoint_10 : decode cX7_isPoint 10 = .ok (.isub, 1) := by decide +kernel
theorem dX7_isPoint_11 : decode cX7_isPoint 11 = .ok (.invokevirtual 55, 3) := by decide +kernel
theorem dX7_isPoint_14 : decode cX7_isPoint 14 = .ok (.ireturn, 1) := by decide +kernel
theorem dX7_isSign_0 : decode cX7_isSign 0 = .ok (.aload_n 0, 1) := by decide +kernel
theorem dX7_isSign_1 : decode cX7_isSign 1 = .ok (.getfield 93, 3) := by decide +kernel
theorem dX7_isSign_4 : decode cX7_isSign 4 = .ok (.iconst 3, 1) := by decide +kernel
theorem dX7_isSign_5 : decode cX7_isSign 5 = .ok (.if_icmp .ne 22, 3) := by decide +kernel
theorem dX7_isSign_8 : decode cX7_isSign 8 = .ok (.aload_n 0, 1) := by decide +kernel
theorem dX7_isSign_9 : decode cX7_isSign 9 = .ok (.getfield 22, 3) := by decide +kernel
theorem dX7_isSign_12 : decode cX7_isSign 12 = .ok (.aload_n 0, 1) := by decide +kernel
theorem dX7_isSign_13 : decode cX7_isSign 13 = .ok (.getfield 101, 3) := by decide +kernel
theorem dX7_isSign_16 : decode cX7_isSign 16 = .ok (.invokevirtual 107, 3) := by decide +kernel
theorem dX7_isSign_19 : decode cX7_isSign 19 = .ok (.iload_n 1, 1) := by decide +kernel
theorem dX7_isSign_20 : decode cX7_isSign 20 = .ok (.if_icmp .ne 7, 3) := by decide +kernel
theorem dX7_isSign_23 : decode cX7_isSign 23 = .ok (.iconst 1, 1) := by decide +kernel
theorem dX7_isSign_24 : decode cX7_isSign 24 = .ok (.goto 4, 3) := by decide +kernel
theorem dX7_isSign_27 : decode cX7_isSign 27 = .ok (.iconst 0, 1) := by decide +kernel
theorem dX7_isSign_28 : decode cX7_isSign 28 = .ok (.ireturn, 1) := by decide +kernel
theorem dX7_isWord_0 : decode cX7_isWord 0 = .ok (.aload_n 0, 1) := by decide +kernel
theorem dX7_isWord_1 : decode cX7_isWord 1 = .ok (.getfield 93, 3) := by decide +kernel
theorem dX7_isWord_4 : decode cX7_isWord 4 = .ok (.iconst 1, 1) := by decide +kernel
theorem dX7_isWord_5 : decode cX7_isWord 5 = .ok (.if_icmp .ne 19, 3) := by decide +kernel
theorem dX7_isWord_8 : decode cX7_isWord 8 = .ok (.aload_n 0, 1) := by decide +kernel
theorem dX7_isWord_9 : decode cX7_isWord 9 = .ok (.getfield 29, 3) := by decide +kernel
theorem dX7_isWord_12 : decode cX7_isWord 12 = .ok (.aload_n 0, 1) := by decide +kernel
theorem dX7_isWord_13 : decode cX7_isWord 13 = .ok (.getfield 101, 3) := by decide +kernel
theorem dX7_isWord_16 : decode cX7_isWord 16 = .ok (.isub, 1) := by decide +kernel
theorem dX7_isWord_17 : decode cX7_isWord 17 = .ok (.aload_n 1, 1) := by decide +kernel
theorem dX7_isWord_18 : decode cX7_isWord 18 = .ok (.invokevirtual 129, 3) := by decide +kernel
theorem dX7_isWord_21 : decode cX7_isWord 21 = .ok (.if_icmp .eq 5, 3) := by decide +kernel
theorem dX7_isWord_24 : decode cX7_isWord 24 = .ok (.iconst 0, 1) := by decide +kernel
theorem dX7_isWord_25 : decode cX7_isWord 25 = .ok (.ireturn, 1) := by decide +kernel
theorem dX7_isWord_26 : decode cX7_isWord 26 = .ok (.iconst 0, 1) := by decide +kernel
theorem dX7_isWord_27 : decode cX7_isWord 27 = .ok (.istore_n 2, 1) := by decide +kernel
theorem dX7_isWord_28 : decode cX7_isWord 28 = .ok (.iload_n 2, 1) := by decide +kernel
theorem dX7_isWord_29 : decode cX7_isWord 29 = .ok (.aload_n 1, 1) := by decide +kernel
theorem dX7_isWord_30 : decode cX7_isWord 30 = .ok (.invokevirtual 129, 3) := by decide +kernel
theorem dX7_isWord_33 : decode cX7_isWord 33 = .ok (.if_icmp .ge 32, 3) := by decide +kernel
theorem dX7_isWord_36 : decode cX7_isWord 36 = .ok (.aload_n 0, 1) := by decide +kernel
theorem dX7_isWord_37 : decode cX7_isWord 37 = .ok (.getfield 22, 3) := by decide +kernel
theorem dX7_isWord_40 : decode cX7_isWord 40 = .ok (.aload_n 0, 1) := by decide +kernel
theorem dX7_isWord_41 : decode cX7_isWord 41 = .ok (.getfield 101, 3) := by decide +kernel
theorem dX7_isWord_44 : decode cX7_isWord 44 = .ok (.iload_n 2, 1) := by decide +kernel
theorem dX7_isWord_45 : decode cX7_isWord 45 = .ok (.iadd, 1) := by decide +kernel
theorem dX7_isWord_46 : decode cX7_isWord 46 = .ok (.invokevirtual 107, 3) := by decide +kernel
theorem dX7_isWord_49 : decode cX7_isWord 49 = .ok (.aload_n 1, 1) := by decide +kernel
theorem dX7_isWord_50 : decode cX7_isWord 50 = .ok (.iload_n 2, 1) := by decide +kernel
theorem dX7_isWord_51 : decode cX7_isWord 51 = .ok (.invokevirtual 134, 3) := by decide +kernel
theorem dX7_isWord_54 : decode cX7_isWord 54 = .ok (.if_icmp .eq 5, 3) := by decide +kernel
theorem dX7_isWord_57 : decode cX7_isWord 57 = .ok (.iconst 0, 1) := by decide +kernel
theorem dX7_isWord_58 : decode cX7_isWord 58 = .ok (.ireturn, 1) := by decide +kernel
theorem dX7_isWord_59 : decode cX7_isWord 59 = .ok (.iinc 2 1, 3) := by decide +kernel
theorem dX7_isWord_62 : decode cX7_isWord 62 = .ok (.goto (-34), 3) := by decide +kernel
theorem dX7_isWord_65 : decode cX7_isWord 65 = .ok (.iconst 1, 1) := by decide +kernel
theorem dX7_isWord_66 : decode cX7_isWord 66 = .ok (.ireturn, 1) := by decide +kernel
theorem dX7_kindOf_0 : decode cX7_kindOf 0 = .ok (.iload_n 0, 1) := by decide +kernel
theorem dX7_kindOf_1 : decode cX7_kindOf 1 = .ok (.iconst (-1), 1) := by decide +kernel
theorem dX7_kindOf_2 : decode cX7_kindOf 2 = .ok (.if_icmp .ne 5, 3) := by decide +kernel
theorem dX7_kindOf_5 : decode cX7_kindOf 5 = .ok (.iconst 0, 1) := by decide +kernel
theorem dX7_kindOf_6 : decode cX7_kindOf 6 = .ok (.ireturn, 1) := by decide +kernel
theorem dX7_kindOf_7 : decode cX7_kindOf 7 = .ok (.iload_n 0, 1) := by decide +kernel
theorem dX7_kindOf_8 : decode cX7_kindOf 8 = .ok (.bipush 97, 2) := by decide +kernel
theorem dX7_kindOf_10 : decode cX7_kindOf 10 = .ok (.if_icmp .lt 11, 3) := by decide +kernel
theorem dX7_kindOf_13 : decode cX7_kindOf 13 = .ok (.iload_n 0, 1) := by decide +kernel
theorem dX7_kindOf_14 : decode cX7_kindOf 14 = .ok (.bipush 122, 2) := by decide +kernel
theorem dX7_kindOf_16 : decode cX7_kindOf 16 = .ok (.if_icmp .gt 5, 3) := by decide +kernel
theorem dX7_kindOf_19 : decode cX7_kindOf 19 = .ok (.iconst 1, 1) := by decide +kernel
theorem dX7_kindOf_20 : decode cX7_kindOf 20 = .ok (.ireturn, 1) := by decide +kernel
theorem dX7_kindOf_21 : decode cX7_kindOf 21 = .ok (.iload_n 0, 1) := by decide +kernel
theorem dX7_kindOf_22 : decode cX7_kindOf 22 = .ok (.bipush 48, 2) := by decide +kernel
theorem dX7_kindOf_24 : decode cX7_kindOf 24 = .ok (.if_icmp .lt 13, 3) := by decide +kernel
theorem dX7_kindOf_27 : decode cX7_kindOf 27 = .ok (.iload_n 0, 1) := by decide +kernel
theorem dX7_kindOf_28 : decode cX7_kindOf 28 = .ok (.bipush 57, 2) := by decide +kernel
theorem dX7_kindOf_30 : decode cX7_kindOf 30 = .ok (.if_icmp .gt 7, 3) := by decide +kernel
theorem dX7_kindOf_33 : decode cX7_kindOf 33 = .ok (.iconst 2, 1) := by decide +kernel
theorem dX7_kindOf_34 : decode cX7_kindOf 34 = .ok (.goto 4, 3) := by decide +kernel
theorem dX7_kindOf_37 : decode cX7_kindOf 37 = .ok (.iconst 3, 1) := by decide +kernel
theorem dX7_kindOf_38 : decode cX7_kindOf 38 = .ok (.ireturn, 1) := by decide +kernel
theorem dX7_readAll_0 : decode cX7_readAll 0 = .ok (.aload_n 0, 1) := by decide +kernel
theorem dX7_readAll_1 : decode cX7_readAll 1 = .ok (.iconst 0, 1) := by decide +kernel
theorem dX7_readAll_2 : decode cX7_readAll 2 = .ok (.putfield 26, 3) := by decide +kernel
theorem dX7_readAll_5 : decode cX7_readAll 5 = .ok (.aload_n 0, 1) := by decide +kernel
theorem dX7_readAll_6 : decode cX7_readAll 6 = .ok (.iconst (-1), 1) := by decide +kernel
theorem dX7_readAll_7 : decode cX7_readAll 7 = .ok (.putfield 18, 3) := by decide +kernel
theorem dX7_readAll_10 : decode cX7_readAll 10 = .ok (.aload_n 0, 1) := by decide +kernel
theorem dX7_readAll_11 : decode cX7_readAll 11 = .ok (.iconst 0, 1) := by decide +kernel
theorem dX7_readAll_12 : decode cX7_readAll 12 = .ok (.putfield 29, 3) := by decide +kernel
theorem dX7_readAll_15 : decode cX7_readAll 15 = .ok (.aload_n 0, 1) := by decide +kernel
theorem dX7_readAll_16 : decode cX7_readAll 16 = .ok (.invokevirtual 32, 3) := by decide +kernel
theorem dX7_readAll_19 : decode cX7_readAll 19 = .ok (.aload_n 0, 1) := by decide +kernel
theorem dX7_readAll_20 : decode cX7_readAll 20 = .ok (.invokevirtual 35, 3) := by decide +kernel
theorem dX7_readAll_23 : decode cX7_readAll 23 = .ok (.ifCond .eq 21, 3) := by decide +kernel
theorem dX7_readAll_26 : decode cX7_readAll 26 = .ok (.aload_n 0, 1) := by decide +kernel
theorem dX7_readAll_27 : decode cX7_readAll 27 = .ok (.invokevirtual 39, 3) := by decide +kernel
theorem dX7_readAll_30 : decode cX7_readAll 30 = .ok (.ifCond .eq 14, 3) := by decide +kernel
theorem dX7_readAll_33 : decode cX7_readAll 33 = .ok (.aload_n 0, 1) := by decide +kernel
theorem dX7_readAll_34 : decode cX7_readAll 34 = .ok (.invokevirtual 42, 3) := by decide +kernel
theorem dX7_readAll_37 : decode cX7_readAll 37 = .ok (.ifCond .eq 7, 3) := by decide +kernel
theorem dX7_readAll_40 : decode cX7_readAll 40 = .ok (.iconst 1, 1) := by decide +kernel
theorem dX7_readAll_41 : decode cX7_readAll 41 = .ok (.goto 4, 3) := by decide +kernel
theorem dX7_readAll_44 : decode cX7_readAll 44 = .ok (.iconst 0, 1) := by decide +kernel
theorem dX7_readAll_45 : decode cX7_readAll 45 = .ok (.ireturn, 1) := by decide +kernel
theorem dX7_readDigits_0 : decode cX7_readDigits 0 = .ok (.aload_n 0, 1) := by decide +kernel
theorem dX7_readDigits_1 : decode cX7_readDigits 1 = .ok (.getfield 29, 3) := by decide +kernel
theorem dX7_readDigits_4 : decode cX7_readDigits 4 = .ok (.aload_n 0, 1) := by decide +kernel
theorem dX7_readDigits_5 : decode cX7_readDigits 5 = .ok (.getfield 101, 3) := by decide +kernel
theorem dX7_readDigits_8 : decode cX7_readDigits 8 = .ok (.isub, 1) := by decide +kernel
theorem dX7_readDigits_9 : decode cX7_readDigits 9 = .ok (.aload_n 0, 1) := by decide +kernel
theorem dX7_readDigits_10 : decode cX7_readDigits 10 = .ok (.getfield 12, 3) := by decide +kernel
theorem dX7_readDigits_13 : decode cX7_readDigits 13 = .ok (.getfield 104, 3) := by decide +kernel
theorem dX7_readDigits_16 : decode cX7_readDigits 16 = .ok (.if_icmp .eq 5, 3) := by decide +kernel
theorem dX7_readDigits_19 : decode cX7_readDigits 19 = .ok (.iconst 0, 1) := by decide +kernel
theorem dX7_readDigits_20 : decode cX7_readDigits 20 = .ok (.ireturn, 1) := by decide +kernel
theorem dX7_readDigits_21 : decode cX7_readDigits 21 = .ok (.iconst 0, 1) := by decide +kernel
theorem dX7_readDigits_22 : decode cX7_readDigits 22 = .ok (.istore_n 1, 1) := by decide +kernel
theorem dX7_readDigits_23 : decode cX7_readDigits 23 = .ok (.iconst 0, 1) := by decide +kernel
theorem dX7_readDigits_24 : decode cX7_readDigits 24 = .ok (.istore_n 2, 1) := by decide +kernel
theorem dX7_readDigits_25 : decode cX7_readDigits 25 = .ok (.iload_n 2, 1) := by decide +kernel
theorem dX7_readDigits_26 : decode cX7_readDigits 26 = .ok (.aload_n 0, 1) := by decide +kernel
theorem dX7_readDigits_27 : decode cX7_readDigits 27 = .ok (.getfield 12, 3) := by decide +kernel
theorem dX7_readDigits_30 : decode cX7_readDigits 30 = .ok (.getfield 104, 3) := by decide +kernel
theorem dX7_readDigits_33 : decode cX7_readDigits 33 = .ok (.if_icmp .ge 55, 3) := by decide +kernel
theorem dX7_readDigits_36 : decode cX7_readDigits 36 = .ok (.aload_n 0, 1) := by decide +kernel
theorem dX7_readDigits_37 : decode cX7_readDigits 37 = .ok (.getfield 22, 3) := by decide +kernel
theorem dX7_readDigits_40 : decode cX7_readDigits 40 = .ok (.aload_n 0, 1) := by decide +kernel
theorem dX7_readDigits_41 : decode cX7_readDigits 41 = .ok (.getfield 101, 3) := by decide +kernel
theorem dX7_readDigits_44 : decode cX7_readDigits 44 = .ok (.iload_n 2, 1) := by decide +kernel
theorem dX7_readDigits_45 : decode cX7_readDigits 45 = .ok (.iadd, 1) := by decide +kernel
theorem dX7_readDigits_46 : decode cX7_readDigits 46 = .ok (.invokevirtual 107, 3) := by decide +kernel
theorem dX7_readDigits_49 : decode cX7_readDigits 49 = .ok (.bipush 48, 2) := by decide +kernel
theorem dX7_readDigits_51 : decode cX7_readDigits 51 = .ok (.isub, 1) := by decide +kernel
theorem dX7_readDigits_52 : decode cX7_readDigits 52 = .ok (.istore_n 3, 1) := by decide +kernel
theorem dX7_readDigits_53 : decode cX7_readDigits 53 = .ok (.aload_n 0, 1) := by decide +kernel
theorem dX7_readDigits_54 : decode cX7_readDigits 54 = .ok (.getfield 12, 3) := by decide +kernel
theorem dX7_readDigits_57 : decode cX7_readDigits 57 = .ok (.iload_n 3, 1) := by decide +kernel
theorem dX7_readDigits_58 : decode cX7_readDigits 58 = .ok (.invokevirtual 113, 3) := by decide +kernel
theorem dX7_readDigits_61 : decode cX7_readDigits 61 = .ok (.ifCond .ne 5, 3) := by decide +kernel
theorem dX7_readDigits_64 : decode cX7_readDigits 64 = .ok (.iconst 0, 1) := by decide +kernel
theorem dX7_readDigits_65 : decode cX7_readDigits 65 = .ok (.ireturn, 1) := by decide +kernel
theorem dX7_readDigits_66 : decode cX7_readDigits 66 = .ok (.aload_n 0, 1) := by decide +kernel
theorem dX7_readDigits_67 : decode cX7_readDigits 67 = .ok (.getfield 12, 3) := by decide +kernel
theorem dX7_readDigits_70 : decode cX7_readDigits 70 = .ok (.getfield 116, 3) := by decide +kernel
theorem dX7_readDigits_73 : decode cX7_readDigits 73 = .ok (.iload_n 2, 1) := by decide +kernel
theorem dX7_readDigits_74 : decode cX7_readDigits 74 = .ok (.iload_n 3, 1) := by decide +kernel
theorem dX7_readDigits_75 : decode cX7_readDigits 75 = .ok (.iastore, 1) := by decide +kernel
theorem dX7_readDigits_76 : decode cX7_readDigits 76 = .ok (.iload_n 1, 1) := by decide +kernel
theorem dX7_readDigits_77 : decode cX7_readDigits 77 = .ok (.iconst 1, 1) := by decide +kernel
theorem dX7_readDigits_78 : decode cX7_readDigits 78 = .ok (.iload_n 3, 1) := by decide +kernel
theorem dX7_readDigits_79 : decode cX7_readDigits 79 = .ok (.ishl, 1) := by decide +kernel
theorem dX7_readDigits_80 : decode cX7_readDigits 80 = .ok (.ior, 1) := by decide +kernel
theorem dX7_readDigits_81 : decode cX7_readDigits 81 = .ok (.istore_n 1, 1) := by decide +kernel
theorem dX7_readDigits_82 : decode cX7_readDigits 82 = .ok (.iinc 2 1, 3) := by decide +kernel
theorem dX7_readDigits_85 : decode cX7_readDigits 85 = .ok (.goto (-60), 3) := by decide +kernel
theorem dX7_readDigits_88 : decode cX7_readDigits 88 = .ok (.iload_n 1, 1) := by decide +kernel
theorem dX7_readDigits_89 : decode cX7_readDigits 89 = .ok (.aload_n 0, 1) := by decide +kernel
theorem dX7_readDigits_90 : decode cX7_readDigits 90 = .ok (.getfield 12, 3) := by decide +kernel
theorem dX7_readDigits_93 : decode cX7_readDigits 93 = .ok (.invokevirtual 120, 3) := by decide +kernel
theorem dX7_readDigits_96 : decode cX7_readDigits 96 = .ok (.if_icmp .ne 7, 3) := by decide +kernel
theorem dX7_readDigits_99 : decode cX7_readDigits 99 = .ok (.iconst 1, 1) := by decide +kernel
theorem dX7_readDigits_100 : decode cX7_readDigits 100 = .ok (.goto 4, 3) := by decide +kernel
theorem dX7_readDigits_103 : decode cX7_readDigits 103 = .ok (.iconst 0, 1) := by decide +kernel
theorem dX7_readDigits_104 : decode cX7_readDigits 104 = .ok (.ireturn, 1) := by decide +kernel
theorem dX7_readHead_0 : decode cX7_readHead 0 = .ok (.aload_n 0, 1) := by decide +kernel
theorem dX7_readHead_1 : decode cX7_readHead 1 = .ok (.ldc 45, 2) := by decide +kernel
theorem dX7_readHead_3 : decode cX7_readHead 3 = .ok (.invokevirtual 47, 3) := by decide +kernel
theorem dX7_readHead_6 : decode cX7_readHead 6 = .ok (.ifCond .ne 9, 3) := by decide +kernel
theorem dX7_readHead_9 : decode cX7_readHead 9 = .ok (.aload_n 0, 1) := by decide +kernel
theorem dX7_readHead_10 : decode cX7_readHead 10 = .ok (.iconst 1, 1) := by decide +kernel
theorem dX7_readHead_11 : decode cX7_readHead 11 = .ok (.invokevirtual 51, 3) := by decide +kernel
theorem dX7_readHead_14 : decode cX7_readHead 14 = .ok (.ireturn, 1) := by decide +kernel
theorem dX7_readHead_15 : decode cX7_readHead 15 = .ok (.aload_n 0, 1) := by decide +kernel
theorem dX7_readHead_16 : decode cX7_readHead 16 = .ok (.invokevirtual 32, 3) := by decide +kernel
theorem dX7_readHead_19 : decode cX7_readHead 19 = .ok (.aload_n 0, 1) := by decide +kernel
theorem dX7_readHead_20 : decode cX7_readHead 20 = .ok (.iconst 1, 1) := by decide +kernel
theorem dX7_readHead_21 : decode cX7_readHead 21 = .ok (.bipush 9, 2) := by decide +kernel
theorem dX7_readHead_23 : decode cX7_readHead 23 = .ok (.invokevirtual 55, 3) := by decide +kernel
theorem dX7_readHead_26 : decode cX7_readHead 26 = .ok (.ifCond .ne 5, 3) := by decide +kernel
theorem dX7_readHead_29 : decode cX7_readHead 29 = .ok (.iconst 0, 1) := by decide +kernel
theorem dX7_readHead_30 : decode cX7_readHead 30 = .ok (.ireturn, 1) := by decide +kernel
theorem dX7_readHead_31 : decode cX7_readHead 31 = .ok (.aload_n 0, 1) := by decide +kernel
theorem dX7_readHead_32 : decode cX7_readHead 32 = .ok (.getfield 12, 3) := by decide +kernel
theorem dX7_readHead_35 : decode cX7_readHead 35 = .ok (.aload_n 0, 1) := by decide +kernel
theorem dX7_readHead_36 : decode cX7_readHead 36 = .ok (.getfield 59, 3) := by decide +kernel
theorem dX7_readHead_39 : decode cX7_readHead 39 = .ok (.invokevirtual 62, 3) := by decide +kernel
theorem dX7_readHead_42 : decode cX7_readHead 42 = .ok (.aload_n 0, 1) := by decide +kernel
theorem dX7_readHead_43 : decode cX7_readHead 43 = .ok (.invokevirtual 32, 3) := by decide +kernel
theorem dX7_readHead_46 : decode cX7_readHead 46 = .ok (.iconst 1, 1) := by decide +kernel
theorem dX7_readHead_47 : decode cX7_readHead 47 = .ok (.ireturn, 1) := by decide +kernel
theorem dX7_readLine_0 : decode cX7_readLine 0 = .ok (.aload_n 0, 1) := by decide +kernel
theorem dX7_readLine_1 : decode cX7_readLine 1 = .ok (.invokevirtual 76, 3) := by decide +kernel
theorem dX7_readLine_4 : decode cX7_readLine 4 = .ok (.ifCond .ne 5, 3) := by decide +kernel
theorem dX7_readLine_7 : decode cX7_readLine 7 = .ok (.iconst 0, 1) := by decide +kernel
theorem dX7_readLine_8 : decode cX7_readLine 8 = .ok (.ireturn, 1) := by decide +kernel
theorem dX7_readLine_9 : decode cX7_readLine 9 = .ok (.aload_n 0, 1) := by decide +kernel
theorem dX7_readLine_10 : decode cX7_readLine 10 = .ok (.getfield 12, 3) := by decide +kernel
theorem dX7_readLine_13 : decode cX7_readLine 13 = .ok (.getfield 79, 3) := by decide +kernel
theorem dX7_readLine_16 : decode cX7_readLine 16 = .ok (.bipush 30, 2) := by decide +kernel
theorem dX7_readLine_18 : decode cX7_readLine 18 = .ok (.if_icmp .lt 9, 3) := by decide +kernel
theorem dX7_readLine_21 : decode cX7_readLine 21 = .ok (.aload_n 0, 1) := by decide +kernel
theorem dX7_readLine_22 : decode cX7_readLine 22 = .ok (.iconst 4, 1) := by decide +kernel
theorem dX7_readLine_23 : decode cX7_readLine 23 = .ok (.invokevirtual 51, 3) := by decide +kernel
theorem dX7_readLine_26 : decode cX7_readLine 26 = .ok (.ireturn, 1) := by decide +kernel
theorem dX7_readLine_27 : decode cX7_readLine 27 = .ok (.aload_n 0, 1) := by decide +kernel
theorem dX7_readLine_28 : decode cX7_readLine 28 = .ok (.getfield 59, 3) := by decide +kernel
theorem dX7_readLine_31 : decode cX7_readLine 31 = .ok (.istore_n 1, 1) := by decide +kernel
theorem dX7_readLine_32 : decode cX7_readLine 32 = .ok (.aload_n 0, 1) := by decide +kernel
theorem dX7_readLine_33 : decode cX7_readLine 33 = .ok (.invokevirtual 32, 3) := by decide +kernel
theorem dX7_readLine_36 : decode cX7_readLine 36 = .ok (.aload_n 0, 1) := by decide +kernel
theorem dX7_readLine_37 : decode cX7_readLine 37 = .ok (.bipush 45, 2) := by decide +kernel
theorem dX7_readLine_39 : decode cX7_readLine 39 = .ok (.invokevirtual 73, 3) := by decide +kernel
theorem dX7_readLine_42 : decode cX7_readLine 42 = .ok (.ifCond .eq 10, 3) := by decide +kernel
theorem dX7_readLine_45 : decode cX7_readLine 45 = .ok (.aload_n 0, 1) := by decide +kernel
theorem dX7_readLine_46 : decode cX7_readLine 46 = .ok (.invokevirtual 76, 3) := by decide +kernel
theorem dX7_readLine_49 : decode cX7_readLine 49 = .ok (.ifCond .ne 5, 3) := by decide +kernel
theorem dX7_readLine_52 : decode cX7_readLine 52 = .ok (.iconst 0, 1) := by decide +kernel
theorem dX7_readLine_53 : decode cX7_readLine 53 = .ok (.ireturn, 1) := by decide +kernel
theorem dX7_readLine_54 : decode cX7_readLine 54 = .ok (.aload_n 0, 1) := by decide +kernel
theorem dX7_readLine_55 : decode cX7_readLine 55 = .ok (.getfield 59, 3) := by decide +kernel
theorem dX7_readLine_58 : decode cX7_readLine 58 = .ok (.istore_n 2, 1) := by decide +kernel
theorem dX7_readLine_59 : decode cX7_readLine 59 = .ok (.iload_n 1, 1) := by decide +kernel
theorem dX7_readLine_60 : decode cX7_readLine 60 = .ok (.iload_n 2, 1) := by decide +kernel
theorem dX7_readLine_61 : decode cX7_readLine 61 = .ok (.if_icmp .ne 9, 3) := by decide +kernel
theorem dX7_readLine_64 : decode cX7_readLine 64 = .ok (.aload_n 0, 1) := by decide +kernel
theorem dX7_readLine_65 : decode cX7_readLine 65 = .ok (.iconst 2, 1) := by decide +kernel
theorem dX7_readLine_66 : decode cX7_readLine 66 = .ok (.invokevirtual 51, 3) := by decide +kernel
theorem dX7_readLine_69 : decode cX7_readLine 69 = .ok (.ireturn, 1) := by decide +kernel
theorem dX7_readLine_70 : decode cX7_readLine 70 = .ok (.aload_n 0, 1) := by decide +kernel
theorem dX7_readLine_71 : decode cX7_readLine 71 = .ok (.getfield 12, 3) := by decide +kernel
theorem dX7_readLine_74 : decode cX7_readLine 74 = .ok (.iload_n 1, 1) := by decide +kernel
theorem dX7_readLine_75 : decode cX7_readLine 75 = .ok (.iload_n 2, 1) := by decide +kernel
theorem dX7_readLine_76 : decode cX7_readLine 76 = .ok (.invokevirtual 82, 3) := by decide +kernel
theorem dX7_readLine_79 : decode cX7_readLine 79 = .ok (.ifCond .le 9, 3) := by decide +kernel
theorem dX7_readLine_82 : decode cX7_readLine 82 = .ok (.aload_n 0, 1) := by decide +kernel
theorem dX7_readLine_83 : decode cX7_readLine 83 = .ok (.iconst 3, 1) := by decide +kernel
theorem dX7_readLine_84 : decode cX7_readLine 84 = .ok (.invokevirtual 51, 3) := by decide +kernel
theorem dX7_readLine_87 : decode cX7_readLine 87 = .ok (.ireturn, 1) := by decide +kernel
theorem dX7_readLine_88 : decode cX7_readLine 88 = .ok (.aload_n 0, 1) := by decide +kernel
theorem dX7_readLine_89 : decode cX7_readLine 89 = .ok (.invokevirtual 32, 3) := by decide +kernel
theorem dX7_readLine_92 : decode cX7_readLine 92 = .ok (.aload_n 0, 1) := by decide +kernel
theorem dX7_readLine_93 : decode cX7_readLine 93 = .ok (.iload_n 1, 1) := by decide +kernel
theorem dX7_readLine_94 : decode cX7_readLine 94 = .ok (.iload_n 2, 1) := by decide +kernel
theorem dX7_readLine_95 : decode cX7_readLine 95 = .ok (.invokevirtual 86, 3) := by decide +kernel
theorem dX7_readLine_98 : decode cX7_readLine 98 = .ok (.ireturn, 1) := by decide +kernel
theorem dX7_readLines_0 : decode cX7_readLines 0 = .ok (.aload_n 0, 1) := by decide +kernel
theorem dX7_readLines_1 : decode cX7_readLines 1 = .ok (.bipush 58, 2) := by decide +kernel
theorem dX7_readLines_3 : decode cX7_readLines 3 = .ok (.invokevirtual 66, 3) := by decide +kernel
theorem dX7_readLines_6 : decode cX7_readLines 6 = .ok (.istore_n 1, 1) := by decide +kernel
theorem dX7_readLines_7 : decode cX7_readLines 7 = .ok (.iconst 0, 1) := by decide +kernel
theorem dX7_readLines_8 : decode cX7_readLines 8 = .ok (.istore_n 2, 1) := by decide +kernel
theorem dX7_readLines_9 : decode cX7_readLines 9 = .ok (.iload_n 1, 1) := by decide +kernel
theorem dX7_readLines_10 : decode cX7_readLines 10 = .ok (.ifCond .eq 35, 3) := by decide +kernel
theorem dX7_readLines_13 : decode cX7_readLines 13 = .ok (.iload_n 2, 1) := by decide +kernel
theorem dX7_readLines_14 : decode cX7_readLines 14 = .ok (.bipush 30, 2) := by decide +kernel
theorem dX7_readLines_16 : decode cX7_readLines 16 = .ok (.if_icmp .gt 29, 3) := by decide +kernel
theorem dX7_readLines_19 : decode cX7_readLines 19 = .ok (.aload_n 0, 1) := by decide +kernel
theorem dX7_readLines_20 : decode cX7_readLines 20 = .ok (.invokevirtual 32, 3) := by decide +kernel
theorem dX7_readLines_23 : decode cX7_readLines 23 = .ok (.aload_n 0, 1) := by decide +kernel
theorem dX7_readLines_24 : decode cX7_readLines 24 = .ok (.invokevirtual 70, 3) := by decide +kernel
theorem dX7_readLines_27 : decode cX7_readLines 27 = .ok (.ifCond .ne 5, 3) := by decide +kernel
theorem dX7_readLines_30 : decode cX7_readLines 30 = .ok (.iconst 0, 1) := by decide +kernel
theorem dX7_readLines_31 : decode cX7_readLines 31 = .ok (.ireturn, 1) := by decide +kernel
theorem dX7_readLines_32 : decode cX7_readLines 32 = .ok (.aload_n 0, 1) := by decide +kernel
theorem dX7_readLines_33 : decode cX7_readLines 33 = .ok (.bipush 44, 2) := by decide +kernel
theorem dX7_readLines_35 : decode cX7_readLines 35 = .ok (.invokevirtual 66, 3) := by decide +kernel
theorem dX7_readLines_38 : decode cX7_readLines 38 = .ok (.istore_n 1, 1) := by decide +kernel
theorem dX7_readLines_39 : decode cX7_readLines 39 = .ok (.iinc 2 1, 3) := by decide +kernel
theorem dX7_readLines_42 : decode cX7_readLines 42 = .ok (.goto (-33), 3) := by decide +kernel
theorem dX7_readLines_45 : decode cX7_readLines 45 = .ok (.aload_n 0, 1) := by decide +kernel
theorem dX7_readLines_46 : decode cX7_readLines 46 = .ok (.bipush 59, 2) := by decide +kernel
theorem dX7_readLines_48 : decode cX7_readLines 48 = .ok (.invokevirtual 73, 3) := by decide +kernel
theorem dX7_readLines_51 : decode cX7_readLines 51 = .ok (.ireturn, 1) := by decide +kernel
theorem dX7_readRow_0 : decode cX7_readRow 0 = .ok (.aload_n 0, 1) := by decide +kernel
theorem dX7_readRow_1 : decode cX7_readRow 1 = .ok (.getfield 93, 3) := by decide +kernel
theorem dX7_readRow_4 : decode cX7_readRow 4 = .ok (.ifCond .ne 5, 3) := by decide +kernel
theorem dX7_readRow_7 : decode cX7_readRow 7 = .ok (.iconst 1, 1) := by decide +kernel
theorem dX7_readRow_8 : decode cX7_readRow 8 = .ok (.ireturn, 1) := by decide +kernel
theorem dX7_readRow_9 : decode cX7_readRow 9 = .ok (.aload_n 0, 1) := by decide +kernel
theorem dX7_readRow_10 : decode cX7_readRow 10 = .ok (.ldc 96, 2) := by decide +kernel
theorem dX7_readRow_12 : decode cX7_readRow 12 = .ok (.invokevirtual 47, 3) := by decide +kernel
theorem dX7_readRow_15 : decode cX7_readRow 15 = .ok (.ifCond .ne 9, 3) := by decide +kernel
theorem dX7_readRow_18 : decode cX7_readRow 18 = .ok (.aload_n 0, 1) := by decide +kernel
theorem dX7_readRow_19 : decode cX7_readRow 19 = .ok (.iconst 1, 1) := by decide +kernel
theorem dX7_readRow_20 : decode cX7_readRow 20 = .ok (.invokevirtual 51, 3) := by decide +kernel
theorem dX7_readRow_23 : decode cX7_readRow 23 = .ok (.ireturn, 1) := by decide +kernel
theorem dX7_readRow_24 : decode cX7_readRow 24 = .ok (.aload_n 0, 1) := by decide +kernel
theorem dX7_readRow_25 : decode cX7_readRow 25 = .ok (.invokevirtual 32, 3) := by decide +kernel
theorem dX7_readRow_28 : decode cX7_readRow 28 = .ok (.aload_n 0, 1) := by decide +kernel
theorem dX7_readRow_29 : decode cX7_readRow 29 = .ok (.getfield 93, 3) := by decide +kernel
theorem dX7_readRow_32 : decode cX7_readRow 32 = .ok (.iconst 2, 1) := by decide +kernel
theorem dX7_readRow_33 : decode cX7_readRow 33 = .ok (.if_icmp .eq 9, 3) := by decide +kernel
theorem dX7_readRow_36 : decode cX7_readRow 36 = .ok (.aload_n 0, 1) := by decide +kernel
theorem dX7_readRow_37 : decode cX7_readRow 37 = .ok (.iconst 1, 1) := by decide +kernel
theorem dX7_readRow_38 : decode cX7_readRow 38 = .ok (.invokevirtual 51, 3) := by decide +kernel
theorem dX7_readRow_41 : decode cX7_readRow 41 = .ok (.ireturn, 1) := by decide +kernel
theorem dX7_readRow_42 : decode cX7_readRow 42 = .ok (.aload_n 0, 1) := by decide +kernel
theorem dX7_readRow_43 : decode cX7_readRow 43 = .ok (.invokevirtual 98, 3) := by decide +kernel
theorem dX7_readRow_46 : decode cX7_readRow 46 = .ok (.ifCond .ne 9, 3) := by decide +kernel
theorem dX7_readRow_49 : decode cX7_readRow 49 = .ok (.aload_n 0, 1) := by decide +kernel
theorem dX7_readRow_50 : decode cX7_readRow 50 = .ok (.iconst 5, 1) := by decide +kernel
theorem dX7_readRow_51 : decode cX7_readRow 51 = .ok (.invokevirtual 51, 3) := by decide +kernel
theorem dX7_readRow_54 : decode cX7_readRow 54 = .ok (.ireturn, 1) := by decide +kernel
theorem dX7_readRow_55 : decode cX7_readRow 55 = .ok (.aload_n 0, 1) := by decide +kernel
theorem dX7_readRow_56 : decode cX7_readRow 56 = .ok (.invokevirtual 32, 3) := by decide +kernel
theorem dX7_readRow_59 : decode cX7_readRow 59 = .ok (.aload_n 0, 1) := by decide +kernel
theorem dX7_readRow_60 : decode cX7_readRow 60 = .ok (.bipush 59, 2) := by decide +kernel
theorem dX7_readRow_62 : decode cX7_readRow 62 = .ok (.invokevirtual 73, 3) := by decide +kernel
theorem dX7_readRow_65 : decode cX7_readRow 65 = .ok (.ifCond .eq 22, 3) := by decide +kernel
theorem dX7_readRow_68 : decode cX7_readRow 68 = .ok (.aload_n 0, 1) := by decide +kernel
theorem dX7_readRow_69 : decode cX7_readRow 69 = .ok (.getfield 93, 3) := by decide +kernel
theorem dX7_readRow_72 : decode cX7_readRow 72 = .ok (.ifCond .eq 11, 3) := by decide +kernel
theorem dX7_readRow_75 : decode cX7_readRow 75 = .ok (.aload_n 0, 1) := by decide +kernel
theorem dX7_readRow_76 : decode cX7_readRow 76 = .ok (.iconst 1, 1) := by decide +kernel
theorem dX7_readRow_77 : decode cX7_readRow 77 = .ok (.invokevirtual 51, 3) := by decide +kernel
theorem dX7_readRow_80 : decode cX7_readRow 80 = .ok (.ifCond .eq 7, 3) := by decide +kernel
theorem dX7_readRow_83 : decode cX7_readRow 83 = .ok (.iconst 1, 1) := by decide +kernel
theorem dX7_readRow_84 : decode cX7_readRow 84 = .ok (.goto 4, 3) := by decide +kernel
theorem dX7_readRow_87 : decode cX7_readRow 87 = .ok (.iconst 0, 1) := by decide +kernel
theorem dX7_readRow_88 : decode cX7_readRow 88 = .ok (.ireturn, 1) := by decide +kernel
theorem dX7_readWeight_0 : decode cX7_readWeight 0 = .ok (.iconst 1, 1) := by decide +kernel
theorem dX7_readWeight_1 : decode cX7_readWeight 1 = .ok (.istore_n 3, 1) := by decide +kernel
theorem dX7_readWeight_2 : decode cX7_readWeight 2 = .ok (.aload_n 0, 1) := by decide +kernel
theorem dX7_readWeight_3 : decode cX7_readWeight 3 = .ok (.bipush 61, 2) := by decide +kernel
theorem dX7_readWeight_5 : decode cX7_readWeight 5 = .ok (.invokevirtual 66, 3) := by decide +kernel
theorem dX7_readWeight_8 : decode cX7_readWeight 8 = .ok (.ifCond .eq 28, 3) := by decide +kernel
theorem dX7_readWeight_11 : decode cX7_readWeight 11 = .ok (.aload_n 0, 1) := by decide +kernel
theorem dX7_readWeight_12 : decode cX7_readWeight 12 = .ok (.invokevirtual 32, 3) := by decide +kernel
theorem dX7_readWeight_15 : decode cX7_readWeight 15 = .ok (.aload_n 0, 1) := by decide +kernel
theorem dX7_readWeight_16 : decode cX7_readWeight 16 = .ok (.iconst 1, 1) := by decide +kernel
theorem dX7_readWeight_17 : decode cX7_readWeight 17 = .ok (.bipush 9, 2) := by decide +kernel
theorem dX7_readWeight_19 : decode cX7_readWeight 19 = .ok (.invokevirtual 55, 3) := by decide +kernel
theorem dX7_readWeight_22 : decode cX7_readWeight 22 = .ok (.ifCond .ne 5, 3) := by decide +kernel
theorem dX7_readWeight_25 : decode cX7_readWeight 25 = .ok (.iconst 0, 1) := by decide +kernel
theorem dX7_readWeight_26 : decode cX7_readWeight 26 = .ok (.ireturn, 1) := by decide +kernel
theorem dX7_readWeight_27 : decode cX7_readWeight 27 = .ok (.aload_n 0, 1) := by decide +kernel
theorem dX7_readWeight_28 : decode cX7_readWeight 28 = .ok (.getfield 59, 3) := by decide +kernel
theorem dX7_readWeight_31 : decode cX7_readWeight 31 = .ok (.istore_n 3, 1) := by decide +kernel
theorem dX7_readWeight_32 : decode cX7_readWeight 32 = .ok (.aload_n 0, 1) := by decide +kernel
theorem dX7_readWeight_33 : decode cX7_readWeight 33 = .ok (.invokevirtual 32, 3) := by decide +kernel
theorem dX7_readWeight_36 : decode cX7_readWeight 36 = .ok (.aload_n 0, 1) := by decide +kernel
theorem dX7_readWeight_37 : decode cX7_readWeight 37 = .ok (.getfield 12, 3) := by decide +kernel
theorem dX7_readWeight_40 : decode cX7_readWeight 40 = .ok (.iload_n 1, 1) := by decide +kernel
theorem dX7_readWeight_41 : decode cX7_readWeight 41 = .ok (.iload_n 2, 1) := by decide +kernel
theorem dX7_readWeight_42 : decode cX7_readWeight 42 = .ok (.iload_n 3, 1) := by decide +kernel
theorem dX7_readWeight_43 : decode cX7_readWeight 43 = .ok (.invokevirtual 89, 3) := by decide +kernel
theorem dX7_readWeight_46 : decode cX7_readWeight 46 = .ok (.iconst 1, 1) := by decide +kernel
theorem dX7_readWeight_47 : decode cX7_readWeight 47 = .ok (.ireturn, 1) := by decide +kernel
theorem dX7_step_0 : decode cX7_step 0 = .ok (.aload_n 0, 1) := by decide +kernel
theorem dX7_step_1 : decode cX7_step 1 = .ok (.aload_n 0, 1) := by decide +kernel
theorem dX7_step_2 : decode cX7_step 2 = .ok (.getfield 29, 3) := by decide +kernel
theorem dX7_step_5 : decode cX7_step 5 = .ok (.putfield 101, 3) := by decide +kernel
theorem dX7_step_8 : decode cX7_step 8 = .ok (.aload_n 0, 1) := by decide +kernel
theorem dX7_step_9 : decode cX7_step 9 = .ok (.getfield 101, 3) := by decide +kernel
theorem dX7_step_12 : decode cX7_step 12 = .ok (.aload_n 0, 1) := by decide +kernel
theorem dX7_step_13 : decode cX7_step 13 = .ok (.getfield 22, 3) := by decide +kernel
theorem dX7_step_16 : decode cX7_step 16 = .ok (.getfield 138, 3) := by decide +kernel
theorem dX7_step_19 : decode cX7_step 19 = .ok (.if_icmp .ge 33, 3) := by decide +kernel
theorem dX7_step_22 : decode cX7_step 22 = .ok (.aload_n 0, 1) := by decide +kernel
theorem dX7_step_23 : decode cX7_step 23 = .ok (.getfield 22, 3) := by decide +kernel
theorem dX7_step_26 : decode cX7_step 26 = .ok (.aload_n 0, 1) := by decide +kernel
theorem dX7_step_27 : decode cX7_step 27 = .ok (.getfield 101, 3) := by decide +kernel
theorem dX7_step_30 : decode cX7_step 30 = .ok (.invokevirtual 107, 3) := by decide +kernel
theorem dX7_step_33 : decode cX7_step 33 = .ok (.invokestatic 141, 3) := by decide +kernel
theorem dX7_step_36 : decode cX7_step 36 = .ok (.ifCond .eq 16, 3) := by decide +kernel
theorem dX7_step_39 : decode cX7_step 39 = .ok (.aload_n 0, 1) := by decide +kernel
theorem dX7_step_40 : decode cX7_step 40 = .ok (.dup, 1) := by decide +kernel
theorem dX7_step_41 : decode cX7_step 41 = .ok (.getfield 101, 3) := by decide +kernel
theorem dX7_step_44 : decode cX7_step 44 = .ok (.iconst 1, 1) := by decide +kernel
theorem dX7_step_45 : decode cX7_step 45 = .ok (.iadd, 1) := by decide +kernel
theorem dX7_step_46 : decode cX7_step 46 = .ok (.putfield 101, 3) := by decide +kernel
theorem dX7_step_49 : decode cX7_step 49 = .ok (.goto (-41), 3) := by decide +kernel
theorem dX7_step_52 : decode cX7_step 52 = .ok (.aload_n 0, 1) := by decide +kernel
theorem dX7_step_53 : decode cX7_step 53 = .ok (.aload_n 0, 1) := by decide +kernel
theorem dX7_step_54 : decode cX7_step 54 = .ok (.getfield 22, 3) := by decide +kernel
theorem dX7_step_57 : decode cX7_step 57 = .ok (.aload_n 0, 1) := by decide +kernel
theorem dX7_step_58 : decode cX7_step 58 = .ok (.getfield 101, 3) := by decide +kernel
theorem dX7_step_61 : decode cX7_step 61 = .ok (.invokevirtual 107, 3) := by decide +kernel
theorem dX7_step_64 : decode cX7_step 64 = .ok (.invokestatic 144, 3) := by decide +kernel
theorem dX7_step_67 : decode cX7_step 67 = .ok (.putfield 93, 3) := by decide +kernel
theorem dX7_step_70 : decode cX7_step 70 = .ok (.aload_n 0, 1) := by decide +kernel
theorem dX7_step_71 : decode cX7_step 71 = .ok (.aload_n 0, 1) := by decide +kernel
theorem dX7_step_72 : decode cX7_step 72 = .ok (.getfield 93, 3) := by decide +kernel
theorem dX7_step_75 : decode cX7_step 75 = .ok (.ifCond .ne 10, 3) := by decide +kernel
theorem dX7_step_78 : decode cX7_step 78 = .ok (.aload_n 0, 1) := by decide +kernel
theorem dX7_step_79 : decode cX7_step 79 = .ok (.getfield 101, 3) := by decide +kernel
theorem dX7_step_82 : decode cX7_step 82 = .ok (.goto 9, 3) := by decide +kernel
theorem dX7_step_85 : decode cX7_step 85 = .ok (.aload_n 0, 1) := by decide +kernel
theorem dX7_step_86 : decode cX7_step 86 = .ok (.getfield 101, 3) := by decide +kernel
theorem dX7_step_89 : decode cX7_step 89 = .ok (.iconst 1, 1) := by decide +kernel
theorem dX7_step_90 : decode cX7_step 90 = .ok (.iadd, 1) := by decide +kernel
theorem dX7_step_91 : decode cX7_step 91 = .ok (.putfield 29, 3) := by decide +kernel
theorem dX7_step_94 : decode cX7_step 94 = .ok (.aload_n 0, 1) := by decide +kernel
theorem dX7_step_95 : decode cX7_step 95 = .ok (.getfield 93, 3) := by decide +kernel
theorem dX7_step_98 : decode cX7_step 98 = .ok (.iconst 1, 1) := by decide +kernel
theorem dX7_step_99 : decode cX7_step 99 = .ok (.if_icmp .eq 11, 3) := by decide +kernel
theorem dX7_step_102 : decode cX7_step 102 = .ok (.aload_n 0, 1) := by decide +kernel
theorem dX7_step_103 : decode cX7_step 103 = .ok (.getfield 93, 3) := by decide +kernel
theorem dX7_step_106 : decode cX7_step 106 = .ok (.iconst 2, 1) := by decide +kernel
theorem dX7_step_107 : decode cX7_step 107 = .ok (.if_icmp .ne 51, 3) := by decide +kernel
theorem dX7_step_110 : decode cX7_step 110 = .ok (.aload_n 0, 1) := by decide +kernel
theorem dX7_step_111 : decode cX7_step 111 = .ok (.getfield 29, 3) := by decide +kernel
theorem dX7_step_114 : decode cX7_step 114 = .ok (.aload_n 0, 1) := by decide +kernel
theorem dX7_step_115 : decode cX7_step 115 = .ok (.getfield 22, 3) := by decide +kernel
theorem dX7_step_118 : decode cX7_step 118 = .ok (.getfield 138, 3) := by decide +kernel
theorem dX7_step_121 : decode cX7_step 121 = .ok (.if_icmp .ge 37, 3) := by decide +kernel
theorem dX7_step_124 : decode cX7_step 124 = .ok (.aload_n 0, 1) := by decide +kernel
theorem dX7_step_125 : decode cX7_step 125 = .ok (.getfield 22, 3) := by decide +kernel
theorem dX7_step_128 : decode cX7_step 128 = .ok (.aload_n 0, 1) := by decide +kernel
theorem dX7_step_129 : decode cX7_step 129 = .ok (.getfield 29, 3) := by decide +kernel
theorem dX7_step_132 : decode cX7_step 132 = .ok (.invokevirtual 107, 3) := by decide +kernel
theorem dX7_step_135 : decode cX7_step 135 = .ok (.invokestatic 144, 3) := by decide +kernel
theorem dX7_step_138 : decode cX7_step 138 = .ok (.aload_n 0, 1) := by decide +kernel
theorem dX7_step_139 : decode cX7_step 139 = .ok (.getfield 93, 3) := by decide +kernel
theorem dX7_step_142 : decode cX7_step 142 = .ok (.if_icmp .ne 16, 3) := by decide +kernel
theorem dX7_step_145 : decode cX7_step 145 = .ok (.aload_n 0, 1) := by decide +kernel
theorem dX7_step_146 : decode cX7_step 146 = .ok (.dup, 1) := by decide +kernel
theorem dX7_step_147 : decode cX7_step 147 = .ok (.getfield 29, 3) := by decide +kernel
theorem dX7_step_150 : decode cX7_step 150 = .ok (.iconst 1, 1) := by decide +kernel
theorem dX7_step_151 : decode cX7_step 151 = .ok (.iadd, 1) := by decide +kernel
theorem dX7_step_152 : decode cX7_step 152 = .ok (.putfield 29, 3) := by decide +kernel
theorem dX7_step_155 : decode cX7_step 155 = .ok (.goto (-45), 3) := by decide +kernel
theorem dX7_step_158 : decode cX7_step 158 = .ok (.return_, 1) := by decide +kernel
theorem dX7_takeSign_0 : decode cX7_takeSign 0 = .ok (.aload_n 0, 1) := by decide +kernel
theorem dX7_takeSign_1 : decode cX7_takeSign 1 = .ok (.iload_n 1, 1) := by decide +kernel
theorem dX7_takeSign_2 : decode cX7_takeSign 2 = .ok (.invokevirtual 66, 3) := by decide +kernel
theorem dX7_takeSign_5 : decode cX7_takeSign 5 = .ok (.ifCond .ne 9, 3) := by decide +kernel
theorem dX7_takeSign_8 : decode cX7_takeSign 8 = .ok (.aload_n 0, 1) := by decide +kernel
theorem dX7_takeSign_9 : decode cX7_takeSign 9 = .ok (.iconst 1, 1) := by decide +kernel
theorem dX7_takeSign_10 : decode cX7_takeSign 10 = .ok (.invokevirtual 51, 3) := by decide +kernel
theorem dX7_takeSign_13 : decode cX7_takeSign 13 = .ok (.ireturn, 1) := by decide +kernel
theorem dX7_takeSign_14 : decode cX7_takeSign 14 = .ok (.aload_n 0, 1) := by decide +kernel
theorem dX7_takeSign_15 : decode cX7_takeSign 15 = .ok (.invokevirtual 32, 3) := by decide +kernel
theorem dX7_takeSign_18 : decode cX7_takeSign 18 = .ok (.iconst 1, 1) := by decide +kernel
theorem dX7_takeSign_19 : decode cX7_takeSign 19 = .ok (.ireturn, 1) := by decide +kernel
theorem dX8_bagGoing_0 : decode cX8_bagGoing 0 = .ok (.aload_n 0, 1) := by decide +kernel
theorem dX8_bagGoing_1 : decode cX8_bagGoing 1 = .ok (.iload_n 1, 1) := by decide +kernel
theorem dX8_bagGoing_2 : decode cX8_bagGoing 2 = .ok (.invokevirtual 61, 3) := by decide +kernel
theorem dX8_bagGoing_5 : decode cX8_bagGoing 5 = .ok (.istore_n 2, 1) := by decide +kernel
theorem dX8_bagGoing_6 : decode cX8_bagGoing 6 = .ok (.iconst 1, 1) := by decide +kernel
theorem dX8_bagGoing_7 : decode cX8_bagGoing 7 = .ok (.aload_n 0, 1) := by decide +kernel
theorem dX8_bagGoing_8 : decode cX8_bagGoing 8 = .ok (.getfield 21, 3) := by decide +kernel
theorem dX8_bagGoing_11 : decode cX8_bagGoing 11 = .ok (.iload_n 1, 1) := by decide +kernel
theorem dX8_bagGoing_12 : decode cX8_bagGoing 12 = .ok (.iaload, 1) := by decide +kernel
theorem dX8_bagGoing_13 : decode cX8_bagGoing 13 = .ok (.ishl, 1) := by decide +kernel
theorem dX8_bagGoing_14 : decode cX8_bagGoing 14 = .ok (.aload_n 0, 1) := by decide +kernel
theorem dX8_bagGoing_15 : decode cX8_bagGoing 15 = .ok (.iload_n 2, 1) := by decide +kernel
theorem dX8_bagGoing_16 : decode cX8_bagGoing 16 = .ok (.iload_n 2, 1) := by decide +kernel
theorem dX8_bagGoing_17 : decode cX8_bagGoing 17 = .ok (.iconst (-1), 1) := by decide +kernel
theorem dX8_bagGoing_18 : decode cX8_bagGoing 18 = .ok (.ixor, 1) := by decide +kernel
theorem dX8_bagGoing_19 : decode cX8_bagGoing 19 = .ok (.invokestatic 64, 3) := by decide +kernel
theorem dX8_bagGoing_22 : decode cX8_bagGoing 22 = .ok (.ior, 1) := by decide +kernel
theorem dX8_bagGoing_23 : decode cX8_bagGoing 23 = .ok (.ireturn, 1) := by decide +kernel
theorem dX8_bagTaken_0 : decode cX8_bagTaken 0 = .ok (.aload_n 0, 1) := by decide +kernel
theorem dX8_bagTaken_1 : decode cX8_bagTaken 1 = .ok (.getfield 21, 3) := by decide +kernel
theorem dX8_bagTaken_4 : decode cX8_bagTaken 4 = .ok (.iload_n 1, 1) := by decide +kernel
theorem dX8_bagTaken_5 : decode cX8_bagTaken 5 = .ok (.iaload, 1) := by decide +kernel
theorem dX8_bagTaken_6 : decode cX8_bagTaken 6 = .ok (.istore_n 2, 1) := by decide +kernel
theorem dX8_bagTaken_7 : decode cX8_bagTaken 7 = .ok (.iconst 1, 1) := by decide +kernel
theorem dX8_bagTaken_8 : decode cX8_bagTaken 8 = .ok (.iload_n 2, 1) := by decide +kernel
theorem dX8_bagTaken_9 : decode cX8_bagTaken 9 = .ok (.ishl, 1) := by decide +kernel
theorem dX8_bagTaken_10 : decode cX8_bagTaken 10 = .ok (.aload_n 0, 1) := by decide +kernel
theorem dX8_bagTaken_11 : decode cX8_bagTaken 11 = .ok (.aload_n 0, 1) := by decide +kernel
theorem dX8_bagTaken_12 : decode cX8_bagTaken 12 = .ok (.iload_n 1, 1) := by decide +kernel
theorem dX8_bagTaken_13 : decode cX8_bagTaken 13 = .ok (.invokevirtual 61, 3) := by decide +kernel
theorem dX8_bagTaken_16 : decode cX8_bagTaken 16 = .ok (.iload_n 2, 1) := by decide +kernel
theorem dX8_bagTaken_17 : decode cX8_bagTaken 17 = .ok (.invokestatic 67, 3) := by decide +kernel
theorem dX8_bagTaken_20 : decode cX8_bagTaken 20 = .ok (.ior, 1) := by decide +kernel
theorem dX8_bagTaken_21 : decode cX8_bagTaken 21 = .ok (.ireturn, 1) := by decide +kernel
theorem dX8_bitAt_0 : decode cX8_bitAt 0 = .ok (.iconst 0, 1) := by decide +kernel
theorem dX8_bitAt_1 : decode cX8_bitAt 1 = .ok (.istore_n 2, 1) := by decide +kernel
theorem dX8_bitAt_2 : decode cX8_bitAt 2 = .ok (.iconst 0, 1) := by decide +kernel
theorem dX8_bitAt_3 : decode cX8_bitAt 3 = .ok (.istore_n 3, 1) := by decide +kernel
theorem dX8_bitAt_4 : decode cX8_bitAt 4 = .ok (.iload_n 3, 1) := by decide +kernel
theorem dX8_bitAt_5 : decode cX8_bitAt 5 = .ok (.bipush 9, 2) := by decide +kernel
theorem dX8_bitAt_7 : decode cX8_bitAt 7 = .ok (.if_icmp .ge 27, 3) := by decide +kernel
theorem dX8_bitAt_10 : decode cX8_bitAt 10 = .ok (.iload_n 0, 1) := by decide +kernel
theorem dX8_bitAt_11 : decode cX8_bitAt 11 = .ok (.iload_n 3, 1) := by decide +kernel
theorem dX8_bitAt_12 : decode cX8_bitAt 12 = .ok (.ishr, 1) := by decide +kernel
theorem dX8_bitAt_13 : decode cX8_bitAt 13 = .ok (.iconst 1, 1) := by decide +kernel
theorem dX8_bitAt_14 : decode cX8_bitAt 14 = .ok (.iand, 1) := by decide +kernel
theorem dX8_bitAt_15 : decode cX8_bitAt 15 = .ok (.ifCond .eq 13, 3) := by decide +kernel
theorem dX8_bitAt_18 : decode cX8_bitAt 18 = .ok (.iload_n 2, 1) := by decide +kernel
theorem dX8_bitAt_19 : decode cX8_bitAt 19 = .ok (.iload_n 1, 1) := by decide +kernel
theorem dX8_bitAt_20 : decode cX8_bitAt 20 = .ok (.if_icmp .ne 5, 3) := by decide +kernel
theorem dX8_bitAt_23 : decode cX8_bitAt 23 = .ok (.iload_n 3, 1) := by decide +kernel
theorem dX8_bitAt_24 : decode cX8_bitAt 24 = .ok (.ireturn, 1) := by decide +kernel
theorem dX8_bitAt_25 : decode cX8_bitAt 25 = .ok (.iinc 2 1, 3) := by decide +kernel
theorem dX8_bitAt_28 : decode cX8_bitAt 28 = .ok (.iinc 3 1, 3) := by decide +kernel
theorem dX8_bitAt_31 : decode cX8_bitAt 31 = .ok (.goto (-27), 3) := by decide +kernel
theorem dX8_bitAt_34 : decode cX8_bitAt 34 = .ok (.iconst (-1), 1) := by decide +kernel
theorem dX8_bitAt_35 : decode cX8_bitAt 35 = .ok (.ireturn, 1) := by decide +kernel
theorem dX8_changeBestTwo_0 : decode cX8_changeBestTwo 0 = .ok (.aload_n 0, 1) := by decide +kernel
theorem dX8_changeBestTwo_1 : decode cX8_changeBestTwo 1 = .ok (.iload_n 1, 1) := by decide +kernel
theorem dX8_changeBestTwo_2 : decode cX8_changeBestTwo 2 = .ok (.invokestatic 85, 3) := by decide +kernel
theorem dX8_changeBestTwo_5 : decode cX8_changeBestTwo 5 = .ok (.istore_n 2, 1) := by decide +kernel
theorem dX8_changeBestTwo_6 : decode cX8_changeBestTwo 6 = .ok (.iconst (-1), 1) := by decide +kernel
theorem dX8_changeBestTwo_7 : decode cX8_changeBestTwo 7 = .ok (.istore_n 3, 1) := by decide +kernel
theorem dX8_changeBestTwo_8 : decode cX8_changeBestTwo 8 = .ok (.iconst (-1), 1) := by decide +kernel
theorem dX8_changeBestTwo_9 : decode cX8_changeBestTwo 9 = .ok (.istore 4, 2) := by decide +kernel
theorem dX8_changeBestTwo_11 : decode cX8_changeBestTwo 11 = .ok (.iconst 0, 1) := by decide +kernel
theorem dX8_changeBestTwo_12 : decode cX8_changeBestTwo 12 = .ok (.istore 5, 2) := by decide +kernel
theorem dX8_changeBestTwo_14 : decode cX8_changeBestTwo 14 = .ok (.iload 5, 2) := by decide +kernel
theorem dX8_changeBestTwo_16 : decode cX8_changeBestTwo 16 = .ok (.aload_n 0, 1) := by decide +kernel
theorem dX8_changeBestTwo_17 : decode cX8_changeBestTwo 17 = .ok (.getfield 15, 3) := by decide +kernel
theorem dX8_changeBestTwo_20 : decode cX8_changeBestTwo 20 = .ok (.if_icmp .ge 69, 3) := by decide +kernel
theorem dX8_changeBestTwo_23 : decode cX8_changeBestTwo 23 = .ok (.iload 5, 2) := by decide +kernel
theorem dX8_changeBestTwo_25 : decode cX8_changeBestTwo 25 = .ok (.iconst 1, 1) := by decide +kernel
theorem dX8_changeBestTwo_26 : decode cX8_changeBestTwo 26 = .ok (.iadd, 1) := by decide +kernel
theorem dX8_changeBestTwo_27 : decode cX8_changeBestTwo 27 = .ok (.istore 6, 2) := by decide +kernel
theorem dX8_changeBestTwo_29 : decode cX8_changeBestTwo 29 = .ok (.iload 6, 2) := by decide +kernel
theorem dX8_changeBestTwo_31 : decode cX8_changeBestTwo 31 = .ok (.aload_n 0, 1) := by decide +kernel
theorem dX8_changeBestTwo_32 : decode cX8_changeBestTwo 32 = .ok (.getfield 15, 3) := by decide +kernel
theorem dX8_changeBestTwo_35 : decode cX8_changeBestTwo 35 = .ok (.if_icmp .ge 48, 3) := by decide +kernel
theorem dX8_changeBestTwo_38 : decode cX8_changeBestTwo 38 = .ok (.aload_n 0, 1) := by decide +kernel
theorem dX8_changeBestTwo_39 : decode cX8_changeBestTwo 39 = .ok (.iload 5, 2) := by decide +kernel
theorem dX8_changeBestTwo_41 : decode cX8_changeBestTwo 41 = .ok (.iload 6, 2) := by decide +kernel
theorem dX8_changeBestTwo_43 : decode cX8_changeBestTwo 43 = .ok (.invokevirtual 89, 3) := by decide +kernel
theorem dX8_changeBestTwo_46 : decode cX8_changeBestTwo 46 = .ok (.aload_n 0, 1) := by decide +kernel
theorem dX8_changeBestTwo_47 : decode cX8_changeBestTwo 47 = .ok (.iload_n 1, 1) := by decide +kernel
theorem dX8_changeBestTwo_48 : decode cX8_changeBestTwo 48 = .ok (.invokestatic 85, 3) := by decide +kernel
theorem dX8_changeBestTwo_51 : decode cX8_changeBestTwo 51 = .ok (.istore 7, 2) := by decide +kernel
theorem dX8_changeBestTwo_53 : decode cX8_changeBestTwo 53 = .ok (.aload_n 0, 1) := by decide +kernel
theorem dX8_changeBestTwo_54 : decode cX8_changeBestTwo 54 = .ok (.iload 5, 2) := by decide +kernel
theorem dX8_changeBestTwo_56 : decode cX8_changeBestTwo 56 = .ok (.iload 6, 2) := by decide +kernel
theorem dX8_changeBestTwo_58 : decode cX8_changeBestTwo 58 = .ok (.invokevirtual 89, 3) := by decide +kernel
theorem dX8_changeBestTwo_61 : decode cX8_changeBestTwo 61 = .ok (.iload 7, 2) := by decide +kernel
theorem dX8_changeBestTwo_63 : decode cX8_changeBestTwo 63 = .ok (.iload_n 2, 1) := by decide +kernel
theorem dX8_changeBestTwo_64 : decode cX8_changeBestTwo 64 = .ok (.if_icmp .ge 13, 3) := by decide +kernel
theorem dX8_changeBestTwo_67 : decode cX8_changeBestTwo 67 = .ok (.iload 7, 2) := by decide +kernel
theorem dX8_changeBestTwo_69 : decode cX8_changeBestTwo 69 = .ok (.istore_n 2, 1) := by decide +kernel
theorem dX8_changeBestTwo_70 : decode cX8_changeBestTwo 70 = .ok (.iload 5, 2) := by decide +kernel
theorem dX8_changeBestTwo_72 : decode cX8_changeBestTwo 72 = .ok (.istore_n 3, 1) := by decide +kernel
theorem dX8_changeBestTwo_73 : decode cX8_changeBestTwo 73 = .ok (.iload 6, 2) := by decide +kernel
theorem dX8_changeBestTwo_75 : decode cX8_changeBestTwo 75 = .ok (.istore 4, 2) := by decide +kernel
theorem dX8_changeBestTwo_77 : decode cX8_changeBestTwo 77 = .ok (.iinc 6 1, 3) := by decide +kernel
theorem dX8_changeBestTwo_80 : decode cX8_changeBestTwo 80 = .ok (.goto (-51), 3) := by decide +kernel
theorem dX8_changeBestTwo_83 : decode cX8_changeBestTwo 83 = .ok (.iinc 5 1, 3) := by decide +kernel
theorem dX8_changeBestTwo_86 : decode cX8_changeBestTwo 86 = .ok (.goto (-72), 3) := by decide +kernel
theorem dX8_changeBestTwo_89 : decode cX8_changeBestTwo 89 = .ok (.iload_n 3, 1) := by decide +kernel
theorem dX8_changeBestTwo_90 : decode cX8_changeBestTwo 90 = .ok (.iconst (-1), 1) := by decide +kernel
theorem dX8_changeBestTwo_91 : decode cX8_changeBestTwo 91 = .ok (.if_icmp .ne 5, 3) := by decide +kernel
theorem dX8_changeBestTwo_94 : decode cX8_changeBestTwo 94 = .ok (.iconst 0, 1) := by decide +kernel
theorem dX8_changeBestTwo_95 : decode cX8_changeBestTwo 95 = .ok (.ireturn, 1) := by decide +kernel
theorem dX8_changeBestTwo_96 : decode cX8_changeBestTwo 96 = .ok (.aload_n 0, 1) := by decide +kernel
theorem dX8_changeBestTwo_97 : decode cX8_changeBestTwo 97 = .ok (.iload_n 3, 1) := by decide +kernel
theorem dX8_changeBestTwo_98 : decode cX8_changeBestTwo 98 = .ok (.iload 4, 2) := by decide +kernel
theorem dX8_changeBestTwo_100 : decode cX8_changeBestTwo 100 = .ok (.invokevirtual 89, 3) := by decide +kernel
theorem dX8_changeBestTwo_103 : decode cX8_changeBestTwo 103 = .ok (.iconst 1, 1) := by decide +kernel
theorem dX8_changeBestTwo_104 : decode cX8_changeBestTwo 104 = .ok (.ireturn, 1) := by decide +kernel
theorem dX8_longestLine_0 : decode cX8_longestLine 0 = .ok (.iconst (-1), 1) := by decide +kernel
theorem dX8_longestLine_1 : decode cX8_longestLine 1 = .ok (.istore_n 1, 1) := by decide +kernel
theorem dX8_longestLine_2 : decode cX8_longestLine 2 = .ok (.iconst 0, 1) := by decide +kernel
theorem dX8_longestLine_3 : decode cX8_longestLine 3 = .ok (.istore_n 2, 1) := by decide +kernel
theorem dX8_longestLine_4 : decode cX8_longestLine 4 = .ok (.iconst 0, 1) := by decide +kernel
theorem dX8_longestLine_5 : decode cX8_longestLine 5 = .ok (.istore_n 3, 1) := by decide +kernel
theorem dX8_longestLine_6 : decode cX8_longestLine 6 = .ok (.iload_n 3, 1) := by decide +kernel
theorem dX8_longestLine_7 : decode cX8_longestLine 7 = .ok (.aload_n 0, 1) := by decide +kernel
theorem dX8_longestLine_8 : decode cX8_longestLine 8 = .ok (.getfield 15, 3) := by decide +kernel
theorem dX8_longestLine_11 : decode cX8_longestLine 11 = .ok (.if_icmp .ge 73, 3) := by decide +kernel
theorem dX8_longestLine_14 : decode cX8_longestLine 14 = .ok (.iload_n 3, 1) := by decide +kernel
theorem dX8_longestLine_15 : decode cX8_longestLine 15 = .ok (.iconst 1, 1) := by decide +kernel
theorem dX8_longestLine_16 : decode cX8_longestLine 16 = .ok (.iadd, 1) := by decide +kernel
theorem dX8_longestLine_17 : decode cX8_longestLine 17 = .ok (.istore 4, 2) := by decide +kernel
theorem dX8_longestLine_19 : decode cX8_longestLine 19 = .ok (.iload 4, 2) := by decide +kernel
theorem dX8_longestLine_21 : decode cX8_longestLine 21 = .ok (.aload_n 0, 1) := by decide +kernel
theorem dX8_longestLine_22 : decode cX8_longestLine 22 = .ok (.getfield 15, 3) := by decide +kernel
theorem dX8_longestLine_25 : decode cX8_longestLine 25 = .ok (.if_icmp .ge 53, 3) := by decide +kernel
theorem dX8_longestLine_28 : decode cX8_longestLine 28 = .ok (.aload_n 0, 1) := by decide +kernel
theorem dX8_longestLine_29 : decode cX8_longestLine 29 = .ok (.iload_n 3, 1) := by decide +kernel
theorem dX8_longestLine_30 : decode cX8_longestLine 30 = .ok (.invokevirtual 55, 3) := by decide +kernel
theorem dX8_longestLine_33 : decode cX8_longestLine 33 = .ok (.aload_n 0, 1) := by decide +kernel
theorem dX8_longestLine_34 : decode cX8_longestLine 34 = .ok (.iload 4, 2) := by decide +kernel
theorem dX8_longestLine_36 : decode cX8_longestLine 36 = .ok (.invokevirtual 55, 3) := by decide +kernel
theorem dX8_longestLine_39 : decode cX8_longestLine 39 = .ok (.isub, 1) := by decide +kernel
theorem dX8_longestLine_40 : decode cX8_longestLine 40 = .ok (.invokestatic 58, 3) := by decide +kernel
theorem dX8_longestLine_43 : decode cX8_longestLine 43 = .ok (.istore 5, 2) := by decide +kernel
theorem dX8_longestLine_45 : decode cX8_longestLine 45 = .ok (.aload_n 0, 1) := by decide +kernel
theorem dX8_longestLine_46 : decode cX8_longestLine 46 = .ok (.iload_n 3, 1) := by decide +kernel
theorem dX8_longestLine_47 : decode cX8_longestLine 47 = .ok (.iload 4, 2) := by decide +kernel
theorem dX8_longestLine_49 : decode cX8_longestLine 49 = .ok (.invokevirtual 38, 3) := by decide +kernel
theorem dX8_longestLine_52 : decode cX8_longestLine 52 = .ok (.ifCond .le 20, 3) := by decide +kernel
theorem dX8_longestLine_55 : decode cX8_longestLine 55 = .ok (.iload 5, 2) := by decide +kernel
theorem dX8_longestLine_57 : decode cX8_longestLine 57 = .ok (.iload_n 2, 1) := by decide +kernel
theorem dX8_longestLine_58 : decode cX8_longestLine 58 = .ok (.if_icmp .le 14, 3) := by decide +kernel
theorem dX8_longestLine_61 : decode cX8_longestLine 61 = .ok (.iload 5, 2) := by decide +kernel
theorem dX8_longestLine_63 : decode cX8_longestLine 63 = .ok (.istore_n 2, 1) := by decide +kernel
theorem dX8_longestLine_64 : decode cX8_longestLine 64 = .ok (.bipush 10, 2) := by decide +kernel
theorem dX8_longestLine_66 : decode cX8_longestLine 66 = .ok (.iload_n 3, 1) := by decide +kernel
theorem dX8_longestLine_67 : decode cX8_longestLine 67 = .ok (.imul, 1) := by decide +kernel
theorem dX8_longestLine_68 : decode cX8_longestLine 68 = .ok (.iload 4, 2) := by decide +kernel
theorem dX8_longestLine_70 : decode cX8_longestLine 70 = .ok (.iadd, 1) := by decide +kernel
theorem dX8_longestLine_71 : decode cX8_longestLine 71 = .ok (.istore_n 1, 1) := by decide +kernel
theorem dX8_longestLine_72 : decode cX8_longestLine 72 = .ok (.iinc 4 1, 3) := by decide +kernel
theorem dX8_longestLine_75 : decode cX8_longestLine 75 = .ok (.goto (-56), 3) := by decide +kernel
theorem dX8_longestLine_78 : decode cX8_longestLine 78 = .ok (.iinc 3 1, 3) := by decide +kernel
theorem dX8_longestLine_81 : decode cX8_longestLine 81 = .ok (.goto (-75), 3) := by decide +kernel
theorem dX8_longestLine_84 : decode cX8_longestLine 84 = .ok (.iload_n 1, 1) := by decide +kernel
theorem dX8_longestLine_85 : decode cX8_longestLine 85 = .ok (.ireturn, 1) := by decide +kernel
theorem dX8_makeGreedy_0 : decode cX8_makeGreedy 0 = .ok (.iconst 0, 1) := by decide +kernel
theorem dX8_makeGreedy_1 : decode cX8_makeGreedy 1 = .ok (.istore_n 2, 1) := by decide +kernel
theorem dX8_makeGreedy_2 : decode cX8_makeGreedy 2 = .ok (.iconst 0, 1) := by decide +kernel
theorem dX8_makeGreedy_3 : decode cX8_makeGreedy 3 = .ok (.istore_n 3, 1) := by decide +kernel
theorem dX8_makeGreedy_4 : decode cX8_makeGreedy 4 = .ok (.iload_n 3, 1) := by decide +kernel
theorem dX8_makeGreedy_5 : decode cX8_makeGreedy 5 = .ok (.aload_n 0, 1) := by decide +kernel
theorem dX8_makeGreedy_6 : decode cX8_makeGreedy 6 = .ok (.getfield 15, 3) := by decide +kernel
theorem dX8_makeGreedy_9 : decode cX8_makeGreedy 9 = .ok (.if_icmp .ge 93, 3) := by decide +kernel
theorem dX8_makeGreedy_12 : decode cX8_makeGreedy 12 = .ok (.iconst (-1), 1) := by decide +kernel
theorem dX8_makeGreedy_13 : decode cX8_makeGreedy 13 = .ok (.istore 4, 2) := by decide +kernel
theorem dX8_makeGreedy_15 : decode cX8_makeGreedy 15 = .ok (.ldc 93, 2) := by decide +kernel
theorem dX8_makeGreedy_17 : decode cX8_makeGreedy 17 = .ok (.istore 5, 2) := by decide +kernel
theorem dX8_makeGreedy_19 : decode cX8_makeGreedy 19 = .ok (.iconst 0, 1) := by decide +kernel
theorem dX8_makeGreedy_20 : decode cX8_makeGreedy 20 = .ok (.istore 6, 2) := by decide +kernel
theorem dX8_makeGreedy_22 : decode cX8_makeGreedy 22 = .ok (.iload 6, 2) := by decide +kernel
theorem dX8_makeGreedy_24 : decode cX8_makeGreedy 24 = .ok (.aload_n 0, 1) := by decide +kernel
theorem dX8_makeGreedy_25 : decode cX8_makeGreedy 25 = .ok (.getfield 15, 3) := by decide +kernel
theorem dX8_makeGreedy_28 : decode cX8_makeGreedy 28 = .ok (.if_icmp .ge 53, 3) := by decide +kernel
theorem dX8_makeGreedy_31 : decode cX8_makeGreedy 31 = .ok (.iload_n 2, 1) := by decide +kernel
theorem dX8_makeGreedy_32 : decode cX8_makeGreedy 32 = .ok (.iload 6, 2) := by decide +kernel
theorem dX8_makeGreedy_34 : decode cX8_makeGreedy 34 = .ok (.ishr, 1) := by decide +kernel
theorem dX8_makeGreedy_35 : decode cX8_makeGreedy 35 = .ok (.iconst 1, 1) := by decide +kernel
theorem dX8_makeGreedy_36 : decode cX8_makeGreedy 36 = .ok (.iand, 1) := by decide +kernel
theorem dX8_makeGreedy_37 : decode cX8_makeGreedy 37 = .ok (.ifCond .ne 38, 3) := by decide +kernel
theorem dX8_makeGreedy_40 : decode cX8_makeGreedy 40 = .ok (.iload_n 1, 1) := by decide +kernel
theorem dX8_makeGreedy_41 : decode cX8_makeGreedy 41 = .ok (.iload_n 2, 1) := by decide +kernel
theorem dX8_makeGreedy_42 : decode cX8_makeGreedy 42 = .ok (.iload 6, 2) := by decide +kernel
theorem dX8_makeGreedy_44 : decode cX8_makeGreedy 44 = .ok (.invokestatic 25, 3) := by decide +kernel
theorem dX8_makeGreedy_47 : decode cX8_makeGreedy 47 = .ok (.istore 7, 2) := by decide +kernel
theorem dX8_makeGreedy_49 : decode cX8_makeGreedy 49 = .ok (.aload_n 0, 1) := by decide +kernel
theorem dX8_makeGreedy_50 : decode cX8_makeGreedy 50 = .ok (.iload_n 1, 1) := by decide +kernel
theorem dX8_makeGreedy_51 : decode cX8_makeGreedy 51 = .ok (.iload 7, 2) := by decide +kernel
theorem dX8_makeGreedy_53 : decode cX8_makeGreedy 53 = .ok (.iload 6, 2) := by decide +kernel
theorem dX8_makeGreedy_55 : decode cX8_makeGreedy 55 = .ok (.invokestatic 31, 3) := by decide +kernel
theorem dX8_makeGreedy_58 : decode cX8_makeGreedy 58 = .ok (.istore 8, 2) := by decide +kernel
theorem dX8_makeGreedy_60 : decode cX8_makeGreedy 60 = .ok (.iload 8, 2) := by decide +kernel
theorem dX8_makeGreedy_62 : decode cX8_makeGreedy 62 = .ok (.iload 5, 2) := by decide +kernel
theorem dX8_makeGreedy_64 : decode cX8_makeGreedy 64 = .ok (.if_icmp .ge 11, 3) := by decide +kernel
theorem dX8_makeGreedy_67 : decode cX8_makeGreedy 67 = .ok (.iload 8, 2) := by decide +kernel
theorem dX8_makeGreedy_69 : decode cX8_makeGreedy 69 = .ok (.istore 5, 2) := by decide +kernel
theorem dX8_makeGreedy_71 : decode cX8_makeGreedy 71 = .ok (.iload 6, 2) := by decide +kernel
theorem dX8_makeGreedy_73 : decode cX8_makeGreedy 73 = .ok (.istore 4, 2) := by decide +kernel
theorem dX8_makeGreedy_75 : decode cX8_makeGreedy 75 = .ok (.iinc 6 1, 3) := by decide +kernel
theorem dX8_makeGreedy_78 : decode cX8_makeGreedy 78 = .ok (.goto (-56), 3) := by decide +kernel
theorem dX8_makeGreedy_81 : decode cX8_makeGreedy 81 = .ok (.aload_n 0, 1) := by decide +kernel
theorem dX8_makeGreedy_82 : decode cX8_makeGreedy 82 = .ok (.getfield 21, 3) := by decide +kernel
theorem dX8_makeGreedy_85 : decode cX8_makeGreedy 85 = .ok (.iload_n 3, 1) := by decide +kernel
theorem dX8_makeGreedy_86 : decode cX8_makeGreedy 86 = .ok (.iload 4, 2) := by decide +kernel
theorem dX8_makeGreedy_88 : decode cX8_makeGreedy 88 = .ok (.iastore, 1) := by decide +kernel
theorem dX8_makeGreedy_89 : decode cX8_makeGreedy 89 = .ok (.iload_n 2, 1) := by decide +kernel
theorem dX8_makeGreedy_90 : decode cX8_makeGreedy 90 = .ok (.iconst 1, 1) := by decide +kernel
theorem dX8_makeGreedy_91 : decode cX8_makeGreedy 91 = .ok (.iload 4, 2) := by decide +kernel
theorem dX8_makeGreedy_93 : decode cX8_makeGreedy 93 = .ok (.ishl, 1) := by decide +kernel
theorem dX8_makeGreedy_94 : decode cX8_makeGreedy 94 = .ok (.ior, 1) := by decide +kernel
theorem dX8_makeGreedy_95 : decode cX8_makeGreedy 95 = .ok (.istore_n 2, 1) := by decide +kernel
theorem dX8_makeGreedy_96 : decode cX8_makeGreedy 96 = .ok (.iinc 3 1, 3) := by decide +kernel
theorem dX8_makeGreedy_99 : decode cX8_makeGreedy 99 = .ok (.goto (-95), 3) := by decide +kernel
theorem dX8_makeGreedy_102 : decode cX8_makeGreedy 102 = .ok (.return_, 1) := by decide +kernel
theorem dX8_makeLayers_0 : decode cX8_makeLayers 0 = .ok (.iconst 0, 1) := by decide +kernel
theorem dX8_makeLayers_1 : decode cX8_makeLayers 1 = .ok (.istore_n 2, 1) := by decide +kernel
theorem dX8_makeLayers_2 : decode cX8_makeLayers 2 = .ok (.iconst 0, 1) := by decide +kernel
theorem dX8_makeLayers_3 : decode cX8_makeLayers 3 = .ok (.istore_n 3, 1) := by decide +kernel
theorem dX8_makeLayers_4 : decode cX8_makeLayers 4 = .ok (.iconst 1, 1) := by decide +kernel
theorem dX8_makeLayers_5 : decode cX8_makeLayers 5 = .ok (.iload_n 1, 1) := by decide +kernel
theorem dX8_makeLayers_6 : decode cX8_makeLayers 6 = .ok (.ishl, 1) := by decide +kernel
theorem dX8_makeLayers_7 : decode cX8_makeLayers 7 = .ok (.istore 4, 2) := by decide +kernel
theorem dX8_makeLayers_9 : decode cX8_makeLayers 9 = .ok (.iconst 0, 1) := by decide +kernel
theorem dX8_makeLayers_10 : decode cX8_makeLayers 10 = .ok (.istore 5, 2) := by decide +kernel
theorem dX8_makeLayers_12 : decode cX8_makeLayers 12 = .ok (.iload 5, 2) := by decide +kernel
theorem dX8_makeLayers_14 : decode cX8_makeLayers 14 = .ok (.aload_n 0, 1) := by decide +kernel
theorem dX8_makeLayers_15 : decode cX8_makeLayers 15 = .ok (.getfield 15, 3) := by decide +kernel
theorem dX8_makeLayers_18 : decode cX8_makeLayers 18 = .ok (.if_icmp .ge 33, 3) := by decide +kernel
theorem dX8_makeLayers_21 : decode cX8_makeLayers 21 = .ok (.aload_n 0, 1) := by decide +kernel
theorem dX8_makeLayers_22 : decode cX8_makeLayers 22 = .ok (.iload_n 2, 1) := by decide +kernel
theorem dX8_makeLayers_23 : decode cX8_makeLayers 23 = .ok (.iload 4, 2) := by decide +kernel
theorem dX8_makeLayers_25 : decode cX8_makeLayers 25 = .ok (.iload_n 3, 1) := by decide +kernel
theorem dX8_makeLayers_26 : decode cX8_makeLayers 26 = .ok (.iconst (-1), 1) := by decide +kernel
theorem dX8_makeLayers_27 : decode cX8_makeLayers 27 = .ok (.ixor, 1) := by decide +kernel
theorem dX8_makeLayers_28 : decode cX8_makeLayers 28 = .ok (.iand, 1) := by decide +kernel
theorem dX8_makeLayers_29 : decode cX8_makeLayers 29 = .ok (.invokestatic 94, 3) := by decide +kernel
theorem dX8_makeLayers_32 : decode cX8_makeLayers 32 = .ok (.istore_n 2, 1) := by decide +kernel
theorem dX8_makeLayers_33 : decode cX8_makeLayers 33 = .ok (.iload_n 3, 1) := by decide +kernel
theorem dX8_makeLayers_34 : decode cX8_makeLayers 34 = .ok (.iload 4, 2) := by decide +kernel
theorem dX8_makeLayers_36 : decode cX8_makeLayers 36 = .ok (.ior, 1) := by decide +kernel
theorem dX8_makeLayers_37 : decode cX8_makeLayers 37 = .ok (.istore_n 3, 1) := by decide +kernel
theorem dX8_makeLayers_38 : decode cX8_makeLayers 38 = .ok (.aload_n 0, 1) := by decide +kernel
theorem dX8_makeLayers_39 : decode cX8_makeLayers 39 = .ok (.iload_n 3, 1) := by decide +kernel
theorem dX8_makeLayers_40 : decode cX8_makeLayers 40 = .ok (.invokestatic 97, 3) := by decide +kernel
theorem dX8_makeLayers_43 : decode cX8_makeLayers 43 = .ok (.istore 4, 2) := by decide +kernel
theorem dX8_makeLayers_45 : decode cX8_makeLayers 45 = .ok (.iinc 5 1, 3) := by decide +kernel
theorem dX8_makeLayers_48 : decode cX8_makeLayers 48 = .ok (.goto (-36), 3) := by decide +kernel
theorem dX8_makeLayers_51 : decode cX8_makeLayers 51 = .ok (.aload_n 0, 1) := by decide +kernel
theorem dX8_makeLayers_52 : decode cX8_makeLayers 52 = .ok (.iload_n 2, 1) := by decide +kernel
theorem dX8_makeLayers_53 : decode cX8_makeLayers 53 = .ok (.aload_n 0, 1) := by decide +kernel
theorem dX8_makeLayers_54 : decode cX8_makeLayers 54 = .ok (.invokevirtual 102, 3) := by decide +kernel
theorem dX8_makeLayers_57 : decode cX8_makeLayers 57 = .ok (.iload_n 3, 1) := by decide +kernel
theorem dX8_makeLayers_58 : decode cX8_makeLayers 58 = .ok (.iconst (-1), 1) := by decide +kernel
theorem dX8_makeLayers_59 : decode cX8_makeLayers 59 = .ok (.ixor, 1) := by decide +kernel
theorem dX8_makeLayers_60 : decode cX8_makeLayers 60 = .ok (.iand, 1) := by decide +kernel
theorem dX8_makeLayers_61 : decode cX8_makeLayers 61 = .ok (.invokestatic 94, 3) := by decide +kernel
theorem dX8_makeLayers_64 : decode cX8_makeLayers 64 = .ok (.pop, 1) := by decide +kernel
theorem dX8_makeLayers_65 : decode cX8_makeLayers 65 = .ok (.return_, 1) := by decide +kernel
theorem dX8_measured_0 : decode cX8_measured 0 = .ok (.iload_n 1, 1) := by decide +kernel
theorem dX8_measured_1 : decode cX8_measured 1 = .ok (.iconst 2, 1) := by decide +kernel
theorem dX8_measured_2 : decode cX8_measured 2 = .ok (.if_icmp .ne 8, 3) := by decide +kernel
theorem dX8_measured_5 : decode cX8_measured 5 = .ok (.aload_n 0, 1) := by decide +kernel
theorem dX8_measured_6 : decode cX8_measured 6 = .ok (.invokestatic 9, 3) := by decide +kernel
theorem dX8_measured_9 : decode cX8_measured 9 = .ok (.ireturn, 1) := by decide +kernel
theorem dX8_measured_10 : decode cX8_measured 10 = .ok (.iconst 0, 1) := by decide +kernel
theorem dX8_measured_11 : decode cX8_measured 11 = .ok (.istore_n 2, 1) := by decide +kernel
theorem dX8_measured_12 : decode cX8_measured 12 = .ok (.iconst 0, 1) := by decide +kernel
theorem dX8_measured_13 : decode cX8_measured 13 = .ok (.istore_n 3, 1) := by decide +kernel
theorem dX8_measured_14 : decode cX8_measured 14 = .ok (.iconst 0, 1) := by decide +kernel
theorem dX8_measured_15 : decode cX8_measured 15 = .ok (.istore 4, 2) := by decide +kernel
theorem dX8_measured_17 : decode cX8_measured 17 = .ok (.iload 4, 2) := by decide +kernel
theorem dX8_measured_19 : decode cX8_measured 19 = .ok (.aload_n 0, 1) := by decide +kernel
theorem dX8_measured_20 : decode cX8_measured 20 = .ok (.getfield 15, 3) := by decide +kernel
theorem dX8_measured_23 : decode cX8_measured 23 = .ok (.if_icmp .ge 49, 3) := by decide +kernel
theorem dX8_measured_26 : decode cX8_measured 26 = .ok (.aload_n 0, 1) := by decide +kernel
theorem dX8_measured_27 : decode cX8_measured 27 = .ok (.getfield 21, 3) := by decide +kernel
theorem dX8_measured_30 : decode cX8_measured 30 = .ok (.iload 4, 2) := by decide +kernel
theorem dX8_measured_32 : decode cX8_measured 32 = .ok (.iaload, 1) := by decide +kernel
theorem dX8_measured_33 : decode cX8_measured 33 = .ok (.istore 5, 2) := by decide +kernel
theorem dX8_measured_35 : decode cX8_measured 35 = .ok (.iload_n 1, 1) := by decide +kernel
theorem dX8_measured_36 : decode cX8_measured 36 = .ok (.iload_n 3, 1) := by decide +kernel
theorem dX8_measured_37 : decode cX8_measured 37 = .ok (.iload 5, 2) := by decide +kernel
theorem dX8_measured_39 : decode cX8_measured 39 = .ok (.invokestatic 25, 3) := by decide +kernel
theorem dX8_measured_42 : decode cX8_measured 42 = .ok (.istore 6, 2) := by decide +kernel
theorem dX8_measured_44 : decode cX8_measured 44 = .ok (.iload_n 1, 1) := by decide +kernel
theorem dX8_measured_45 : decode cX8_measured 45 = .ok (.iload_n 2, 1) := by decide +kernel
theorem dX8_measured_46 : decode cX8_measured 46 = .ok (.aload_n 0, 1) := by decide +kernel
theorem dX8_measured_47 : decode cX8_measured 47 = .ok (.iload_n 1, 1) := by decide +kernel
theorem dX8_measured_48 : decode cX8_measured 48 = .ok (.iload 6, 2) := by decide +kernel
theorem dX8_measured_50 : decode cX8_measured 50 = .ok (.iload 5, 2) := by decide +kernel
theorem dX8_measured_52 : decode cX8_measured 52 = .ok (.invokestatic 31, 3) := by decide +kernel
theorem dX8_measured_55 : decode cX8_measured 55 = .ok (.invokestatic 35, 3) := by decide +kernel
theorem dX8_measured_58 : decode cX8_measured 58 = .ok (.istore_n 2, 1) := by decide +kernel
theorem dX8_measured_59 : decode cX8_measured 59 = .ok (.iload_n 3, 1) := by decide +kernel
theorem dX8_measured_60 : decode cX8_measured 60 = .ok (.iconst 1, 1) := by decide +kernel
theorem dX8_measured_61 : decode cX8_measured 61 = .ok (.iload 5, 2) := by decide +kernel
theorem dX8_measured_63 : decode cX8_measured 63 = .ok (.ishl, 1) := by decide +kernel
theorem dX8_measured_64 : decode cX8_measured 64 = .ok (.ior, 1) := by decide +kernel
theorem dX8_measured_65 : decode cX8_measured 65 = .ok (.istore_n 3, 1) := by decide +kernel
theorem dX8_measured_66 : decode cX8_measured 66 = .ok (.iinc 4 1, 3) := by decide +kernel
theorem dX8_measured_69 : decode cX8_measured 69 = .ok (.goto (-52), 3) := by decide +kernel
theorem dX8_measured_72 : decode cX8_measured 72 = .ok (.iload_n 2, 1) := by decide +kernel
theorem dX8_measured_73 : decode cX8_measured 73 = .ok (.ireturn, 1) := by decide +kernel
theorem dX8_newLine_0 : decode cX8_newLine 0 = .ok (.iconst 0, 1) := by decide +kernel
theorem dX8_newLine_1 : decode cX8_newLine 1 = .ok (.istore_n 2, 1) := by decide +kernel
theorem dX8_newLine_2 : decode cX8_newLine 2 = .ok (.iconst 0, 1) := by decide +kernel
theorem dX8_newLine_3 : decode cX8_newLine 3 = .ok (.istore_n 3, 1) := by decide +kernel
theorem dX8_newLine_4 : decode cX8_newLine 4 = .ok (.iconst 0, 1) := by decide +kernel
theorem dX8_newLine_5 : decode cX8_newLine 5 = .ok (.istore 4, 2) := by decide +kernel
theorem dX8_newLine_7 : decode cX8_newLine 7 = .ok (.iload 4, 2) := by decide +kernel
theorem dX8_newLine_9 : decode cX8_newLine 9 = .ok (.aload_n 0, 1) := by decide +kernel
theorem dX8_newLine_10 : decode cX8_newLine 10 = .ok (.getfield 15, 3) := by decide +kernel
theorem dX8_newLine_13 : decode cX8_newLine 13 = .ok (.if_icmp .ge 125, 3) := by decide +kernel
theorem dX8_newLine_16 : decode cX8_newLine 16 = .ok (.aload_n 0, 1) := by decide +kernel
theorem dX8_newLine_17 : decode cX8_newLine 17 = .ok (.getfield 21, 3) := by decide +kernel
theorem dX8_newLine_20 : decode cX8_newLine 20 = .ok (.iload 4, 2) := by decide +kernel
theorem dX8_newLine_22 : decode cX8_newLine 22 = .ok (.iaload, 1) := by decide +kernel
theorem dX8_newLine_23 : decode cX8_newLine 23 = .ok (.istore 5, 2) := by decide +kernel
theorem dX8_newLine_25 : decode cX8_newLine 25 = .ok (.aload_n 0, 1) := by decide +kernel
theorem dX8_newLine_26 : decode cX8_newLine 26 = .ok (.iload_n 2, 1) := by decide +kernel
theorem dX8_newLine_27 : decode cX8_newLine 27 = .ok (.iload 5, 2) := by decide +kernel
theorem dX8_newLine_29 : decode cX8_newLine 29 = .ok (.invokestatic 67, 3) := by decide +kernel
theorem dX8_newLine_32 : decode cX8_newLine 32 = .ok (.istore 6, 2) := by decide +kernel
theorem dX8_newLine_34 : decode cX8_newLine 34 = .ok (.iconst 0, 1) := by decide +kernel
theorem dX8_newLine_35 : decode cX8_newLine 35 = .ok (.istore 7, 2) := by decide +kernel
theorem dX8_newLine_37 : decode cX8_newLine 37 = .ok (.iload 7, 2) := by decide +kernel
theorem dX8_newLine_39 : decode cX8_newLine 39 = .ok (.aload_n 0, 1) := by decide +kernel
theorem dX8_newLine_40 : decode cX8_newLine 40 = .ok (.getfield 15, 3) := by decide +kernel
theorem dX8_newLine_43 : decode cX8_newLine 43 = .ok (.if_icmp .ge 82, 3) := by decide +kernel
theorem dX8_newLine_46 : decode cX8_newLine 46 = .ok (.iload 6, 2) := by decide +kernel
theorem dX8_newLine_48 : decode cX8_newLine 48 = .ok (.iload 7, 2) := by decide +kernel
theorem dX8_newLine_50 : decode cX8_newLine 50 = .ok (.ishr, 1) := by decide +kernel
theorem dX8_newLine_51 : decode cX8_newLine 51 = .ok (.iconst 1, 1) := by decide +kernel
theorem dX8_newLine_52 : decode cX8_newLine 52 = .ok (.iand, 1) := by decide +kernel
theorem dX8_newLine_53 : decode cX8_newLine 53 = .ok (.ifCond .ne 7, 3) := by decide +kernel
theorem dX8_newLine_56 : decode cX8_newLine 56 = .ok (.iconst 0, 1) := by decide +kernel
theorem dX8_newLine_57 : decode cX8_newLine 57 = .ok (.goto 20, 3) := by decide +kernel
theorem dX8_newLine_60 : decode cX8_newLine 60 = .ok (.iload 6, 2) := by decide +kernel
theorem dX8_newLine_62 : decode cX8_newLine 62 = .ok (.iload 7, 2) := by decide +kernel
theorem dX8_newLine_64 : decode cX8_newLine 64 = .ok (.invokestatic 70, 3) := by decide +kernel
theorem dX8_newLine_67 : decode cX8_newLine 67 = .ok (.aload_n 0, 1) := by decide +kernel
theorem dX8_newLine_68 : decode cX8_newLine 68 = .ok (.iload_n 2, 1) := by decide +kernel
theorem dX8_newLine_69 : decode cX8_newLine 69 = .ok (.iload 7, 2) := by decide +kernel
theorem dX8_newLine_71 : decode cX8_newLine 71 = .ok (.invokestatic 67, 3) := by decide +kernel
theorem dX8_newLine_74 : decode cX8_newLine 74 = .ok (.iconst (-1), 1) := by decide +kernel
theorem dX8_newLine_75 : decode cX8_newLine 75 = .ok (.ixor, 1) := by decide +kernel
theorem dX8_newLine_76 : decode cX8_newLine 76 = .ok (.iand, 1) := by decide +kernel
theorem dX8_newLine_77 : decode cX8_newLine 77 = .ok (.istore 8, 2) := by decide +kernel
theorem dX8_newLine_79 : decode cX8_newLine 79 = .ok (.iload 8, 2) := by decide +kernel
theorem dX8_newLine_81 : decode cX8_newLine 81 = .ok (.invokestatic 73, 3) := by decide +kernel
theorem dX8_newLine_84 : decode cX8_newLine 84 = .ok (.istore 9, 2) := by decide +kernel
theorem dX8_newLine_86 : decode cX8_newLine 86 = .ok (.iload_n 1, 1) := by decide +kernel
theorem dX8_newLine_87 : decode cX8_newLine 87 = .ok (.iload_n 3, 1) := by decide +kernel
theorem dX8_newLine_88 : decode cX8_newLine 88 = .ok (.if_icmp .lt 26, 3) := by decide +kernel
theorem dX8_newLine_91 : decode cX8_newLine 91 = .ok (.iload_n 1, 1) := by decide +kernel
theorem dX8_newLine_92 : decode cX8_newLine 92 = .ok (.iload_n 3, 1) := by decide +kernel
theorem dX8_newLine_93 : decode cX8_newLine 93 = .ok (.iload 9, 2) := by decide +kernel
theorem dX8_newLine_95 : decode cX8_newLine 95 = .ok (.iadd, 1) := by decide +kernel
theorem dX8_newLine_96 : decode cX8_newLine 96 = .ok (.if_icmp .ge 18, 3) := by decide +kernel
theorem dX8_newLine_99 : decode cX8_newLine 99 = .ok (.bipush 10, 2) := by decide +kernel
theorem dX8_newLine_101 : decode cX8_newLine 101 = .ok (.iload 7, 2) := by decide +kernel
theorem dX8_newLine_103 : decode cX8_newLine 103 = .ok (.imul, 1) := by decide +kernel
theorem dX8_newLine_104 : decode cX8_newLine 104 = .ok (.iload 8, 2) := by decide +kernel
theorem dX8_newLine_106 : decode cX8_newLine 106 = .ok (.iload_n 1, 1) := by decide +kernel
theorem dX8_newLine_107 : decode cX8_newLine 107 = .ok (.iload_n 3, 1) := by decide +kernel
theorem dX8_newLine_108 : decode cX8_newLine 108 = .ok (.isub, 1) := by decide +kernel
theorem dX8_newLine_109 : decode cX8_newLine 109 = .ok (.invokestatic 78, 3) := by decide +kernel
theorem dX8_newLine_112 : decode cX8_newLine 112 = .ok (.iadd, 1) := by decide +kernel
theorem dX8_newLine_113 : decode cX8_newLine 113 = .ok (.ireturn, 1) := by decide +kernel
theorem dX8_newLine_114 : decode cX8_newLine 114 = .ok (.iload_n 3, 1) := by decide +kernel
theorem dX8_newLine_115 : decode cX8_newLine 115 = .ok (.iload 9, 2) := by decide +kernel
theorem dX8_newLine_117 : decode cX8_newLine 117 = .ok (.iadd, 1) := by decide +kernel
theorem dX8_newLine_118 : decode cX8_newLine 118 = .ok (.istore_n 3, 1) := by decide +kernel
theorem dX8_newLine_119 : decode cX8_newLine 119 = .ok (.iinc 7 1, 3) := by decide +kernel
theorem dX8_newLine_122 : decode cX8_newLine 122 = .ok (.goto (-85), 3) := by decide +kernel
theorem dX8_newLine_125 : decode cX8_newLine 125 = .ok (.iload_n 2, 1) := by decide +kernel
theorem dX8_newLine_126 : decode cX8_newLine 126 = .ok (.iconst 1, 1) := by decide +kernel
theorem dX8_newLine_127 : decode cX8_newLine 127 = .ok (.iload 5, 2) := by decide +kernel
theorem dX8_newLine_129 : decode cX8_newLine 129 = .ok (.ishl, 1) := by decide +kernel
theorem dX8_newLine_130 : decode cX8_newLine 130 = .ok (.ior, 1) := by decide +kernel
theorem dX8_newLine_131 : decode cX8_newLine 131 = .ok (.istore_n 2, 1) := by decide +kernel
theorem dX8_newLine_132 : decode cX8_newLine 132 = .ok (.iinc 4 1, 3) := by decide +kernel
theorem dX8_newLine_135 : decode cX8_newLine 135 = .ok (.goto (-128), 3) := by decide +kernel
theorem dX8_newLine_138 : decode cX8_newLine 138 = .ok (.iload_n 1, 1) := by decide +kernel
theorem dX8_newLine_139 : decode cX8_newLine 139 = .ok (.iconst (-1), 1) := by decide +kernel
theorem dX8_newLine_140 : decode cX8_newLine 140 = .ok (.if_icmp .ne 7, 3) := by decide +kernel
theorem dX8_newLine_143 : decode cX8_newLine 143 = .ok (.iload_n 3, 1) := by decide +kernel
theorem dX8_newLine_144 : decode cX8_newLine 144 = .ok (.goto 4, 3) := by decide +kernel
theorem dX8_newLine_147 : decode cX8_newLine 147 = .ok (.iconst (-1), 1) := by decide +kernel
theorem dX8_newLine_148 : decode cX8_newLine 148 = .ok (.ireturn, 1) := by decide +kernel
theorem dX8_polishRow_0 : decode cX8_polishRow 0 = .ok (.iconst 0, 1) := by decide +kernel
theorem dX8_polishRow_1 : decode cX8_polishRow 1 = .ok (.istore_n 2, 1) := by decide +kernel
theorem dX8_polishRow_2 : decode cX8_polishRow 2 = .ok (.iload_n 2, 1) := by decide +kernel
theorem dX8_polishRow_3 : decode cX8_polishRow 3 = .ok (.sipush 4000, 3) := by decide +kernel
theorem dX8_polishRow_6 : decode cX8_polishRow 6 = .ok (.if_icmp .ge 19, 3) := by decide +kernel
theorem dX8_polishRow_9 : decode cX8_polishRow 9 = .ok (.aload_n 0, 1) := by decide +kernel
theorem dX8_polishRow_10 : decode cX8_polishRow 10 = .ok (.iload_n 1, 1) := by decide +kernel
theorem dX8_polishRow_11 : decode cX8_polishRow 11 = .ok (.invokestatic 81, 3) := by decide +kernel
theorem dX8_polishRow_14 : decode cX8_polishRow 14 = .ok (.ifCond .ne 5, 3) := by decide +kernel
theorem dX8_polishRow_17 : decode cX8_polishRow 17 = .ok (.iload_n 2, 1) := by decide +kernel
theorem dX8_polishRow_18 : decode cX8_polishRow 18 = .ok (.ireturn, 1) := by decide +kernel
theorem dX8_polishRow_19 : decode cX8_polishRow 19 = .ok (.iinc 2 1, 3) := by decide +kernel
theorem dX8_polishRow_22 : decode cX8_polishRow 22 = .ok (.goto (-20), 3) := by decide +kernel
theorem dX8_polishRow_25 : decode cX8_polishRow 25 = .ok (.sipush 4000, 3) := by decide +kernel
theorem dX8_polishRow_28 : decode cX8_polishRow 28 = .ok (.ireturn, 1) := by decide +kernel
theorem dX8_putInRow_0 : decode cX8_putInRow 0 = .ok (.iload_n 1, 1) := by decide +kernel
theorem dX8_putInRow_1 : decode cX8_putInRow 1 = .ok (.istore_n 3, 1) := by decide +kernel
theorem dX8_putInRow_2 : decode cX8_putInRow 2 = .ok (.iconst 0, 1) := by decide +kernel
theorem dX8_putInRow_3 : decode cX8_putInRow 3 = .ok (.istore 4, 2) := by decide +kernel
theorem dX8_putInRow_5 : decode cX8_putInRow 5 = .ok (.iload 4, 2) := by decide +kernel
theorem dX8_putInRow_7 : decode cX8_putInRow 7 = .ok (.aload_n 0, 1) := by decide +kernel
theorem dX8_putInRow_8 : decode cX8_putInRow 8 = .ok (.getfield 15, 3) := by decide +kernel
theorem dX8_putInRow_11 : decode cX8_putInRow 11 = .ok (.if_icmp .ge 37, 3) := by decide +kernel
theorem dX8_putInRow_14 : decode cX8_putInRow 14 = .ok (.iload_n 2, 1) := by decide +kernel
theorem dX8_putInRow_15 : decode cX8_putInRow 15 = .ok (.iload 4, 2) := by decide +kernel
theorem dX8_putInRow_17 : decode cX8_putInRow 17 = .ok (.ishr, 1) := by decide +kernel
theorem dX8_putInRow_18 : decode cX8_putInRow 18 = .ok (.iconst 1, 1) := by decide +kernel
theorem dX8_putInRow_19 : decode cX8_putInRow 19 = .ok (.iand, 1) := by decide +kernel
theorem dX8_putInRow_20 : decode cX8_putInRow 20 = .ok (.ifCond .eq 22, 3) := by decide +kernel
theorem dX8_putInRow_23 : decode cX8_putInRow 23 = .ok (.iload_n 3, 1) := by decide +kernel
theorem dX8_putInRow_24 : decode cX8_putInRow 24 = .ok (.aload_n 0, 1) := by decide +kernel
theorem dX8_putInRow_25 : decode cX8_putInRow 25 = .ok (.getfield 15, 3) := by decide +kernel
theorem dX8_putInRow_28 : decode cX8_putInRow 28 = .ok (.if_icmp .ge 14, 3) := by decide +kernel
theorem dX8_putInRow_31 : decode cX8_putInRow 31 = .ok (.aload_n 0, 1) := by decide +kernel
theorem dX8_putInRow_32 : decode cX8_putInRow 32 = .ok (.getfield 21, 3) := by decide +kernel
theorem dX8_putInRow_35 : decode cX8_putInRow 35 = .ok (.iload_n 3, 1) := by decide +kernel
theorem dX8_putInRow_36 : decode cX8_putInRow 36 = .ok (.iload 4, 2) := by decide +kernel
theorem dX8_putInRow_38 : decode cX8_putInRow 38 = .ok (.iastore, 1) := by decide +kernel
theorem dX8_putInRow_39 : decode cX8_putInRow 39 = .ok (.iinc 3 1, 3) := by decide +kernel
theorem dX8_putInRow_42 : decode cX8_putInRow 42 = .ok (.iinc 4 1, 3) := by decide +kernel
theorem dX8_putInRow_45 : decode cX8_putInRow 45 = .ok (.goto (-40), 3) := by decide +kernel
theorem dX8_putInRow_48 : decode cX8_putInRow 48 = .ok (.iload_n 3, 1) := by decide +kernel
theorem dX8_putInRow_49 : decode cX8_putInRow 49 = .ok (.ireturn, 1) := by decide +kernel
theorem dX8_widestBand_0 : decode cX8_widestBand 0 = .ok (.iconst 0, 1) := by decide +kernel
theorem dX8_widestBand_1 : decode cX8_widestBand 1 = .ok (.istore_n 1, 1) := by decide +kernel
theorem dX8_widestBand_2 : decode cX8_widestBand 2 = .ok (.iconst 0, 1) := by decide +kernel
theorem dX8_widestBand_3 : decode cX8_widestBand 3 = .ok (.istore_n 2, 1) := by decide +kernel
theorem dX8_widestBand_4 : decode cX8_widestBand 4 = .ok (.iload_n 2, 1) := by decide +kernel
theorem dX8_widestBand_5 : decode cX8_widestBand 5 = .ok (.aload_n 0, 1) := by decide +kernel
theorem dX8_widestBand_6 : decode cX8_widestBand 6 = .ok (.getfield 15, 3) := by decide +kernel
theorem dX8_widestBand_9 : decode cX8_widestBand 9 = .ok (.if_icmp .ge 54, 3) := by decide +kernel
theorem dX8_widestBand_12 : decode cX8_widestBand 12 = .ok (.iload_n 2, 1) := by decide +kernel
theorem dX8_widestBand_13 : decode cX8_widestBand 13 = .ok (.iconst 1, 1) := by decide +kernel
theorem dX8_widestBand_14 : decode cX8_widestBand 14 = .ok (.iadd, 1) := by decide +kernel
theorem dX8_widestBand_15 : decode cX8_widestBand 15 = .ok (.istore_n 3, 1) := by decide +kernel
theorem dX8_widestBand_16 : decode cX8_widestBand 16 = .ok (.iload_n 3, 1) := by decide +kernel
theorem dX8_widestBand_17 : decode cX8_widestBand 17 = .ok (.aload_n 0, 1) := by decide +kernel
theorem dX8_widestBand_18 : decode cX8_widestBand 18 = .ok (.getfield 15, 3) := by decide +kernel
theorem dX8_widestBand_21 : decode cX8_widestBand 21 = .ok (.if_icmp .ge 36, 3) := by decide +kernel
theorem dX8_widestBand_24 : decode cX8_widestBand 24 = .ok (.aload_n 0, 1) := by decide +kernel
theorem dX8_widestBand_25 : decode cX8_widestBand 25 = .ok (.aload_n 0, 1) := by decide +kernel
theorem dX8_widestBand_26 : decode cX8_widestBand 26 = .ok (.getfield 21, 3) := by decide +kernel
theorem dX8_widestBand_29 : decode cX8_widestBand 29 = .ok (.iload_n 2, 1) := by decide +kernel
theorem dX8_widestBand_30 : decode cX8_widestBand 30 = .ok (.iaload, 1) := by decide +kernel
theorem dX8_widestBand_31 : decode cX8_widestBand 31 = .ok (.aload_n 0, 1) := by decide +kernel
theorem dX8_widestBand_32 : decode cX8_widestBand 32 = .ok (.getfield 21, 3) := by decide +kernel
theorem dX8_widestBand_35 : decode cX8_widestBand 35 = .ok (.iload_n 3, 1) := by decide +kernel
theorem dX8_widestBand_36 : decode cX8_widestBand 36 = .ok (.iaload, 1) := by decide +kernel
theorem dX8_widestBand_37 : decode cX8_widestBand 37 = .ok (.invokevirtual 38, 3) := by decide +kernel
theorem dX8_widestBand_40 : decode cX8_widestBand 40 = .ok (.ifCond .le 11, 3) := by decide +kernel
theorem dX8_widestBand_43 : decode cX8_widestBand 43 = .ok (.iload_n 1, 1) := by decide +kernel
theorem dX8_widestBand_44 : decode cX8_widestBand 44 = .ok (.iload_n 3, 1) := by decide +kernel
theorem dX8_widestBand_45 : decode cX8_widestBand 45 = .ok (.iload_n 2, 1) := by decide +kernel
theorem dX8_widestBand_46 : decode cX8_widestBand 46 = .ok (.isub, 1) := by decide +kernel
theorem dX8_widestBand_47 : decode cX8_widestBand 47 = .ok (.invokestatic 42, 3) := by decide +kernel
theorem dX8_widestBand_50 : decode cX8_widestBand 50 = .ok (.istore_n 1, 1) := by decide +kernel
theorem dX8_widestBand_51 : decode cX8_widestBand 51 = .ok (.iinc 3 1, 3) := by decide +kernel
theorem dX8_widestBand_54 : decode cX8_widestBand 54 = .ok (.goto (-38), 3) := by decide +kernel
theorem dX8_widestBand_57 : decode cX8_widestBand 57 = .ok (.iinc 2 1, 3) := by decide +kernel
theorem dX8_widestBand_60 : decode cX8_widestBand 60 = .ok (.goto (-56), 3) := by decide +kernel
theorem dX8_widestBand_63 : decode cX8_widestBand 63 = .ok (.iload_n 1, 1) := by decide +kernel
theorem dX8_widestBand_64 : decode cX8_widestBand 64 = .ok (.ireturn, 1) := by decide +kernel
theorem dX8_worstStep_0 : decode cX8_worstStep 0 = .ok (.iconst (-1), 1) := by decide +kernel
theorem dX8_worstStep_1 : decode cX8_worstStep 1 = .ok (.istore_n 2, 1) := by decide +kernel
theorem dX8_worstStep_2 : decode cX8_worstStep 2 = .ok (.iconst (-1), 1) := by decide +kernel
theorem dX8_worstStep_3 : decode cX8_worstStep 3 = .ok (.istore_n 3, 1) := by decide +kernel
theorem dX8_worstStep_4 : decode cX8_worstStep 4 = .ok (.iload_n 1, 1) := by decide +kernel
theorem dX8_worstStep_5 : decode cX8_worstStep 5 = .ok (.invokestatic 47, 3) := by decide +kernel
theorem dX8_worstStep_8 : decode cX8_worstStep 8 = .ok (.istore 4, 2) := by decide +kernel
theorem dX8_worstStep_10 : decode cX8_worstStep 10 = .ok (.iload 4, 2) := by decide +kernel
theorem dX8_worstStep_12 : decode cX8_worstStep 12 = .ok (.aload_n 0, 1) := by decide +kernel
theorem dX8_worstStep_13 : decode cX8_worstStep 13 = .ok (.getfield 15, 3) := by decide +kernel
theorem dX8_worstStep_16 : decode cX8_worstStep 16 = .ok (.if_icmp .ge 30, 3) := by decide +kernel
theorem dX8_worstStep_19 : decode cX8_worstStep 19 = .ok (.aload_n 0, 1) := by decide +kernel
theorem dX8_worstStep_20 : decode cX8_worstStep 20 = .ok (.iload_n 1, 1) := by decide +kernel
theorem dX8_worstStep_21 : decode cX8_worstStep 21 = .ok (.iload 4, 2) := by decide +kernel
theorem dX8_worstStep_23 : decode cX8_worstStep 23 = .ok (.invokestatic 51, 3) := by decide +kernel
theorem dX8_worstStep_26 : decode cX8_worstStep 26 = .ok (.istore 5, 2) := by decide +kernel
theorem dX8_worstStep_28 : decode cX8_worstStep 28 = .ok (.iload 5, 2) := by decide +kernel
theorem dX8_worstStep_30 : decode cX8_worstStep 30 = .ok (.iload_n 3, 1) := by decide +kernel
theorem dX8_worstStep_31 : decode cX8_worstStep 31 = .ok (.if_icmp .le 9, 3) := by decide +kernel
theorem dX8_worstStep_34 : decode cX8_worstStep 34 = .ok (.iload 5, 2) := by decide +kernel
theorem dX8_worstStep_36 : decode cX8_worstStep 36 = .ok (.istore_n 3, 1) := by decide +kernel
theorem dX8_worstStep_37 : decode cX8_worstStep 37 = .ok (.iload 4, 2) := by decide +kernel
theorem dX8_worstStep_39 : decode cX8_worstStep 39 = .ok (.istore_n 2, 1) := by decide +kernel
theorem dX8_worstStep_40 : decode cX8_worstStep 40 = .ok (.iinc 4 1, 3) := by decide +kernel
theorem dX8_worstStep_43 : decode cX8_worstStep 43 = .ok (.goto (-33), 3) := by decide +kernel
theorem dX8_worstStep_46 : decode cX8_worstStep 46 = .ok (.iload_n 2, 1) := by decide +kernel
theorem dX8_worstStep_47 : decode cX8_worstStep 47 = .ok (.ireturn, 1) := by decide +kernel
theorem dX9_countRows_0 : decode cX9_countRows 0 = .ok (.aload_n 1, 1) := by decide +kernel
theorem dX9_countRows_1 : decode cX9_countRows 1 = .ok (.invokevirtual 77, 3) := by decide +kernel
theorem dX9_countRows_4 : decode cX9_countRows 4 = .ok (.istore 4, 2) := by decide +kernel
theorem dX9_countRows_6 : decode cX9_countRows 6 = .ok (.aload_n 0, 1) := by decide +kernel
theorem dX9_countRows_7 : decode cX9_countRows 7 = .ok (.getfield 24, 3) := by decide +kernel
theorem dX9_countRows_10 : decode cX9_countRows 10 = .ok (.iload 4, 2) := by decide +kernel
theorem dX9_countRows_12 : decode cX9_countRows 12 = .ok (.iconst 1, 1) := by decide +kernel
theorem dX9_countRows_13 : decode cX9_countRows 13 = .ok (.iastore, 1) := by decide +kernel
theorem dX9_countRows_14 : decode cX9_countRows 14 = .ok (.iload 4, 2) := by decide +kernel
theorem dX9_countRows_16 : decode cX9_countRows 16 = .ok (.iconst 1, 1) := by decide +kernel
theorem dX9_countRows_17 : decode cX9_countRows 17 = .ok (.isub, 1) := by decide +kernel
theorem dX9_countRows_18 : decode cX9_countRows 18 = .ok (.istore 5, 2) := by decide +kernel
theorem dX9_countRows_20 : decode cX9_countRows 20 = .ok (.iload 5, 2) := by decide +kernel
theorem dX9_countRows_22 : decode cX9_countRows 22 = .ok (.ifCond .lt 79, 3) := by decide +kernel
theorem dX9_countRows_25 : decode cX9_countRows 25 = .ok (.iconst 0, 1) := by decide +kernel
theorem dX9_countRows_26 : decode cX9_countRows 26 = .ok (.istore 6, 2) := by decide +kernel
theorem dX9_countRows_28 : decode cX9_countRows 28 = .ok (.iconst 0, 1) := by decide +kernel
theorem dX9_countRows_29 : decode cX9_countRows 29 = .ok (.istore 7, 2) := by decide +kernel
theorem dX9_countRows_31 : decode cX9_countRows 31 = .ok (.iload 7, 2) := by decide +kernel
theorem dX9_countRows_33 : decode cX9_countRows 33 = .ok (.aload_n 1, 1) := by decide +kernel
theorem dX9_countRows_34 : decode cX9_countRows 34 = .ok (.getfield 56, 3) := by decide +kernel
theorem dX9_countRows_37 : decode cX9_countRows 37 = .ok (.if_icmp .ge 49, 3) := by decide +kernel
theorem dX9_countRows_40 : decode cX9_countRows 40 = .ok (.iload 5, 2) := by decide +kernel
theorem dX9_countRows_42 : decode cX9_countRows 42 = .ok (.iload 7, 2) := by decide +kernel
theorem dX9_countRows_44 : decode cX9_countRows 44 = .ok (.ishr, 1) := by decide +kernel
theorem dX9_countRows_45 : decode cX9_countRows 45 = .ok (.iconst 1, 1) := by decide +kernel
theorem dX9_countRows_46 : decode cX9_countRows 46 = .ok (.iand, 1) := by decide +kernel
theorem dX9_countRows_47 : decode cX9_countRows 47 = .ok (.ifCond .ne 33, 3) := by decide +kernel
theorem dX9_countRows_50 : decode cX9_countRows 50 = .ok (.aload_n 0, 1) := by decide +kernel
theorem dX9_countRows_51 : decode cX9_countRows 51 = .ok (.iload_n 2, 1) := by decide +kernel
theorem dX9_countRows_52 : decode cX9_countRows 52 = .ok (.iload 5, 2) := by decide +kernel
theorem dX9_countRows_54 : decode cX9_countRows 54 = .ok (.iload 7, 2) := by decide +kernel
theorem dX9_countRows_56 : decode cX9_countRows 56 = .ok (.iload_n 3, 1) := by decide +kernel
theorem dX9_countRows_57 : decode cX9_countRows 57 = .ok (.invokevirtual 113, 3) := by decide +kernel
theorem dX9_countRows_60 : decode cX9_countRows 60 = .ok (.ifCond .eq 20, 3) := by decide +kernel
theorem dX9_countRows_63 : decode cX9_countRows 63 = .ok (.iload 6, 2) := by decide +kernel
theorem dX9_countRows_65 : decode cX9_countRows 65 = .ok (.aload_n 0, 1) := by decide +kernel
theorem dX9_countRows_66 : decode cX9_countRows 66 = .ok (.getfield 24, 3) := by decide +kernel
theorem dX9_countRows_69 : decode cX9_countRows 69 = .ok (.iload 5, 2) := by decide +kernel
theorem dX9_countRows_71 : decode cX9_countRows 71 = .ok (.iconst 1, 1) := by decide +kernel
theorem dX9_countRows_72 : decode cX9_countRows 72 = .ok (.iload 7, 2) := by decide +kernel
theorem dX9_countRows_74 : decode cX9_countRows 74 = .ok (.ishl, 1) := by decide +kernel
theorem dX9_countRows_75 : decode cX9_countRows 75 = .ok (.ior, 1) := by decide +kernel
theorem dX9_countRows_76 : decode cX9_countRows 76 = .ok (.iaload, 1) := by decide +kernel
theorem dX9_countRows_77 : decode cX9_countRows 77 = .ok (.iadd, 1) := by decide +kernel
theorem dX9_countRows_78 : decode cX9_countRows 78 = .ok (.istore 6, 2) := by decide +kernel
theorem dX9_countRows_80 : decode cX9_countRows 80 = .ok (.iinc 7 1, 3) := by decide +kernel
theorem dX9_countRows_83 : decode cX9_countRows 83 = .ok (.goto (-52), 3) := by decide +kernel
theorem dX9_countRows_86 : decode cX9_countRows 86 = .ok (.aload_n 0, 1) := by decide +kernel
theorem dX9_countRows_87 : decode cX9_countRows 87 = .ok (.getfield 24, 3) := by decide +kernel
theorem dX9_countRows_90 : decode cX9_countRows 90 = .ok (.iload 5, 2) := by decide +kernel
theorem dX9_countRows_92 : decode cX9_countRows 92 = .ok (.iload 6, 2) := by decide +kernel
theorem dX9_countRows_94 : decode cX9_countRows 94 = .ok (.iastore, 1) := by decide +kernel
theorem dX9_countRows_95 : decode cX9_countRows 95 = .ok (.iinc 5 (-1), 3) := by decide +kernel
theorem dX9_countRows_98 : decode cX9_countRows 98 = .ok (.goto (-78), 3) := by decide +kernel
theorem dX9_countRows_101 : decode cX9_countRows 101 = .ok (.return_, 1) := by decide +kernel
theorem dX9_fillAround_0 : decode cX9_fillAround 0 = .ok (.iconst 0, 1) := by decide +kernel
theorem dX9_fillAround_1 : decode cX9_fillAround 1 = .ok (.istore_n 2, 1) := by decide +kernel
theorem dX9_fillAround_2 : decode cX9_fillAround 2 = .ok (.iload_n 2, 1) := by decide +kernel
theorem dX9_fillAround_3 : decode cX9_fillAround 3 = .ok (.aload_n 1, 1) := by decide +kernel
theorem dX9_fillAround_4 : decode cX9_fillAround 4 = .ok (.getfield 56, 3) := by decide +kernel
theorem dX9_fillAround_7 : decode cX9_fillAround 7 = .ok (.if_icmp .ge 21, 3) := by decide +kernel
theorem dX9_fillAround_10 : decode cX9_fillAround 10 = .ok (.aload_n 0, 1) := by decide +kernel
theorem dX9_fillAround_11 : decode cX9_fillAround 11 = .ok (.getfield 18, 3) := by decide +kernel
theorem dX9_fillAround_14 : decode cX9_fillAround 14 = .ok (.iload_n 2, 1) := by decide +kernel
theorem dX9_fillAround_15 : decode cX9_fillAround 15 = .ok (.aload_n 1, 1) := by decide +kernel
theorem dX9_fillAround_16 : decode cX9_fillAround 16 = .ok (.getfield 101, 3) := by decide +kernel
theorem dX9_fillAround_19 : decode cX9_fillAround 19 = .ok (.iload_n 2, 1) := by decide +kernel
theorem dX9_fillAround_20 : decode cX9_fillAround 20 = .ok (.iaload, 1) := by decide +kernel
theorem dX9_fillAround_21 : decode cX9_fillAround 21 = .ok (.iastore, 1) := by decide +kernel
theorem dX9_fillAround_22 : decode cX9_fillAround 22 = .ok (.iinc 2 1, 3) := by decide +kernel
theorem dX9_fillAround_25 : decode cX9_fillAround 25 = .ok (.goto (-23), 3) := by decide +kernel
theorem dX9_fillAround_28 : decode cX9_fillAround 28 = .ok (.iconst 1, 1) := by decide +kernel
theorem dX9_fillAround_29 : decode cX9_fillAround 29 = .ok (.istore_n 2, 1) := by decide +kernel
theorem dX9_fillAround_30 : decode cX9_fillAround 30 = .ok (.iload_n 2, 1) := by decide +kernel
theorem dX9_fillAround_31 : decode cX9_fillAround 31 = .ok (.aload_n 1, 1) := by decide +kernel
theorem dX9_fillAround_32 : decode cX9_fillAround 32 = .ok (.invokevirtual 77, 3) := by decide +kernel
theorem dX9_fillAround_35 : decode cX9_fillAround 35 = .ok (.if_icmp .gt 111, 3) := by decide +kernel
theorem dX9_fillAround_38 : decode cX9_fillAround 38 = .ok (.iload_n 2, 1) := by decide +kernel
theorem dX9_fillAround_39 : decode cX9_fillAround 39 = .ok (.invokestatic 61, 3) := by decide +kernel
theorem dX9_fillAround_42 : decode cX9_fillAround 42 = .ok (.istore_n 3, 1) := by decide +kernel
theorem dX9_fillAround_43 : decode cX9_fillAround 43 = .ok (.iload_n 2, 1) := by decide +kernel
theorem dX9_fillAround_44 : decode cX9_fillAround 44 = .ok (.iload_n 2, 1) := by decide +kernel
theorem dX9_fillAround_45 : decode cX9_fillAround 45 = .ok (.iconst 1, 1) := by decide +kernel
theorem dX9_fillAround_46 : decode cX9_fillAround 46 = .ok (.isub, 1) := by decide +kernel
theorem dX9_fillAround_47 : decode cX9_fillAround 47 = .ok (.iand, 1) := by decide +kernel
theorem dX9_fillAround_48 : decode cX9_fillAround 48 = .ok (.bipush 9, 2) := by decide +kernel
theorem dX9_fillAround_50 : decode cX9_fillAround 50 = .ok (.imul, 1) := by decide +kernel
theorem dX9_fillAround_51 : decode cX9_fillAround 51 = .ok (.istore 4, 2) := by decide +kernel
theorem dX9_fillAround_53 : decode cX9_fillAround 53 = .ok (.iconst 0, 1) := by decide +kernel
theorem dX9_fillAround_54 : decode cX9_fillAround 54 = .ok (.istore 5, 2) := by decide +kernel
theorem dX9_fillAround_56 : decode cX9_fillAround 56 = .ok (.iload 5, 2) := by decide +kernel
theorem dX9_fillAround_58 : decode cX9_fillAround 58 = .ok (.aload_n 1, 1) := by decide +kernel
theorem dX9_fillAround_59 : decode cX9_fillAround 59 = .ok (.getfield 56, 3) := by decide +kernel
theorem dX9_fillAround_62 : decode cX9_fillAround 62 = .ok (.if_icmp .ge 78, 3) := by decide +kernel
theorem dX9_fillAround_65 : decode cX9_fillAround 65 = .ok (.iload_n 2, 1) := by decide +kernel
theorem dX9_fillAround_66 : decode cX9_fillAround 66 = .ok (.iload 5, 2) := by decide +kernel
theorem dX9_fillAround_68 : decode cX9_fillAround 68 = .ok (.ishr, 1) := by decide +kernel
theorem dX9_fillAround_69 : decode cX9_fillAround 69 = .ok (.iconst 1, 1) := by decide +kernel
theorem dX9_fillAround_70 : decode cX9_fillAround 70 = .ok (.iand, 1) := by decide +kernel
theorem dX9_fillAround_71 : decode cX9_fillAround 71 = .ok (.ifCond .ne 63, 3) := by decide +kernel
theorem dX9_fillAround_74 : decode cX9_fillAround 74 = .ok (.aload_n 0, 1) := by decide +kernel
theorem dX9_fillAround_75 : decode cX9_fillAround 75 = .ok (.getfield 18, 3) := by decide +kernel
theorem dX9_fillAround_78 : decode cX9_fillAround 78 = .ok (.iload 4, 2) := by decide +kernel
theorem dX9_fillAround_80 : decode cX9_fillAround 80 = .ok (.iload 5, 2) := by decide +kernel
theorem dX9_fillAround_82 : decode cX9_fillAround 82 = .ok (.iadd, 1) := by decide +kernel
theorem dX9_fillAround_83 : decode cX9_fillAround 83 = .ok (.iaload, 1) := by decide +kernel
theorem dX9_fillAround_84 : decode cX9_fillAround 84 = .ok (.istore 6, 2) := by decide +kernel
theorem dX9_fillAround_86 : decode cX9_fillAround 86 = .ok (.iload 6, 2) := by decide +kernel
theorem dX9_fillAround_88 : decode cX9_fillAround 88 = .ok (.iload_n 3, 1) := by decide +kernel
theorem dX9_fillAround_89 : decode cX9_fillAround 89 = .ok (.ishr, 1) := by decide +kernel
theorem dX9_fillAround_90 : decode cX9_fillAround 90 = .ok (.iconst 1, 1) := by decide +kernel
theorem dX9_fillAround_91 : decode cX9_fillAround 91 = .ok (.iand, 1) := by decide +kernel
theorem dX9_fillAround_92 : decode cX9_fillAround 92 = .ok (.ifCond .eq 28, 3) := by decide +kernel
theorem dX9_fillAround_95 : decode cX9_fillAround 95 = .ok (.iload 6, 2) := by decide +kernel
theorem dX9_fillAround_97 : decode cX9_fillAround 97 = .ok (.aload_n 0, 1) := by decide +kernel
theorem dX9_fillAround_98 : decode cX9_fillAround 98 = .ok (.getfield 18, 3) := by decide +kernel
theorem dX9_fillAround_101 : decode cX9_fillAround 101 = .ok (.iload 4, 2) := by decide +kernel
theorem dX9_fillAround_103 : decode cX9_fillAround 103 = .ok (.iload_n 3, 1) := by decide +kernel
theorem dX9_fillAround_104 : decode cX9_fillAround 104 = .ok (.iadd, 1) := by decide +kernel
theorem dX9_fillAround_105 : decode cX9_fillAround 105 = .ok (.iaload, 1) := by decide +kernel
theorem dX9_fillAround_106 : decode cX9_fillAround 106 = .ok (.ior, 1) := by decide +kernel
theorem dX9_fillAround_107 : decode cX9_fillAround 107 = .ok (.iconst 1, 1) := by decide +kernel
theorem dX9_fillAround_108 : decode cX9_fillAround 108 = .ok (.iload 5, 2) := by decide +kernel
theorem dX9_fillAround_110 : decode cX9_fillAround 110 = .ok (.ishl, 1) := by decide +kernel
theorem dX9_fillAround_111 : decode cX9_fillAround 111 = .ok (.iconst 1, 1) := by decide +kernel
theorem dX9_fillAround_112 : decode cX9_fillAround 112 = .ok (.iload_n 3, 1) := by decide +kernel
theorem dX9_fillAround_113 : decode cX9_fillAround 113 = .ok (.ishl, 1) := by decide +kernel
theorem dX9_fillAround_114 : decode cX9_fillAround 114 = .ok (.ior, 1) := by decide +kernel
theorem dX9_fillAround_115 : decode cX9_fillAround 115 = .ok (.iconst (-1), 1) := by decide +kernel
theorem dX9_fillAround_116 : decode cX9_fillAround 116 = .ok (.ixor, 1) := by decide +kernel
theorem dX9_fillAround_117 : decode cX9_fillAround 117 = .ok (.iand, 1) := by decide +kernel
theorem dX9_fillAround_118 : decode cX9_fillAround 118 = .ok (.istore 6, 2) := by decide +kernel
theorem dX9_fillAround_120 : decode cX9_fillAround 120 = .ok (.aload_n 0, 1) := by decide +kernel
theorem dX9_fillAround_121 : decode cX9_fillAround 121 = .ok (.getfield 18, 3) := by decide +kernel
theorem dX9_fillAround_124 : decode cX9_fillAround 124 = .ok (.iload_n 2, 1) := by decide +kernel
theorem dX9_fillAround_125 : decode cX9_fillAround 125 = .ok (.bipush 9, 2) := by decide +kernel
theorem dX9_fillAround_127 : decode cX9_fillAround 127 = .ok (.imul, 1) := by decide +kernel
theorem dX9_fillAround_128 : decode cX9_fillAround 128 = .ok (.iload 5, 2) := by decide +kernel
theorem dX9_fillAround_130 : decode cX9_fillAround 130 = .ok (.iadd, 1) := by decide +kernel
theorem dX9_fillAround_131 : decode cX9_fillAround 131 = .ok (.iload 6, 2) := by decide +kernel
theorem dX9_fillAround_133 : decode cX9_fillAround 133 = .ok (.iastore, 1) := by decide +kernel
theorem dX9_fillAround_134 : decode cX9_fillAround 134 = .ok (.iinc 5 1, 3) := by decide +kernel
theorem dX9_fillAround_137 : decode cX9_fillAround 137 = .ok (.goto (-81), 3) := by decide +kernel
theorem dX9_fillAround_140 : decode cX9_fillAround 140 = .ok (.iinc 2 1, 3) := by decide +kernel
theorem dX9_fillAround_143 : decode cX9_fillAround 143 = .ok (.goto (-113), 3) := by decide +kernel
theorem dX9_fillAround_146 : decode cX9_fillAround 146 = .ok (.return_, 1) := by decide +kernel
theorem dX9_fillRest_0 : decode cX9_fillRest 0 = .ok (.aload_n 1, 1) := by decide +kernel
theorem dX9_fillRest_1 : decode cX9_fillRest 1 = .ok (.invokevirtual 77, 3) := by decide +kernel
theorem dX9_fillRest_4 : decode cX9_fillRest 4 = .ok (.istore 5, 2) := by decide +kernel
theorem dX9_fillRest_6 : decode cX9_fillRest 6 = .ok (.aload_n 0, 1) := by decide +kernel
theorem dX9_fillRest_7 : decode cX9_fillRest 7 = .ok (.getfield 21, 3) := by decide +kernel
theorem dX9_fillRest_10 : decode cX9_fillRest 10 = .ok (.iload 5, 2) := by decide +kernel
theorem dX9_fillRest_12 : decode cX9_fillRest 12 = .ok (.iconst 0, 1) := by decide +kernel
theorem dX9_fillRest_13 : decode cX9_fillRest 13 = .ok (.iastore, 1) := by decide +kernel
theorem dX9_fillRest_14 : decode cX9_fillRest 14 = .ok (.iload 5, 2) := by decide +kernel
theorem dX9_fillRest_16 : decode cX9_fillRest 16 = .ok (.iconst 1, 1) := by decide +kernel
theorem dX9_fillRest_17 : decode cX9_fillRest 17 = .ok (.isub, 1) := by decide +kernel
theorem dX9_fillRest_18 : decode cX9_fillRest 18 = .ok (.istore 6, 2) := by decide +kernel
theorem dX9_fillRest_20 : decode cX9_fillRest 20 = .ok (.iload 6, 2) := by decide +kernel
theorem dX9_fillRest_22 : decode cX9_fillRest 22 = .ok (.ifCond .lt 103, 3) := by decide +kernel
theorem dX9_fillRest_25 : decode cX9_fillRest 25 = .ok (.ldc 31, 2) := by decide +kernel
theorem dX9_fillRest_27 : decode cX9_fillRest 27 = .ok (.istore 7, 2) := by decide +kernel
theorem dX9_fillRest_29 : decode cX9_fillRest 29 = .ok (.iconst 0, 1) := by decide +kernel
theorem dX9_fillRest_30 : decode cX9_fillRest 30 = .ok (.istore 8, 2) := by decide +kernel
theorem dX9_fillRest_32 : decode cX9_fillRest 32 = .ok (.iload 8, 2) := by decide +kernel
theorem dX9_fillRest_34 : decode cX9_fillRest 34 = .ok (.aload_n 1, 1) := by decide +kernel
theorem dX9_fillRest_35 : decode cX9_fillRest 35 = .ok (.getfield 56, 3) := by decide +kernel
theorem dX9_fillRest_38 : decode cX9_fillRest 38 = .ok (.if_icmp .ge 72, 3) := by decide +kernel
theorem dX9_fillRest_41 : decode cX9_fillRest 41 = .ok (.iload 6, 2) := by decide +kernel
theorem dX9_fillRest_43 : decode cX9_fillRest 43 = .ok (.bipush 9, 2) := by decide +kernel
theorem dX9_fillRest_45 : decode cX9_fillRest 45 = .ok (.imul, 1) := by decide +kernel
theorem dX9_fillRest_46 : decode cX9_fillRest 46 = .ok (.iload 8, 2) := by decide +kernel
theorem dX9_fillRest_48 : decode cX9_fillRest 48 = .ok (.iadd, 1) := by decide +kernel
theorem dX9_fillRest_49 : decode cX9_fillRest 49 = .ok (.istore 9, 2) := by decide +kernel
theorem dX9_fillRest_51 : decode cX9_fillRest 51 = .ok (.iload 6, 2) := by decide +kernel
theorem dX9_fillRest_53 : decode cX9_fillRest 53 = .ok (.iload 8, 2) := by decide +kernel
theorem dX9_fillRest_55 : decode cX9_fillRest 55 = .ok (.ishr, 1) := by decide +kernel
theorem dX9_fillRest_56 : decode cX9_fillRest 56 = .ok (.iconst 1, 1) := by decide +kernel
theorem dX9_fillRest_57 : decode cX9_fillRest 57 = .ok (.iand, 1) := by decide +kernel
theorem dX9_fillRest_58 : decode cX9_fillRest 58 = .ok (.ifCond .ne 46, 3) := by decide +kernel
theorem dX9_fillRest_61 : decode cX9_fillRest 61 = .ok (.aload_n 3, 1) := by decide +kernel
theorem dX9_fillRest_62 : decode cX9_fillRest 62 = .ok (.iload 9, 2) := by decide +kernel
theorem dX9_fillRest_64 : decode cX9_fillRest 64 = .ok (.iaload, 1) := by decide +kernel
theorem dX9_fillRest_65 : decode cX9_fillRest 65 = .ok (.iload 4, 2) := by decide +kernel
theorem dX9_fillRest_67 : decode cX9_fillRest 67 = .ok (.if_icmp .gt 37, 3) := by decide +kernel
theorem dX9_fillRest_70 : decode cX9_fillRest 70 = .ok (.aload_n 0, 1) := by decide +kernel
theorem dX9_fillRest_71 : decode cX9_fillRest 71 = .ok (.getfield 21, 3) := by decide +kernel
theorem dX9_fillRest_74 : decode cX9_fillRest 74 = .ok (.iload 6, 2) := by decide +kernel
theorem dX9_fillRest_76 : decode cX9_fillRest 76 = .ok (.iconst 1, 1) := by decide +kernel
theorem dX9_fillRest_77 : decode cX9_fillRest 77 = .ok (.iload 8, 2) := by decide +kernel
theorem dX9_fillRest_79 : decode cX9_fillRest 79 = .ok (.ishl, 1) := by decide +kernel
theorem dX9_fillRest_80 : decode cX9_fillRest 80 = .ok (.ior, 1) := by decide +kernel
theorem dX9_fillRest_81 : decode cX9_fillRest 81 = .ok (.iaload, 1) := by decide +kernel
theorem dX9_fillRest_82 : decode cX9_fillRest 82 = .ok (.istore 10, 2) := by decide +kernel
theorem dX9_fillRest_84 : decode cX9_fillRest 84 = .ok (.iload 7, 2) := by decide +kernel
theorem dX9_fillRest_86 : decode cX9_fillRest 86 = .ok (.iload_n 2, 1) := by decide +kernel
theorem dX9_fillRest_87 : decode cX9_fillRest 87 = .ok (.iload 10, 2) := by decide +kernel
theorem dX9_fillRest_89 : decode cX9_fillRest 89 = .ok (.aload_n 0, 1) := by decide +kernel
theorem dX9_fillRest_90 : decode cX9_fillRest 90 = .ok (.getfield 11, 3) := by decide +kernel
theorem dX9_fillRest_93 : decode cX9_fillRest 93 = .ok (.iload 9, 2) := by decide +kernel
theorem dX9_fillRest_95 : decode cX9_fillRest 95 = .ok (.iaload, 1) := by decide +kernel
theorem dX9_fillRest_96 : decode cX9_fillRest 96 = .ok (.invokestatic 104, 3) := by decide +kernel
theorem dX9_fillRest_99 : decode cX9_fillRest 99 = .ok (.invokestatic 108, 3) := by decide +kernel
theorem dX9_fillRest_102 : decode cX9_fillRest 102 = .ok (.istore 7, 2) := by decide +kernel
theorem dX9_fillRest_104 : decode cX9_fillRest 104 = .ok (.iinc 8 1, 3) := by decide +kernel
theorem dX9_fillRest_107 : decode cX9_fillRest 107 = .ok (.goto (-75), 3) := by decide +kernel
theorem dX9_fillRest_110 : decode cX9_fillRest 110 = .ok (.aload_n 0, 1) := by decide +kernel
theorem dX9_fillRest_111 : decode cX9_fillRest 111 = .ok (.getfield 21, 3) := by decide +kernel
theorem dX9_fillRest_114 : decode cX9_fillRest 114 = .ok (.iload 6, 2) := by decide +kernel
theorem dX9_fillRest_116 : decode cX9_fillRest 116 = .ok (.iload 7, 2) := by decide +kernel
theorem dX9_fillRest_118 : decode cX9_fillRest 118 = .ok (.iastore, 1) := by decide +kernel
theorem dX9_fillRest_119 : decode cX9_fillRest 119 = .ok (.iinc 6 (-1), 3) := by decide +kernel
theorem dX9_fillRest_122 : decode cX9_fillRest 122 = .ok (.goto (-102), 3) := by decide +kernel
theorem dX9_fillRest_125 : decode cX9_fillRest 125 = .ok (.return_, 1) := by decide +kernel
theorem dX9_fillSteps_0 : decode cX9_fillSteps 0 = .ok (.iload_n 2, 1) := by decide +kernel
theorem dX9_fillSteps_1 : decode cX9_fillSteps 1 = .ok (.invokestatic 68, 3) := by decide +kernel
theorem dX9_fillSteps_4 : decode cX9_fillSteps 4 = .ok (.ifCond .eq 11, 3) := by decide +kernel
theorem dX9_fillSteps_7 : decode cX9_fillSteps 7 = .ok (.aload_n 0, 1) := by decide +kernel
theorem dX9_fillSteps_8 : decode cX9_fillSteps 8 = .ok (.aload_n 1, 1) := by decide +kernel
theorem dX9_fillSteps_9 : decode cX9_fillSteps 9 = .ok (.iload_n 2, 1) := by decide +kernel
theorem dX9_fillSteps_10 : decode cX9_fillSteps 10 = .ok (.aload_n 3, 1) := by decide +kernel
theorem dX9_fillSteps_11 : decode cX9_fillSteps 11 = .ok (.invokevirtual 74, 3) := by decide +kernel
theorem dX9_fillSteps_14 : decode cX9_fillSteps 14 = .ok (.return_, 1) := by decide +kernel
theorem dX9_fillSteps_15 : decode cX9_fillSteps 15 = .ok (.iconst 0, 1) := by decide +kernel
theorem dX9_fillSteps_16 : decode cX9_fillSteps 16 = .ok (.istore 4, 2) := by decide +kernel
theorem dX9_fillSteps_18 : decode cX9_fillSteps 18 = .ok (.iload 4, 2) := by decide +kernel
theorem dX9_fillSteps_20 : decode cX9_fillSteps 20 = .ok (.aload_n 1, 1) := by decide +kernel
theorem dX9_fillSteps_21 : decode cX9_fillSteps 21 = .ok (.invokevirtual 77, 3) := by decide +kernel
theorem dX9_fillSteps_24 : decode cX9_fillSteps 24 = .ok (.if_icmp .gt 64, 3) := by decide +kernel
theorem dX9_fillSteps_27 : decode cX9_fillSteps 27 = .ok (.aload_n 1, 1) := by decide +kernel
theorem dX9_fillSteps_28 : decode cX9_fillSteps 28 = .ok (.iload_n 2, 1) := by decide +kernel
theorem dX9_fillSteps_29 : decode cX9_fillSteps 29 = .ok (.iload 4, 2) := by decide +kernel
theorem dX9_fillSteps_31 : decode cX9_fillSteps 31 = .ok (.iconst (-1), 1) := by decide +kernel
theorem dX9_fillSteps_32 : decode cX9_fillSteps 32 = .ok (.invokestatic 81, 3) := by decide +kernel
theorem dX9_fillSteps_35 : decode cX9_fillSteps 35 = .ok (.istore 5, 2) := by decide +kernel
theorem dX9_fillSteps_37 : decode cX9_fillSteps 37 = .ok (.iconst 0, 1) := by decide +kernel
theorem dX9_fillSteps_38 : decode cX9_fillSteps 38 = .ok (.istore 6, 2) := by decide +kernel
theorem dX9_fillSteps_40 : decode cX9_fillSteps 40 = .ok (.iload 6, 2) := by decide +kernel
theorem dX9_fillSteps_42 : decode cX9_fillSteps 42 = .ok (.aload_n 1, 1) := by decide +kernel
theorem dX9_fillSteps_43 : decode cX9_fillSteps 43 = .ok (.getfield 56, 3) := by decide +kernel
theorem dX9_fillSteps_46 : decode cX9_fillSteps 46 = .ok (.if_icmp .ge 36, 3) := by decide +kernel
theorem dX9_fillSteps_49 : decode cX9_fillSteps 49 = .ok (.iload 4, 2) := by decide +kernel
theorem dX9_fillSteps_51 : decode cX9_fillSteps 51 = .ok (.iload 6, 2) := by decide +kernel
theorem dX9_fillSteps_53 : decode cX9_fillSteps 53 = .ok (.ishr, 1) := by decide +kernel
theorem dX9_fillSteps_54 : decode cX9_fillSteps 54 = .ok (.iconst 1, 1) := by decide +kernel
theorem dX9_fillSteps_55 : decode cX9_fillSteps 55 = .ok (.iand, 1) := by decide +kernel
theorem dX9_fillSteps_56 : decode cX9_fillSteps 56 = .ok (.ifCond .eq 20, 3) := by decide +kernel
theorem dX9_fillSteps_59 : decode cX9_fillSteps 59 = .ok (.aload_n 3, 1) := by decide +kernel
theorem dX9_fillSteps_60 : decode cX9_fillSteps 60 = .ok (.iload 4, 2) := by decide +kernel
theorem dX9_fillSteps_62 : decode cX9_fillSteps 62 = .ok (.iconst 1, 1) := by decide +kernel
theorem dX9_fillSteps_63 : decode cX9_fillSteps 63 = .ok (.iload 6, 2) := by decide +kernel
theorem dX9_fillSteps_65 : decode cX9_fillSteps 65 = .ok (.ishl, 1) := by decide +kernel
theorem dX9_fillSteps_66 : decode cX9_fillSteps 66 = .ok (.ixor, 1) := by decide +kernel
theorem dX9_fillSteps_67 : decode cX9_fillSteps 67 = .ok (.bipush 9, 2) := by decide +kernel
theorem dX9_fillSteps_69 : decode cX9_fillSteps 69 = .ok (.imul, 1) := by decide +kernel
theorem dX9_fillSteps_70 : decode cX9_fillSteps 70 = .ok (.iload 6, 2) := by decide +kernel
theorem dX9_fillSteps_72 : decode cX9_fillSteps 72 = .ok (.iadd, 1) := by decide +kernel
theorem dX9_fillSteps_73 : decode cX9_fillSteps 73 = .ok (.iload 5, 2) := by decide +kernel
theorem dX9_fillSteps_75 : decode cX9_fillSteps 75 = .ok (.iastore, 1) := by decide +kernel
theorem dX9_fillSteps_76 : decode cX9_fillSteps 76 = .ok (.iinc 6 1, 3) := by decide +kernel
theorem dX9_fillSteps_79 : decode cX9_fillSteps 79 = .ok (.goto (-39), 3) := by decide +kernel
theorem dX9_fillSteps_82 : decode cX9_fillSteps 82 = .ok (.iinc 4 1, 3) := by decide +kernel
theorem dX9_fillSteps_85 : decode cX9_fillSteps 85 = .ok (.goto (-67), 3) := by decide +kernel
theorem dX9_fillSteps_88 : decode cX9_fillSteps 88 = .ok (.return_, 1) := by decide +kernel
theorem dX9_fillTakings_0 : decode cX9_fillTakings 0 = .ok (.aload_n 0, 1) := by decide +kernel
theorem dX9_fillTakings_1 : decode cX9_fillTakings 1 = .ok (.aload_n 1, 1) := by decide +kernel
theorem dX9_fillTakings_2 : decode cX9_fillTakings 2 = .ok (.invokevirtual 84, 3) := by decide +kernel
theorem dX9_fillTakings_5 : decode cX9_fillTakings 5 = .ok (.iconst 0, 1) := by decide +kernel
theorem dX9_fillTakings_6 : decode cX9_fillTakings 6 = .ok (.istore 4, 2) := by decide +kernel
theorem dX9_fillTakings_8 : decode cX9_fillTakings 8 = .ok (.iload 4, 2) := by decide +kernel
theorem dX9_fillTakings_10 : decode cX9_fillTakings 10 = .ok (.aload_n 1, 1) := by decide +kernel
theorem dX9_fillTakings_11 : decode cX9_fillTakings 11 = .ok (.invokevirtual 77, 3) := by decide +kernel
theorem dX9_fillTakings_14 : decode cX9_fillTakings 14 = .ok (.if_icmp .gt 84, 3) := by decide +kernel
theorem dX9_fillTakings_17 : decode cX9_fillTakings 17 = .ok (.iconst 0, 1) := by decide +kernel
theorem dX9_fillTakings_18 : decode cX9_fillTakings 18 = .ok (.istore 5, 2) := by decide +kernel
theorem dX9_fillTakings_20 : decode cX9_fillTakings 20 = .ok (.iload 5, 2) := by decide +kernel
theorem dX9_fillTakings_22 : decode cX9_fillTakings 22 = .ok (.aload_n 1, 1) := by decide +kernel
theorem dX9_fillTakings_23 : decode cX9_fillTakings 23 = .ok (.getfield 56, 3) := by decide +kernel
theorem dX9_fillTakings_26 : decode cX9_fillTakings 26 = .ok (.if_icmp .ge 66, 3) := by decide +kernel
theorem dX9_fillTakings_29 : decode cX9_fillTakings 29 = .ok (.iload 4, 2) := by decide +kernel
theorem dX9_fillTakings_31 : decode cX9_fillTakings 31 = .ok (.iload 5, 2) := by decide +kernel
theorem dX9_fillTakings_33 : decode cX9_fillTakings 33 = .ok (.ishr, 1) := by decide +kernel
theorem dX9_fillTakings_34 : decode cX9_fillTakings 34 = .ok (.iconst 1, 1) := by decide +kernel
theorem dX9_fillTakings_35 : decode cX9_fillTakings 35 = .ok (.iand, 1) := by decide +kernel
theorem dX9_fillTakings_36 : decode cX9_fillTakings 36 = .ok (.ifCond .ne 50, 3) := by decide +kernel
theorem dX9_fillTakings_39 : decode cX9_fillTakings 39 = .ok (.aload_n 0, 1) := by decide +kernel
theorem dX9_fillTakings_40 : decode cX9_fillTakings 40 = .ok (.getfield 18, 3) := by decide +kernel
theorem dX9_fillTakings_43 : decode cX9_fillTakings 43 = .ok (.iload 4, 2) := by decide +kernel
theorem dX9_fillTakings_45 : decode cX9_fillTakings 45 = .ok (.bipush 9, 2) := by decide +kernel
theorem dX9_fillTakings_47 : decode cX9_fillTakings 47 = .ok (.imul, 1) := by decide +kernel
theorem dX9_fillTakings_48 : decode cX9_fillTakings 48 = .ok (.iload 5, 2) := by decide +kernel
theorem dX9_fillTakings_50 : decode cX9_fillTakings 50 = .ok (.iadd, 1) := by decide +kernel
theorem dX9_fillTakings_51 : decode cX9_fillTakings 51 = .ok (.iaload, 1) := by decide +kernel
theorem dX9_fillTakings_52 : decode cX9_fillTakings 52 = .ok (.istore 6, 2) := by decide +kernel
theorem dX9_fillTakings_54 : decode cX9_fillTakings 54 = .ok (.aload_n 3, 1) := by decide +kernel
theorem dX9_fillTakings_55 : decode cX9_fillTakings 55 = .ok (.iload 4, 2) := by decide +kernel
theorem dX9_fillTakings_57 : decode cX9_fillTakings 57 = .ok (.bipush 9, 2) := by decide +kernel
theorem dX9_fillTakings_59 : decode cX9_fillTakings 59 = .ok (.imul, 1) := by decide +kernel
theorem dX9_fillTakings_60 : decode cX9_fillTakings 60 = .ok (.iload 5, 2) := by decide +kernel
theorem dX9_fillTakings_62 : decode cX9_fillTakings 62 = .ok (.iadd, 1) := by decide +kernel
theorem dX9_fillTakings_63 : decode cX9_fillTakings 63 = .ok (.iload_n 2, 1) := by decide +kernel
theorem dX9_fillTakings_64 : decode cX9_fillTakings 64 = .ok (.iconst 5, 1) := by decide +kernel
theorem dX9_fillTakings_65 : decode cX9_fillTakings 65 = .ok (.if_icmp .ne 11, 3) := by decide +kernel
theorem dX9_fillTakings_68 : decode cX9_fillTakings 68 = .ok (.iload 6, 2) := by decide +kernel
theorem dX9_fillTakings_70 : decode cX9_fillTakings 70 = .ok (.invokestatic 88, 3) := by decide +kernel
theorem dX9_fillTakings_73 : decode cX9_fillTakings 73 = .ok (.goto 12, 3) := by decide +kernel
theorem dX9_fillTakings_76 : decode cX9_fillTakings 76 = .ok (.aload_n 0, 1) := by decide +kernel
theorem dX9_fillTakings_77 : decode cX9_fillTakings 77 = .ok (.aload_n 1, 1) := by decide +kernel
theorem dX9_fillTakings_78 : decode cX9_fillTakings 78 = .ok (.iload 4, 2) := by decide +kernel
theorem dX9_fillTakings_80 : decode cX9_fillTakings 80 = .ok (.iload 6, 2) := by decide +kernel
theorem dX9_fillTakings_82 : decode cX9_fillTakings 82 = .ok (.invokevirtual 93, 3) := by decide +kernel
theorem dX9_fillTakings_85 : decode cX9_fillTakings 85 = .ok (.iastore, 1) := by decide +kernel
theorem dX9_fillTakings_86 : decode cX9_fillTakings 86 = .ok (.iinc 5 1, 3) := by decide +kernel
theorem dX9_fillTakings_89 : decode cX9_fillTakings 89 = .ok (.goto (-69), 3) := by decide +kernel
theorem dX9_fillTakings_92 : decode cX9_fillTakings 92 = .ok (.iinc 4 1, 3) := by decide +kernel
theorem dX9_fillTakings_95 : decode cX9_fillTakings 95 = .ok (.goto (-87), 3) := by decide +kernel
theorem dX9_fillTakings_98 : decode cX9_fillTakings 98 = .ok (.return_, 1) := by decide +kernel
theorem dX9_find_0 : decode cX9_find 0 = .ok (.aload_n 0, 1) := by decide +kernel
theorem dX9_find_1 : decode cX9_find 1 = .ok (.aload_n 1, 1) := by decide +kernel
theorem dX9_find_2 : decode cX9_find 2 = .ok (.iload_n 2, 1) := by decide +kernel
theorem dX9_find_3 : decode cX9_find 3 = .ok (.aload_n 0, 1) := by decide +kernel
theorem dX9_find_4 : decode cX9_find 4 = .ok (.getfield 11, 3) := by decide +kernel
theorem dX9_find_7 : decode cX9_find 7 = .ok (.invokevirtual 27, 3) := by decide +kernel
theorem dX9_find_10 : decode cX9_find 10 = .ok (.aload_n 0, 1) := by decide +kernel
theorem dX9_find_11 : decode cX9_find 11 = .ok (.aload_n 1, 1) := by decide +kernel
theorem dX9_find_12 : decode cX9_find 12 = .ok (.iload_n 2, 1) := by decide +kernel
theorem dX9_find_13 : decode cX9_find 13 = .ok (.aload_n 0, 1) := by decide +kernel
theorem dX9_find_14 : decode cX9_find 14 = .ok (.getfield 11, 3) := by decide +kernel
theorem dX9_find_17 : decode cX9_find 17 = .ok (.ldc 31, 2) := by decide +kernel
theorem dX9_find_19 : decode cX9_find 19 = .ok (.invokevirtual 32, 3) := by decide +kernel
theorem dX9_find_22 : decode cX9_find 22 = .ok (.aload_n 3, 1) := by decide +kernel
theorem dX9_find_23 : decode cX9_find 23 = .ok (.aload_n 0, 1) := by decide +kernel
theorem dX9_find_24 : decode cX9_find 24 = .ok (.getfield 21, 3) := by decide +kernel
theorem dX9_find_27 : decode cX9_find 27 = .ok (.iconst 0, 1) := by decide +kernel
theorem dX9_find_28 : decode cX9_find 28 = .ok (.iaload, 1) := by decide +kernel
theorem dX9_find_29 : decode cX9_find 29 = .ok (.putfield 36, 3) := by decide +kernel
theorem dX9_find_32 : decode cX9_find 32 = .ok (.aload_n 0, 1) := by decide +kernel
theorem dX9_find_33 : decode cX9_find 33 = .ok (.aload_n 1, 1) := by decide +kernel
theorem dX9_find_34 : decode cX9_find 34 = .ok (.iload_n 2, 1) := by decide +kernel
theorem dX9_find_35 : decode cX9_find 35 = .ok (.aload_n 0, 1) := by decide +kernel
theorem dX9_find_36 : decode cX9_find 36 = .ok (.getfield 21, 3) := by decide +kernel
theorem dX9_find_39 : decode cX9_find 39 = .ok (.iconst 0, 1) := by decide +kernel
theorem dX9_find_40 : decode cX9_find 40 = .ok (.iaload, 1) := by decide +kernel
theorem dX9_find_41 : decode cX9_find 41 = .ok (.invokevirtual 42, 3) := by decide +kernel
theorem dX9_find_44 : decode cX9_find 44 = .ok (.aload_n 3, 1) := by decide +kernel
theorem dX9_find_45 : decode cX9_find 45 = .ok (.aload_n 0, 1) := by decide +kernel
theorem dX9_find_46 : decode cX9_find 46 = .ok (.getfield 24, 3) := by decide +kernel
theorem dX9_find_49 : decode cX9_find 49 = .ok (.iconst 0, 1) := by decide +kernel
theorem dX9_find_50 : decode cX9_find 50 = .ok (.iaload, 1) := by decide +kernel
theorem dX9_find_51 : decode cX9_find 51 = .ok (.putfield 46, 3) := by decide +kernel
theorem dX9_find_54 : decode cX9_find 54 = .ok (.aload_n 3, 1) := by decide +kernel
theorem dX9_find_55 : decode cX9_find 55 = .ok (.aload_n 0, 1) := by decide +kernel
theorem dX9_find_56 : decode cX9_find 56 = .ok (.aload_n 1, 1) := by decide +kernel
theorem dX9_find_57 : decode cX9_find 57 = .ok (.iload_n 2, 1) := by decide +kernel
theorem dX9_find_58 : decode cX9_find 58 = .ok (.iconst 0, 1) := by decide +kernel
theorem dX9_find_59 : decode cX9_find 59 = .ok (.aload_n 0, 1) := by decide +kernel
theorem dX9_find_60 : decode cX9_find 60 = .ok (.getfield 21, 3) := by decide +kernel
theorem dX9_find_63 : decode cX9_find 63 = .ok (.iconst 0, 1) := by decide +kernel
theorem dX9_find_64 : decode cX9_find 64 = .ok (.iaload, 1) := by decide +kernel
theorem dX9_find_65 : decode cX9_find 65 = .ok (.invokevirtual 49, 3) := by decide +kernel
theorem dX9_find_68 : decode cX9_find 68 = .ok (.putfield 53, 3) := by decide +kernel
theorem dX9_find_71 : decode cX9_find 71 = .ok (.iconst 0, 1) := by decide +kernel
theorem dX9_find_72 : decode cX9_find 72 = .ok (.istore 4, 2) := by decide +kernel
theorem dX9_find_74 : decode cX9_find 74 = .ok (.iconst 0, 1) := by decide +kernel
theorem dX9_find_75 : decode cX9_find 75 = .ok (.istore 5, 2) := by decide +kernel
theorem dX9_find_77 : decode cX9_find 77 = .ok (.iload 5, 2) := by decide +kernel
theorem dX9_find_79 : decode cX9_find 79 = .ok (.aload_n 1, 1) := by decide +kernel
theorem dX9_find_80 : decode cX9_find 80 = .ok (.getfield 56, 3) := by decide +kernel
theorem dX9_find_83 : decode cX9_find 83 = .ok (.if_icmp .ge 46, 3) := by decide +kernel
theorem dX9_find_86 : decode cX9_find 86 = .ok (.aload_n 0, 1) := by decide +kernel
theorem dX9_find_87 : decode cX9_find 87 = .ok (.aload_n 1, 1) := by decide +kernel
theorem dX9_find_88 : decode cX9_find 88 = .ok (.iload_n 2, 1) := by decide +kernel
theorem dX9_find_89 : decode cX9_find 89 = .ok (.iload 4, 2) := by decide +kernel
theorem dX9_find_91 : decode cX9_find 91 = .ok (.aload_n 0, 1) := by decide +kernel
theorem dX9_find_92 : decode cX9_find 92 = .ok (.getfield 21, 3) := by decide +kernel
theorem dX9_find_95 : decode cX9_find 95 = .ok (.iconst 0, 1) := by decide +kernel
theorem dX9_find_96 : decode cX9_find 96 = .ok (.iaload, 1) := by decide +kernel
theorem dX9_find_97 : decode cX9_find 97 = .ok (.invokevirtual 49, 3) := by decide +kernel
theorem dX9_find_100 : decode cX9_find 100 = .ok (.invokestatic 61, 3) := by decide +kernel
theorem dX9_find_103 : decode cX9_find 103 = .ok (.istore 6, 2) := by decide +kernel
theorem dX9_find_105 : decode cX9_find 105 = .ok (.aload_n 3, 1) := by decide +kernel
theorem dX9_find_106 : decode cX9_find 106 = .ok (.getfield 65, 3) := by decide +kernel
theorem dX9_find_109 : decode cX9_find 109 = .ok (.iload 5, 2) := by decide +kernel
theorem dX9_find_111 : decode cX9_find 111 = .ok (.iload 6, 2) := by decide +kernel
theorem dX9_find_113 : decode cX9_find 113 = .ok (.iastore, 1) := by decide +kernel
theorem dX9_find_114 : decode cX9_find 114 = .ok (.iload 4, 2) := by decide +kernel
theorem dX9_find_116 : decode cX9_find 116 = .ok (.iconst 1, 1) := by decide +kernel
theorem dX9_find_117 : decode cX9_find 117 = .ok (.iload 6, 2) := by decide +kernel
theorem dX9_find_119 : decode cX9_find 119 = .ok (.ishl, 1) := by decide +kernel
theorem dX9_find_120 : decode cX9_find 120 = .ok (.ior, 1) := by decide +kernel
theorem dX9_find_121 : decode cX9_find 121 = .ok (.istore 4, 2) := by decide +kernel
theorem dX9_find_123 : decode cX9_find 123 = .ok (.iinc 5 1, 3) := by decide +kernel
theorem dX9_find_126 : decode cX9_find 126 = .ok (.goto (-49), 3) := by decide +kernel
theorem dX9_find_129 : decode cX9_find 129 = .ok (.return_, 1) := by decide +kernel
theorem dX9_fits_0 : decode cX9_fits 0 = .ok (.aload_n 0, 1) := by decide +kernel
theorem dX9_fits_1 : decode cX9_fits 1 = .ok (.getfield 11, 3) := by decide +kernel
theorem dX9_fits_4 : decode cX9_fits 4 = .ok (.iload_n 2, 1) := by decide +kernel
theorem dX9_fits_5 : decode cX9_fits 5 = .ok (.bipush 9, 2) := by decide +kernel
theorem dX9_fits_7 : decode cX9_fits 7 = .ok (.imul, 1) := by decide +kernel
theorem dX9_fits_8 : decode cX9_fits 8 = .ok (.iload_n 3, 1) := by decide +kernel
theorem dX9_fits_9 : decode cX9_fits 9 = .ok (.iadd, 1) := by decide +kernel
theorem dX9_fits_10 : decode cX9_fits 10 = .ok (.iaload, 1) := by decide +kernel
theorem dX9_fits_11 : decode cX9_fits 11 = .ok (.istore 5, 2) := by decide +kernel
theorem dX9_fits_13 : decode cX9_fits 13 = .ok (.iload_n 1, 1) := by decide +kernel
theorem dX9_fits_14 : decode cX9_fits 14 = .ok (.ifCond .eq 13, 3) := by decide +kernel
theorem dX9_fits_17 : decode cX9_fits 17 = .ok (.iload_n 1, 1) := by decide +kernel
theorem dX9_fits_18 : decode cX9_fits 18 = .ok (.iconst 1, 1) := by decide +kernel
theorem dX9_fits_19 : decode cX9_fits 19 = .ok (.if_icmp .eq 8, 3) := by decide +kernel
theorem dX9_fits_22 : decode cX9_fits 22 = .ok (.iload_n 1, 1) := by decide +kernel
theorem dX9_fits_23 : decode cX9_fits 23 = .ok (.iconst 5, 1) := by decide +kernel
theorem dX9_fits_24 : decode cX9_fits 24 = .ok (.if_icmp .ne 16, 3) := by decide +kernel
theorem dX9_fits_27 : decode cX9_fits 27 = .ok (.iload 5, 2) := by decide +kernel
theorem dX9_fits_29 : decode cX9_fits 29 = .ok (.iload 4, 2) := by decide +kernel
theorem dX9_fits_31 : decode cX9_fits 31 = .ok (.if_icmp .gt 7, 3) := by decide +kernel
theorem dX9_fits_34 : decode cX9_fits 34 = .ok (.iconst 1, 1) := by decide +kernel
theorem dX9_fits_35 : decode cX9_fits 35 = .ok (.goto 4, 3) := by decide +kernel
theorem dX9_fits_38 : decode cX9_fits 38 = .ok (.iconst 0, 1) := by decide +kernel
theorem dX9_fits_39 : decode cX9_fits 39 = .ok (.ireturn, 1) := by decide +kernel
theorem dX9_fits_40 : decode cX9_fits 40 = .ok (.iload 5, 2) := by decide +kernel
theorem dX9_fits_42 : decode cX9_fits 42 = .ok (.aload_n 0, 1) := by decide +kernel
theorem dX9_fits_43 : decode cX9_fits 43 = .ok (.getfield 21, 3) := by decide +kernel
theorem dX9_fits_46 : decode cX9_fits 46 = .ok (.iload_n 2, 1) := by decide +kernel
theorem dX9_fits_47 : decode cX9_fits 47 = .ok (.iconst 1, 1) := by decide +kernel
theorem dX9_fits_48 : decode cX9_fits 48 = .ok (.iload_n 3, 1) := by decide +kernel
theorem dX9_fits_49 : decode cX9_fits 49 = .ok (.ishl, 1) := by decide +kernel
theorem dX9_fits_50 : decode cX9_fits 50 = .ok (.ior, 1) := by decide +kernel
theorem dX9_fits_51 : decode cX9_fits 51 = .ok (.iaload, 1) := by decide +kernel
theorem dX9_fits_52 : decode cX9_fits 52 = .ok (.iadd, 1) := by decide +kernel
theorem dX9_fits_53 : decode cX9_fits 53 = .ok (.aload_n 0, 1) := by decide +kernel
theorem dX9_fits_54 : decode cX9_fits 54 = .ok (.getfield 21, 3) := by decide +kernel
theorem dX9_fits_57 : decode cX9_fits 57 = .ok (.iload_n 2, 1) := by decide +kernel
theorem dX9_fits_58 : decode cX9_fits 58 = .ok (.iaload, 1) := by decide +kernel
theorem dX9_fits_59 : decode cX9_fits 59 = .ok (.if_icmp .ne 7, 3) := by decide +kernel
theorem dX9_fits_62 : decode cX9_fits 62 = .ok (.iconst 1, 1) := by decide +kernel
theorem dX9_fits_63 : decode cX9_fits 63 = .ok (.goto 4, 3) := by decide +kernel
theorem dX9_fits_66 : decode cX9_fits 66 = .ok (.iconst 0, 1) := by decide +kernel
theorem dX9_fits_67 : decode cX9_fits 67 = .ok (.ireturn, 1) := by decide +kernel
theorem dX9_init_0 : decode cX9_init 0 = .ok (.aload_n 0, 1) := by decide +kernel
theorem dX9_init_1 : decode cX9_init 1 = .ok (.invokespecial 3, 3) := by decide +kernel
theorem dX9_init_4 : decode cX9_init 4 = .ok (.aload_n 0, 1) := by decide +kernel
theorem dX9_init_5 : decode cX9_init 5 = .ok (.sipush 4608, 3) := by decide +kernel
theorem dX9_init_8 : decode cX9_init 8 = .ok (.newarray .int, 2) := by decide +kernel
theorem dX9_init_10 : decode cX9_init 10 = .ok (.putfield 11, 3) := by decide +kernel
theorem dX9_init_13 : decode cX9_init 13 = .ok (.aload_n 0, 1) := by decide +kernel
theorem dX9_init_14 : decode cX9_init 14 = .ok (.sipush 4608, 3) := by decide +kernel
theorem dX9_init_17 : decode cX9_init 17 = .ok (.newarray .int, 2) := by decide +kernel
theorem dX9_init_19 : decode cX9_init 19 = .ok (.putfield 15, 3) := by decide +kernel
theorem dX9_init_22 : decode cX9_init 22 = .ok (.aload_n 0, 1) := by decide +kernel
theorem dX9_init_23 : decode cX9_init 23 = .ok (.sipush 4608, 3) := by decide +kernel
theorem dX9_init_26 : decode cX9_init 26 = .ok (.newarray .int, 2) := by decide +kernel
theorem dX9_init_28 : decode cX9_init 28 = .ok (.putfield 18, 3) := by decide +kernel
theorem dX9_init_31 : decode cX9_init 31 = .ok (.aload_n 0, 1) := by decide +kernel
theorem dX9_init_32 : decode cX9_init 32 = .ok (.sipush 512, 3) := by decide +kernel
theorem dX9_init_35 : decode cX9_init 35 = .ok (.newarray .int, 2) := by decide +kernel
theorem dX9_init_37 : decode cX9_init 37 = .ok (.putfield 21, 3) := by decide +kernel
theorem dX9_init_40 : decode cX9_init 40 = .ok (.aload_n 0, 1) := by decide +kernel
theorem dX9_init_41 : decode cX9_init 41 = .ok (.sipush 512, 3) := by decide +kernel
theorem dX9_init_44 : decode cX9_init 44 = .ok (.newarray .int, 2) := by decide +kernel
theorem dX9_init_46 : decode cX9_init 46 = .ok (.putfield 24, 3) := by decide +kernel
theorem dX9_init_49 : decode cX9_init 49 = .ok (.return_, 1) := by decide +kernel
theorem dX9_leadersFrom_0 : decode cX9_leadersFrom 0 = .ok (.iconst 0, 1) := by decide +kernel
theorem dX9_leadersFrom_1 : decode cX9_leadersFrom 1 = .ok (.istore 5, 2) := by decide +kernel
theorem dX9_leadersFrom_3 : decode cX9_leadersFrom 3 = .ok (.iconst 0, 1) := by decide +kernel
theorem dX9_leadersFrom_4 : decode cX9_leadersFrom 4 = .ok (.istore 6, 2) := by decide +kernel
theorem dX9_leadersFrom_6 : decode cX9_leadersFrom 6 = .ok (.iload 6, 2) := by decide +kernel
theorem dX9_leadersFrom_8 : decode cX9_leadersFrom 8 = .ok (.aload_n 1, 1) := by decide +kernel
theorem dX9_leadersFrom_9 : decode cX9_leadersFrom 9 = .ok (.getfield 56, 3) := by decide +kernel
theorem dX9_leadersFrom_12 : decode cX9_leadersFrom 12 = .ok (.if_icmp .ge 54, 3) := by decide +kernel
theorem dX9_leadersFrom_15 : decode cX9_leadersFrom 15 = .ok (.iload_n 3, 1) := by decide +kernel
theorem dX9_leadersFrom_16 : decode cX9_leadersFrom 16 = .ok (.iload 6, 2) := by decide +kernel
theorem dX9_leadersFrom_18 : decode cX9_leadersFrom 18 = .ok (.ishr, 1) := by decide +kernel
theorem dX9_leadersFrom_19 : decode cX9_leadersFrom 19 = .ok (.iconst 1, 1) := by decide +kernel
theorem dX9_leadersFrom_20 : decode cX9_leadersFrom 20 = .ok (.iand, 1) := by decide +kernel
theorem dX9_leadersFrom_21 : decode cX9_leadersFrom 21 = .ok (.ifCond .ne 39, 3) := by decide +kernel
theorem dX9_leadersFrom_24 : decode cX9_leadersFrom 24 = .ok (.aload_n 0, 1) := by decide +kernel
theorem dX9_leadersFrom_25 : decode cX9_leadersFrom 25 = .ok (.getfield 24, 3) := by decide +kernel
theorem dX9_leadersFrom_28 : decode cX9_leadersFrom 28 = .ok (.iload_n 3, 1) := by decide +kernel
theorem dX9_leadersFrom_29 : decode cX9_leadersFrom 29 = .ok (.iconst 1, 1) := by decide +kernel
theorem dX9_leadersFrom_30 : decode cX9_leadersFrom 30 = .ok (.iload 6, 2) := by decide +kernel
theorem dX9_leadersFrom_32 : decode cX9_leadersFrom 32 = .ok (.ishl, 1) := by decide +kernel
theorem dX9_leadersFrom_33 : decode cX9_leadersFrom 33 = .ok (.ior, 1) := by decide +kernel
theorem dX9_leadersFrom_34 : decode cX9_leadersFrom 34 = .ok (.iaload, 1) := by decide +kernel
theorem dX9_leadersFrom_35 : decode cX9_leadersFrom 35 = .ok (.ifCond .le 25, 3) := by decide +kernel
theorem dX9_leadersFrom_38 : decode cX9_leadersFrom 38 = .ok (.aload_n 0, 1) := by decide +kernel
theorem dX9_leadersFrom_39 : decode cX9_leadersFrom 39 = .ok (.iload_n 2, 1) := by decide +kernel
theorem dX9_leadersFrom_40 : decode cX9_leadersFrom 40 = .ok (.iload_n 3, 1) := by decide +kernel
theorem dX9_leadersFrom_41 : decode cX9_leadersFrom 41 = .ok (.iload 6, 2) := by decide +kernel
theorem dX9_leadersFrom_43 : decode cX9_leadersFrom 43 = .ok (.iload 4, 2) := by decide +kernel
theorem dX9_leadersFrom_45 : decode cX9_leadersFrom 45 = .ok (.invokevirtual 113, 3) := by decide +kernel
theorem dX9_leadersFrom_48 : decode cX9_leadersFrom 48 = .ok (.ifCond .eq 12, 3) := by decide +kernel
theorem dX9_leadersFrom_51 : decode cX9_leadersFrom 51 = .ok (.iload 5, 2) := by decide +kernel
theorem dX9_leadersFrom_53 : decode cX9_leadersFrom 53 = .ok (.iconst 1, 1) := by decide +kernel
theorem dX9_leadersFrom_54 : decode cX9_leadersFrom 54 = .ok (.iload 6, 2) := by decide +kernel
theorem dX9_leadersFrom_56 : decode cX9_leadersFrom 56 = .ok (.ishl, 1) := by decide +kernel
theorem dX9_leadersFrom_57 : decode cX9_leadersFrom 57 = .ok (.ior, 1) := by decide +kernel
theorem dX9_leadersFrom_58 : decode cX9_leadersFrom 58 = .ok (.istore 5, 2) := by decide +kernel
theorem dX9_leadersFrom_60 : decode cX9_leadersFrom 60 = .ok (.iinc 6 1, 3) := by decide +kernel
theorem dX9_leadersFrom_63 : decode cX9_leadersFrom 63 = .ok (.goto (-57), 3) := by decide +kernel
theorem dX9_leadersFrom_66 : decode cX9_leadersFrom 66 = .ok (.iload 5, 2) := by decide +kernel
theorem dX9_leadersFrom_68 : decode cX9_leadersFrom 68 = .ok (.ireturn, 1) := by decide +kernel
theorem dX9_leastWhere_0 : decode cX9_leastWhere 0 = .ok (.aload_n 0, 1) := by decide +kernel
theorem dX9_leastWhere_1 : decode cX9_leastWhere 1 = .ok (.aload_n 1, 1) := by decide +kernel
theorem dX9_leastWhere_2 : decode cX9_leastWhere 2 = .ok (.iload_n 3, 1) := by decide +kernel
theorem dX9_leastWhere_3 : decode cX9_leastWhere 3 = .ok (.aload_n 0, 1) := by decide +kernel
theorem dX9_leastWhere_4 : decode cX9_leastWhere 4 = .ok (.getfield 15, 3) := by decide +kernel
theorem dX9_leastWhere_7 : decode cX9_leastWhere 7 = .ok (.invokevirtual 27, 3) := by decide +kernel
theorem dX9_leastWhere_10 : decode cX9_leastWhere 10 = .ok (.aload_n 0, 1) := by decide +kernel
theorem dX9_leastWhere_11 : decode cX9_leastWhere 11 = .ok (.aload_n 1, 1) := by decide +kernel
theorem dX9_leastWhere_12 : decode cX9_leastWhere 12 = .ok (.iload_n 2, 1) := by decide +kernel
theorem dX9_leastWhere_13 : decode cX9_leastWhere 13 = .ok (.aload_n 0, 1) := by decide +kernel
theorem dX9_leastWhere_14 : decode cX9_leastWhere 14 = .ok (.getfield 11, 3) := by decide +kernel
theorem dX9_leastWhere_17 : decode cX9_leastWhere 17 = .ok (.invokevirtual 27, 3) := by decide +kernel
theorem dX9_leastWhere_20 : decode cX9_leastWhere 20 = .ok (.aload_n 0, 1) := by decide +kernel
theorem dX9_leastWhere_21 : decode cX9_leastWhere 21 = .ok (.aload_n 1, 1) := by decide +kernel
theorem dX9_leastWhere_22 : decode cX9_leastWhere 22 = .ok (.iload_n 2, 1) := by decide +kernel
theorem dX9_leastWhere_23 : decode cX9_leastWhere 23 = .ok (.aload_n 0, 1) := by decide +kernel
theorem dX9_leastWhere_24 : decode cX9_leastWhere 24 = .ok (.getfield 15, 3) := by decide +kernel
theorem dX9_leastWhere_27 : decode cX9_leastWhere 27 = .ok (.iload 4, 2) := by decide +kernel
theorem dX9_leastWhere_29 : decode cX9_leastWhere 29 = .ok (.invokevirtual 32, 3) := by decide +kernel
theorem dX9_leastWhere_32 : decode cX9_leastWhere 32 = .ok (.aload_n 0, 1) := by decide +kernel
theorem dX9_leastWhere_33 : decode cX9_leastWhere 33 = .ok (.getfield 21, 3) := by decide +kernel
theorem dX9_leastWhere_36 : decode cX9_leastWhere 36 = .ok (.iconst 0, 1) := by decide +kernel
theorem dX9_leastWhere_37 : decode cX9_leastWhere 37 = .ok (.iaload, 1) := by decide +kernel
theorem dX9_leastWhere_38 : decode cX9_leastWhere 38 = .ok (.ireturn, 1) := by decide +kernel
theorem dX9_lowest_0 : decode cX9_lowest 0 = .ok (.iconst 0, 1) := by decide +kernel
theorem dX9_lowest_1 : decode cX9_lowest 1 = .ok (.istore_n 1, 1) := by decide +kernel
theorem dX9_lowest_2 : decode cX9_lowest 2 = .ok (.iload_n 1, 1) := by decide +kernel
theorem dX9_lowest_3 : decode cX9_lowest 3 = .ok (.bipush 9, 2) := by decide +kernel
theorem dX9_lowest_5 : decode cX9_lowest 5 = .ok (.if_icmp .ge 19, 3) := by decide +kernel
theorem dX9_lowest_8 : decode cX9_lowest 8 = .ok (.iload_n 0, 1) := by decide +kernel
theorem dX9_lowest_9 : decode cX9_lowest 9 = .ok (.iload_n 1, 1) := by decide +kernel
theorem dX9_lowest_10 : decode cX9_lowest 10 = .ok (.ishr, 1) := by decide +kernel
theorem dX9_lowest_11 : decode cX9_lowest 11 = .ok (.iconst 1, 1) := by decide +kernel
theorem dX9_lowest_12 : decode cX9_lowest 12 = .ok (.iand, 1) := by decide +kernel
theorem dX9_lowest_13 : decode cX9_lowest 13 = .ok (.ifCond .eq 5, 3) := by decide +kernel
theorem dX9_lowest_16 : decode cX9_lowest 16 = .ok (.iload_n 1, 1) := by decide +kernel
theorem dX9_lowest_17 : decode cX9_lowest 17 = .ok (.ireturn, 1) := by decide +kernel
theorem dX9_lowest_18 : decode cX9_lowest 18 = .ok (.iinc 1 1, 3) := by decide +kernel
theorem dX9_lowest_21 : decode cX9_lowest 21 = .ok (.goto (-19), 3) := by decide +kernel
theorem dX9_lowest_24 : decode cX9_lowest 24 = .ok (.iconst 0, 1) := by decide +kernel
theorem dX9_lowest_25 : decode cX9_lowest 25 = .ok (.ireturn, 1) := by decide +kernel
theorem dX9_newLines_0 : decode cX9_newLines 0 = .ok (.iconst 0, 1) := by decide +kernel
theorem dX9_newLines_1 : decode cX9_newLines 1 = .ok (.istore 4, 2) := by decide +kernel
theorem dX9_newLines_3 : decode cX9_newLines 3 = .ok (.iconst 0, 1) := by decide +kernel
theorem dX9_newLines_4 : decode cX9_newLines 4 = .ok (.istore 5, 2) := by decide +kernel
theorem dX9_newLines_6 : decode cX9_newLines 6 = .ok (.iload 5, 2) := by decide +kernel
theorem dX9_newLines_8 : decode cX9_newLines 8 = .ok (.aload_n 1, 1) := by decide +kernel
theorem dX9_newLines_9 : decode cX9_newLines 9 = .ok (.getfield 56, 3) := by decide +kernel
theorem dX9_newLines_12 : decode cX9_newLines 12 = .ok (.if_icmp .ge 51, 3) := by decide +kernel
theorem dX9_newLines_15 : decode cX9_newLines 15 = .ok (.iload_n 3, 1) := by decide +kernel
theorem dX9_newLines_16 : decode cX9_newLines 16 = .ok (.iload 5, 2) := by decide +kernel
theorem dX9_newLines_18 : decode cX9_newLines 18 = .ok (.ishr, 1) := by decide +kernel
theorem dX9_newLines_19 : decode cX9_newLines 19 = .ok (.iconst 1, 1) := by decide +kernel
theorem dX9_newLines_20 : decode cX9_newLines 20 = .ok (.iand, 1) := by decide +kernel
theorem dX9_newLines_21 : decode cX9_newLines 21 = .ok (.ifCond .eq 36, 3) := by decide +kernel
theorem dX9_newLines_24 : decode cX9_newLines 24 = .ok (.iload_n 3, 1) := by decide +kernel
theorem dX9_newLines_25 : decode cX9_newLines 25 = .ok (.iload 5, 2) := by decide +kernel
theorem dX9_newLines_27 : decode cX9_newLines 27 = .ok (.invokestatic 97, 3) := by decide +kernel
theorem dX9_newLines_30 : decode cX9_newLines 30 = .ok (.istore 6, 2) := by decide +kernel
theorem dX9_newLines_32 : decode cX9_newLines 32 = .ok (.iload 4, 2) := by decide +kernel
theorem dX9_newLines_34 : decode cX9_newLines 34 = .ok (.iload 6, 2) := by decide +kernel
theorem dX9_newLines_36 : decode cX9_newLines 36 = .ok (.aload_n 0, 1) := by decide +kernel
theorem dX9_newLines_37 : decode cX9_newLines 37 = .ok (.getfield 18, 3) := by decide +kernel
theorem dX9_newLines_40 : decode cX9_newLines 40 = .ok (.iload_n 2, 1) := by decide +kernel
theorem dX9_newLines_41 : decode cX9_newLines 41 = .ok (.bipush 9, 2) := by decide +kernel
theorem dX9_newLines_43 : decode cX9_newLines 43 = .ok (.imul, 1) := by decide +kernel
theorem dX9_newLines_44 : decode cX9_newLines 44 = .ok (.iload 5, 2) := by decide +kernel
theorem dX9_newLines_46 : decode cX9_newLines 46 = .ok (.iadd, 1) := by decide +kernel
theorem dX9_newLines_47 : decode cX9_newLines 47 = .ok (.iaload, 1) := by decide +kernel
theorem dX9_newLines_48 : decode cX9_newLines 48 = .ok (.iconst (-1), 1) := by decide +kernel
theorem dX9_newLines_49 : decode cX9_newLines 49 = .ok (.ixor, 1) := by decide +kernel
theorem dX9_newLines_50 : decode cX9_newLines 50 = .ok (.iand, 1) := by decide +kernel
theorem dX9_newLines_51 : decode cX9_newLines 51 = .ok (.invokestatic 88, 3) := by decide +kernel
theorem dX9_newLines_54 : decode cX9_newLines 54 = .ok (.iadd, 1) := by decide +kernel
theorem dX9_newLines_55 : decode cX9_newLines 55 = .ok (.istore 4, 2) := by decide +kernel
theorem dX9_newLines_57 : decode cX9_newLines 57 = .ok (.iinc 5 1, 3) := by decide +kernel
theorem dX9_newLines_60 : decode cX9_newLines 60 = .ok (.goto (-54), 3) := by decide +kernel
theorem dX9_newLines_63 : decode cX9_newLines 63 = .ok (.iload 4, 2) := by decide +kernel
theorem dX9_newLines_65 : decode cX9_newLines 65 = .ok (.ireturn, 1) := by decide +kernel
theorem dX9_rowsWithin_0 : decode cX9_rowsWithin 0 = .ok (.aload_n 0, 1) := by decide +kernel
theorem dX9_rowsWithin_1 : decode cX9_rowsWithin 1 = .ok (.aload_n 1, 1) := by decide +kernel
theorem dX9_rowsWithin_2 : decode cX9_rowsWithin 2 = .ok (.iload_n 2, 1) := by decide +kernel
theorem dX9_rowsWithin_3 : decode cX9_rowsWithin 3 = .ok (.aload_n 0, 1) := by decide +kernel
theorem dX9_rowsWithin_4 : decode cX9_rowsWithin 4 = .ok (.getfield 11, 3) := by decide +kernel
theorem dX9_rowsWithin_7 : decode cX9_rowsWithin 7 = .ok (.invokevirtual 27, 3) := by decide +kernel
theorem dX9_rowsWithin_10 : decode cX9_rowsWithin 10 = .ok (.aload_n 0, 1) := by decide +kernel
theorem dX9_rowsWithin_11 : decode cX9_rowsWithin 11 = .ok (.aload_n 1, 1) := by decide +kernel
theorem dX9_rowsWithin_12 : decode cX9_rowsWithin 12 = .ok (.iload_n 2, 1) := by decide +kernel
theorem dX9_rowsWithin_13 : decode cX9_rowsWithin 13 = .ok (.iload_n 3, 1) := by decide +kernel
theorem dX9_rowsWithin_14 : decode cX9_rowsWithin 14 = .ok (.invokevirtual 42, 3) := by decide +kernel
theorem dX9_rowsWithin_17 : decode cX9_rowsWithin 17 = .ok (.aload_n 0, 1) := by decide +kernel
theorem dX9_rowsWithin_18 : decode cX9_rowsWithin 18 = .ok (.getfield 24, 3) := by decide +kernel
theorem dX9_rowsWithin_21 : decode cX9_rowsWithin 21 = .ok (.iconst 0, 1) := by decide +kernel
theorem dX9_rowsWithin_22 : decode cX9_rowsWithin 22 = .ok (.iaload, 1) := by decide +kernel
theorem dX9_rowsWithin_23 : decode cX9_rowsWithin 23 = .ok (.ireturn, 1) := by decide +kernel
