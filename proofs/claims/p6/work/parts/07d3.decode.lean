/-! decode rows -/
theorem dX12_farOf_31 : decode cX12_farOf 31 = .ok (.if_icmp .ge 35, 3) := by decide +kernel
theorem dX12_farOf_34 : decode cX12_farOf 34 = .ok (.iload 6, 2) := by decide +kernel
theorem dX12_farOf_36 : decode cX12_farOf 36 = .ok (.iload 4, 2) := by decide +kernel
theorem dX12_farOf_38 : decode cX12_farOf 38 = .ok (.iload 7, 2) := by decide +kernel
theorem dX12_farOf_40 : decode cX12_farOf 40 = .ok (.invokestatic 166, 3) := by decide +kernel
theorem dX12_farOf_43 : decode cX12_farOf 43 = .ok (.ifCond .eq 13, 3) := by decide +kernel
theorem dX12_farOf_46 : decode cX12_farOf 46 = .ok (.aload_n 0, 1) := by decide +kernel
theorem dX12_farOf_47 : decode cX12_farOf 47 = .ok (.iload_n 1, 1) := by decide +kernel
theorem dX12_farOf_48 : decode cX12_farOf 48 = .ok (.iload 7, 2) := by decide +kernel
theorem dX12_farOf_50 : decode cX12_farOf 50 = .ok (.invokevirtual 80, 3) := by decide +kernel
theorem dX12_farOf_53 : decode cX12_farOf 53 = .ok (.goto 4, 3) := by decide +kernel
theorem dX12_farOf_56 : decode cX12_farOf 56 = .ok (.iconst 0, 1) := by decide +kernel
theorem dX12_farOf_57 : decode cX12_farOf 57 = .ok (.ior, 1) := by decide +kernel
theorem dX12_farOf_58 : decode cX12_farOf 58 = .ok (.istore 6, 2) := by decide +kernel
theorem dX12_farOf_60 : decode cX12_farOf 60 = .ok (.iinc 7 1, 3) := by decide +kernel
theorem dX12_farOf_63 : decode cX12_farOf 63 = .ok (.goto (-39), 3) := by decide +kernel
theorem dX12_farOf_66 : decode cX12_farOf 66 = .ok (.iload 6, 2) := by decide +kernel
theorem dX12_farOf_68 : decode cX12_farOf 68 = .ok (.iload 4, 2) := by decide +kernel
theorem dX12_farOf_70 : decode cX12_farOf 70 = .ok (.if_icmp .ne 5, 3) := by decide +kernel
theorem dX12_farOf_73 : decode cX12_farOf 73 = .ok (.iconst (-1), 1) := by decide +kernel
theorem dX12_farOf_74 : decode cX12_farOf 74 = .ok (.ireturn, 1) := by decide +kernel
theorem dX12_farOf_75 : decode cX12_farOf 75 = .ok (.iload 6, 2) := by decide +kernel
theorem dX12_farOf_77 : decode cX12_farOf 77 = .ok (.istore 4, 2) := by decide +kernel
theorem dX12_farOf_79 : decode cX12_farOf 79 = .ok (.iinc 5 1, 3) := by decide +kernel
theorem dX12_farOf_82 : decode cX12_farOf 82 = .ok (.goto (-74), 3) := by decide +kernel
theorem dX12_farOf_85 : decode cX12_farOf 85 = .ok (.iload 5, 2) := by decide +kernel
theorem dX12_farOf_87 : decode cX12_farOf 87 = .ok (.ireturn, 1) := by decide +kernel
theorem dX12_fault_0 : decode cX12_fault 0 = .ok (.iload_n 1, 1) := by decide +kernel
theorem dX12_fault_1 : decode cX12_fault 1 = .ok (.ifCond .ne 10, 3) := by decide +kernel
theorem dX12_fault_4 : decode cX12_fault 4 = .ok (.aload_n 0, 1) := by decide +kernel
theorem dX12_fault_5 : decode cX12_fault 5 = .ok (.getfield 127, 3) := by decide +kernel
theorem dX12_fault_8 : decode cX12_fault 8 = .ok (.goto 16, 3) := by decide +kernel
theorem dX12_fault_11 : decode cX12_fault 11 = .ok (.iload_n 1, 1) := by decide +kernel
theorem dX12_fault_12 : decode cX12_fault 12 = .ok (.iconst 1, 1) := by decide +kernel
theorem dX12_fault_13 : decode cX12_fault 13 = .ok (.if_icmp .ne 10, 3) := by decide +kernel
theorem dX12_fault_16 : decode cX12_fault 16 = .ok (.aload_n 0, 1) := by decide +kernel
theorem dX12_fault_17 : decode cX12_fault 17 = .ok (.getfield 22, 3) := by decide +kernel
theorem dX12_fault_20 : decode cX12_fault 20 = .ok (.goto 4, 3) := by decide +kernel
theorem dX12_fault_23 : decode cX12_fault 23 = .ok (.iconst (-1), 1) := by decide +kernel
theorem dX12_fault_24 : decode cX12_fault 24 = .ok (.ireturn, 1) := by decide +kernel
theorem dX12_faults_0 : decode cX12_faults 0 = .ok (.aload_n 0, 1) := by decide +kernel
theorem dX12_faults_1 : decode cX12_faults 1 = .ok (.getfield 123, 3) := by decide +kernel
theorem dX12_faults_4 : decode cX12_faults 4 = .ok (.ifCond .ne 21, 3) := by decide +kernel
theorem dX12_faults_7 : decode cX12_faults 7 = .ok (.aload_n 0, 1) := by decide +kernel
theorem dX12_faults_8 : decode cX12_faults 8 = .ok (.iconst 1, 1) := by decide +kernel
theorem dX12_faults_9 : decode cX12_faults 9 = .ok (.putfield 123, 3) := by decide +kernel
theorem dX12_faults_12 : decode cX12_faults 12 = .ok (.aload_n 0, 1) := by decide +kernel
theorem dX12_faults_13 : decode cX12_faults 13 = .ok (.iload_n 1, 1) := by decide +kernel
theorem dX12_faults_14 : decode cX12_faults 14 = .ok (.putfield 127, 3) := by decide +kernel
theorem dX12_faults_17 : decode cX12_faults 17 = .ok (.aload_n 0, 1) := by decide +kernel
theorem dX12_faults_18 : decode cX12_faults 18 = .ok (.aload_n 0, 1) := by decide +kernel
theorem dX12_faults_19 : decode cX12_faults 19 = .ok (.getfield 109, 3) := by decide +kernel
theorem dX12_faults_22 : decode cX12_faults 22 = .ok (.putfield 22, 3) := by decide +kernel
theorem dX12_faults_25 : decode cX12_faults 25 = .ok (.return_, 1) := by decide +kernel
theorem dX12_feed_0 : decode cX12_feed 0 = .ok (.aload_n 0, 1) := by decide +kernel
theorem dX12_feed_1 : decode cX12_feed 1 = .ok (.getfield 100, 3) := by decide +kernel
theorem dX12_feed_4 : decode cX12_feed 4 = .ok (.sipush 380, 3) := by decide +kernel
theorem dX12_feed_7 : decode cX12_feed 7 = .ok (.if_icmp .le 5, 3) := by decide +kernel
theorem dX12_feed_10 : decode cX12_feed 10 = .ok (.iconst (-1), 1) := by decide +kernel
theorem dX12_feed_11 : decode cX12_feed 11 = .ok (.ireturn, 1) := by decide +kernel
theorem dX12_feed_12 : decode cX12_feed 12 = .ok (.iconst 5, 1) := by decide +kernel
theorem dX12_feed_13 : decode cX12_feed 13 = .ok (.newarray .int, 2) := by decide +kernel
theorem dX12_feed_15 : decode cX12_feed 15 = .ok (.dup, 1) := by decide +kernel
theorem dX12_feed_16 : decode cX12_feed 16 = .ok (.iconst 0, 1) := by decide +kernel
theorem dX12_feed_17 : decode cX12_feed 17 = .ok (.iload_n 1, 1) := by decide +kernel
theorem dX12_feed_18 : decode cX12_feed 18 = .ok (.iastore, 1) := by decide +kernel
theorem dX12_feed_19 : decode cX12_feed 19 = .ok (.dup, 1) := by decide +kernel
theorem dX12_feed_20 : decode cX12_feed 20 = .ok (.iconst 1, 1) := by decide +kernel
theorem dX12_feed_21 : decode cX12_feed 21 = .ok (.iload_n 2, 1) := by decide +kernel
theorem dX12_feed_22 : decode cX12_feed 22 = .ok (.iastore, 1) := by decide +kernel
theorem dX12_feed_23 : decode cX12_feed 23 = .ok (.dup, 1) := by decide +kernel
theorem dX12_feed_24 : decode cX12_feed 24 = .ok (.iconst 2, 1) := by decide +kernel
theorem dX12_feed_25 : decode cX12_feed 25 = .ok (.iload_n 3, 1) := by decide +kernel
theorem dX12_feed_26 : decode cX12_feed 26 = .ok (.iastore, 1) := by decide +kernel
theorem dX12_feed_27 : decode cX12_feed 27 = .ok (.dup, 1) := by decide +kernel
theorem dX12_feed_28 : decode cX12_feed 28 = .ok (.iconst 3, 1) := by decide +kernel
theorem dX12_feed_29 : decode cX12_feed 29 = .ok (.iload 4, 2) := by decide +kernel
theorem dX12_feed_31 : decode cX12_feed 31 = .ok (.iastore, 1) := by decide +kernel
theorem dX12_feed_32 : decode cX12_feed 32 = .ok (.dup, 1) := by decide +kernel
theorem dX12_feed_33 : decode cX12_feed 33 = .ok (.iconst 4, 1) := by decide +kernel
theorem dX12_feed_34 : decode cX12_feed 34 = .ok (.iload 5, 2) := by decide +kernel
theorem dX12_feed_36 : decode cX12_feed 36 = .ok (.iastore, 1) := by decide +kernel
theorem dX12_feed_37 : decode cX12_feed 37 = .ok (.astore 6, 2) := by decide +kernel
theorem dX12_feed_39 : decode cX12_feed 39 = .ok (.iconst 0, 1) := by decide +kernel
theorem dX12_feed_40 : decode cX12_feed 40 = .ok (.istore 7, 2) := by decide +kernel
theorem dX12_feed_42 : decode cX12_feed 42 = .ok (.iload 7, 2) := by decide +kernel
theorem dX12_feed_44 : decode cX12_feed 44 = .ok (.bipush 20, 2) := by decide +kernel
theorem dX12_feed_46 : decode cX12_feed 46 = .ok (.if_icmp .ge 43, 3) := by decide +kernel
theorem dX12_feed_49 : decode cX12_feed 49 = .ok (.aload_n 0, 1) := by decide +kernel
theorem dX12_feed_50 : decode cX12_feed 50 = .ok (.getfield 19, 3) := by decide +kernel
theorem dX12_feed_53 : decode cX12_feed 53 = .ok (.aload_n 0, 1) := by decide +kernel
theorem dX12_feed_54 : decode cX12_feed 54 = .ok (.getfield 100, 3) := by decide +kernel
theorem dX12_feed_57 : decode cX12_feed 57 = .ok (.iload 7, 2) := by decide +kernel
theorem dX12_feed_59 : decode cX12_feed 59 = .ok (.iadd, 1) := by decide +kernel
theorem dX12_feed_60 : decode cX12_feed 60 = .ok (.aload 6, 2) := by decide +kernel
theorem dX12_feed_62 : decode cX12_feed 62 = .ok (.iload 7, 2) := by decide +kernel
theorem dX12_feed_64 : decode cX12_feed 64 = .ok (.iconst 4, 1) := by decide +kernel
theorem dX12_feed_65 : decode cX12_feed 65 = .ok (.idiv, 1) := by decide +kernel
theorem dX12_feed_66 : decode cX12_feed 66 = .ok (.iaload, 1) := by decide +kernel
theorem dX12_feed_67 : decode cX12_feed 67 = .ok (.bipush 24, 2) := by decide +kernel
theorem dX12_feed_69 : decode cX12_feed 69 = .ok (.bipush 8, 2) := by decide +kernel
theorem dX12_feed_71 : decode cX12_feed 71 = .ok (.iload 7, 2) := by decide +kernel
theorem dX12_feed_73 : decode cX12_feed 73 = .ok (.iconst 4, 1) := by decide +kernel
theorem dX12_feed_74 : decode cX12_feed 74 = .ok (.irem, 1) := by decide +kernel
theorem dX12_feed_75 : decode cX12_feed 75 = .ok (.imul, 1) := by decide +kernel
theorem dX12_feed_76 : decode cX12_feed 76 = .ok (.isub, 1) := by decide +kernel
theorem dX12_feed_77 : decode cX12_feed 77 = .ok (.iushr, 1) := by decide +kernel
theorem dX12_feed_78 : decode cX12_feed 78 = .ok (.sipush 255, 3) := by decide +kernel
theorem dX12_feed_81 : decode cX12_feed 81 = .ok (.iand, 1) := by decide +kernel
theorem dX12_feed_82 : decode cX12_feed 82 = .ok (.iastore, 1) := by decide +kernel
theorem dX12_feed_83 : decode cX12_feed 83 = .ok (.iinc 7 1, 3) := by decide +kernel
theorem dX12_feed_86 : decode cX12_feed 86 = .ok (.goto (-44), 3) := by decide +kernel
theorem dX12_feed_89 : decode cX12_feed 89 = .ok (.aload_n 0, 1) := by decide +kernel
theorem dX12_feed_90 : decode cX12_feed 90 = .ok (.dup, 1) := by decide +kernel
theorem dX12_feed_91 : decode cX12_feed 91 = .ok (.getfield 100, 3) := by decide +kernel
theorem dX12_feed_94 : decode cX12_feed 94 = .ok (.bipush 20, 2) := by decide +kernel
theorem dX12_feed_96 : decode cX12_feed 96 = .ok (.iadd, 1) := by decide +kernel
theorem dX12_feed_97 : decode cX12_feed 97 = .ok (.putfield 100, 3) := by decide +kernel
theorem dX12_feed_100 : decode cX12_feed 100 = .ok (.aload_n 0, 1) := by decide +kernel
theorem dX12_feed_101 : decode cX12_feed 101 = .ok (.getfield 100, 3) := by decide +kernel
theorem dX12_feed_104 : decode cX12_feed 104 = .ok (.ireturn, 1) := by decide +kernel
theorem dX12_fewestOf_0 : decode cX12_fewestOf 0 = .ok (.iconst (-1), 1) := by decide +kernel
theorem dX12_fewestOf_1 : decode cX12_fewestOf 1 = .ok (.istore_n 2, 1) := by decide +kernel
theorem dX12_fewestOf_2 : decode cX12_fewestOf 2 = .ok (.iconst 0, 1) := by decide +kernel
theorem dX12_fewestOf_3 : decode cX12_fewestOf 3 = .ok (.istore_n 3, 1) := by decide +kernel
theorem dX12_fewestOf_4 : decode cX12_fewestOf 4 = .ok (.iload_n 3, 1) := by decide +kernel
theorem dX12_fewestOf_5 : decode cX12_fewestOf 5 = .ok (.bipush 9, 2) := by decide +kernel
theorem dX12_fewestOf_7 : decode cX12_fewestOf 7 = .ok (.if_icmp .ge 49, 3) := by decide +kernel
theorem dX12_fewestOf_10 : decode cX12_fewestOf 10 = .ok (.iload_n 1, 1) := by decide +kernel
theorem dX12_fewestOf_11 : decode cX12_fewestOf 11 = .ok (.iload_n 3, 1) := by decide +kernel
theorem dX12_fewestOf_12 : decode cX12_fewestOf 12 = .ok (.invokestatic 166, 3) := by decide +kernel
theorem dX12_fewestOf_15 : decode cX12_fewestOf 15 = .ok (.ifCond .eq 33, 3) := by decide +kernel
theorem dX12_fewestOf_18 : decode cX12_fewestOf 18 = .ok (.iload_n 2, 1) := by decide +kernel
theorem dX12_fewestOf_19 : decode cX12_fewestOf 19 = .ok (.iconst (-1), 1) := by decide +kernel
theorem dX12_fewestOf_20 : decode cX12_fewestOf 20 = .ok (.if_icmp .eq 24, 3) := by decide +kernel
theorem dX12_fewestOf_23 : decode cX12_fewestOf 23 = .ok (.aload_n 0, 1) := by decide +kernel
theorem dX12_fewestOf_24 : decode cX12_fewestOf 24 = .ok (.getfield 44, 3) := by decide +kernel
theorem dX12_fewestOf_27 : decode cX12_fewestOf 27 = .ok (.iload_n 3, 1) := by decide +kernel
theorem dX12_fewestOf_28 : decode cX12_fewestOf 28 = .ok (.iaload, 1) := by decide +kernel
theorem dX12_fewestOf_29 : decode cX12_fewestOf 29 = .ok (.invokestatic 84, 3) := by decide +kernel
theorem dX12_fewestOf_32 : decode cX12_fewestOf 32 = .ok (.aload_n 0, 1) := by decide +kernel
theorem dX12_fewestOf_33 : decode cX12_fewestOf 33 = .ok (.getfield 44, 3) := by decide +kernel
theorem dX12_fewestOf_36 : decode cX12_fewestOf 36 = .ok (.iload_n 2, 1) := by decide +kernel
theorem dX12_fewestOf_37 : decode cX12_fewestOf 37 = .ok (.iaload, 1) := by decide +kernel
theorem dX12_fewestOf_38 : decode cX12_fewestOf 38 = .ok (.invokestatic 84, 3) := by decide +kernel
theorem dX12_fewestOf_41 : decode cX12_fewestOf 41 = .ok (.if_icmp .ge 7, 3) := by decide +kernel
theorem dX12_fewestOf_44 : decode cX12_fewestOf 44 = .ok (.iload_n 3, 1) := by decide +kernel
theorem dX12_fewestOf_45 : decode cX12_fewestOf 45 = .ok (.goto 4, 3) := by decide +kernel
theorem dX12_fewestOf_48 : decode cX12_fewestOf 48 = .ok (.iload_n 2, 1) := by decide +kernel
theorem dX12_fewestOf_49 : decode cX12_fewestOf 49 = .ok (.istore_n 2, 1) := by decide +kernel
theorem dX12_fewestOf_50 : decode cX12_fewestOf 50 = .ok (.iinc 3 1, 3) := by decide +kernel
theorem dX12_fewestOf_53 : decode cX12_fewestOf 53 = .ok (.goto (-49), 3) := by decide +kernel
theorem dX12_fewestOf_56 : decode cX12_fewestOf 56 = .ok (.iload_n 2, 1) := by decide +kernel
theorem dX12_fewestOf_57 : decode cX12_fewestOf 57 = .ok (.ireturn, 1) := by decide +kernel
theorem dX12_fillOf_0 : decode cX12_fillOf 0 = .ok (.aload_n 0, 1) := by decide +kernel
theorem dX12_fillOf_1 : decode cX12_fillOf 1 = .ok (.iload_n 1, 1) := by decide +kernel
theorem dX12_fillOf_2 : decode cX12_fillOf 2 = .ok (.iload_n 2, 1) := by decide +kernel
theorem dX12_fillOf_3 : decode cX12_fillOf 3 = .ok (.iload_n 3, 1) := by decide +kernel
theorem dX12_fillOf_4 : decode cX12_fillOf 4 = .ok (.invokevirtual 223, 3) := by decide +kernel
theorem dX12_fillOf_7 : decode cX12_fillOf 7 = .ok (.istore 4, 2) := by decide +kernel
theorem dX12_fillOf_9 : decode cX12_fillOf 9 = .ok (.iconst 0, 1) := by decide +kernel
theorem dX12_fillOf_10 : decode cX12_fillOf 10 = .ok (.istore 5, 2) := by decide +kernel
theorem dX12_fillOf_12 : decode cX12_fillOf 12 = .ok (.iconst 0, 1) := by decide +kernel
theorem dX12_fillOf_13 : decode cX12_fillOf 13 = .ok (.istore 6, 2) := by decide +kernel
theorem dX12_fillOf_15 : decode cX12_fillOf 15 = .ok (.iload 6, 2) := by decide +kernel
theorem dX12_fillOf_17 : decode cX12_fillOf 17 = .ok (.aload_n 0, 1) := by decide +kernel
theorem dX12_fillOf_18 : decode cX12_fillOf 18 = .ok (.iload_n 1, 1) := by decide +kernel
theorem dX12_fillOf_19 : decode cX12_fillOf 19 = .ok (.invokevirtual 63, 3) := by decide +kernel
theorem dX12_fillOf_22 : decode cX12_fillOf 22 = .ok (.if_icmp .ge 55, 3) := by decide +kernel
theorem dX12_fillOf_25 : decode cX12_fillOf 25 = .ok (.iload 5, 2) := by decide +kernel
theorem dX12_fillOf_27 : decode cX12_fillOf 27 = .ok (.iload 4, 2) := by decide +kernel
theorem dX12_fillOf_29 : decode cX12_fillOf 29 = .ok (.iload 6, 2) := by decide +kernel
theorem dX12_fillOf_31 : decode cX12_fillOf 31 = .ok (.invokestatic 166, 3) := by decide +kernel
theorem dX12_fillOf_34 : decode cX12_fillOf 34 = .ok (.ifCond .eq 33, 3) := by decide +kernel
theorem dX12_fillOf_37 : decode cX12_fillOf 37 = .ok (.iload 4, 2) := by decide +kernel
theorem dX12_fillOf_39 : decode cX12_fillOf 39 = .ok (.aload_n 0, 1) := by decide +kernel
theorem dX12_fillOf_40 : decode cX12_fillOf 40 = .ok (.iload_n 1, 1) := by decide +kernel
theorem dX12_fillOf_41 : decode cX12_fillOf 41 = .ok (.iload_n 2, 1) := by decide +kernel
theorem dX12_fillOf_42 : decode cX12_fillOf 42 = .ok (.iload 6, 2) := by decide +kernel
theorem dX12_fillOf_44 : decode cX12_fillOf 44 = .ok (.invokevirtual 223, 3) := by decide +kernel
theorem dX12_fillOf_47 : decode cX12_fillOf 47 = .ok (.iconst (-1), 1) := by decide +kernel
theorem dX12_fillOf_48 : decode cX12_fillOf 48 = .ok (.ixor, 1) := by decide +kernel
theorem dX12_fillOf_49 : decode cX12_fillOf 49 = .ok (.iand, 1) := by decide +kernel
theorem dX12_fillOf_50 : decode cX12_fillOf 50 = .ok (.iconst 1, 1) := by decide +kernel
theorem dX12_fillOf_51 : decode cX12_fillOf 51 = .ok (.iload 6, 2) := by decide +kernel
theorem dX12_fillOf_53 : decode cX12_fillOf 53 = .ok (.iconst 1, 1) := by decide +kernel
theorem dX12_fillOf_54 : decode cX12_fillOf 54 = .ok (.iadd, 1) := by decide +kernel
theorem dX12_fillOf_55 : decode cX12_fillOf 55 = .ok (.ishl, 1) := by decide +kernel
theorem dX12_fillOf_56 : decode cX12_fillOf 56 = .ok (.iconst 1, 1) := by decide +kernel
theorem dX12_fillOf_57 : decode cX12_fillOf 57 = .ok (.isub, 1) := by decide +kernel
theorem dX12_fillOf_58 : decode cX12_fillOf 58 = .ok (.iconst (-1), 1) := by decide +kernel
theorem dX12_fillOf_59 : decode cX12_fillOf 59 = .ok (.ixor, 1) := by decide +kernel
theorem dX12_fillOf_60 : decode cX12_fillOf 60 = .ok (.iand, 1) := by decide +kernel
theorem dX12_fillOf_61 : decode cX12_fillOf 61 = .ok (.invokestatic 84, 3) := by decide +kernel
theorem dX12_fillOf_64 : decode cX12_fillOf 64 = .ok (.goto 4, 3) := by decide +kernel
theorem dX12_fillOf_67 : decode cX12_fillOf 67 = .ok (.iconst 0, 1) := by decide +kernel
theorem dX12_fillOf_68 : decode cX12_fillOf 68 = .ok (.iadd, 1) := by decide +kernel
theorem dX12_fillOf_69 : decode cX12_fillOf 69 = .ok (.istore 5, 2) := by decide +kernel
theorem dX12_fillOf_71 : decode cX12_fillOf 71 = .ok (.iinc 6 1, 3) := by decide +kernel
theorem dX12_fillOf_74 : decode cX12_fillOf 74 = .ok (.goto (-59), 3) := by decide +kernel
theorem dX12_fillOf_77 : decode cX12_fillOf 77 = .ok (.iload 5, 2) := by decide +kernel
theorem dX12_fillOf_79 : decode cX12_fillOf 79 = .ok (.ireturn, 1) := by decide +kernel
theorem dX12_filled_0 : decode cX12_filled 0 = .ok (.aload_n 0, 1) := by decide +kernel
theorem dX12_filled_1 : decode cX12_filled 1 = .ok (.iload_n 1, 1) := by decide +kernel
theorem dX12_filled_2 : decode cX12_filled 2 = .ok (.invokevirtual 67, 3) := by decide +kernel
theorem dX12_filled_5 : decode cX12_filled 5 = .ok (.ifCond .eq 8, 3) := by decide +kernel
theorem dX12_filled_8 : decode cX12_filled 8 = .ok (.iload_n 2, 1) := by decide +kernel
theorem dX12_filled_9 : decode cX12_filled 9 = .ok (.iconst (-1), 1) := by decide +kernel
theorem dX12_filled_10 : decode cX12_filled 10 = .ok (.if_icmp .ge 6, 3) := by decide +kernel
theorem dX12_filled_13 : decode cX12_filled 13 = .ok (.bipush (-2), 2) := by decide +kernel
theorem dX12_filled_15 : decode cX12_filled 15 = .ok (.ireturn, 1) := by decide +kernel
theorem dX12_filled_16 : decode cX12_filled 16 = .ok (.iconst 0, 1) := by decide +kernel
theorem dX12_filled_17 : decode cX12_filled 17 = .ok (.istore_n 3, 1) := by decide +kernel
theorem dX12_filled_18 : decode cX12_filled 18 = .ok (.iconst 0, 1) := by decide +kernel
theorem dX12_filled_19 : decode cX12_filled 19 = .ok (.istore 4, 2) := by decide +kernel
theorem dX12_filled_21 : decode cX12_filled 21 = .ok (.iload 4, 2) := by decide +kernel
theorem dX12_filled_23 : decode cX12_filled 23 = .ok (.aload_n 0, 1) := by decide +kernel
theorem dX12_filled_24 : decode cX12_filled 24 = .ok (.iload_n 1, 1) := by decide +kernel
theorem dX12_filled_25 : decode cX12_filled 25 = .ok (.invokevirtual 63, 3) := by decide +kernel
theorem dX12_filled_28 : decode cX12_filled 28 = .ok (.if_icmp .ge 129, 3) := by decide +kernel
theorem dX12_filled_31 : decode cX12_filled 31 = .ok (.aload_n 0, 1) := by decide +kernel
theorem dX12_filled_32 : decode cX12_filled 32 = .ok (.iload_n 1, 1) := by decide +kernel
theorem dX12_filled_33 : decode cX12_filled 33 = .ok (.iload 4, 2) := by decide +kernel
theorem dX12_filled_35 : decode cX12_filled 35 = .ok (.invokevirtual 257, 3) := by decide +kernel
theorem dX12_filled_38 : decode cX12_filled 38 = .ok (.istore 5, 2) := by decide +kernel
theorem dX12_filled_40 : decode cX12_filled 40 = .ok (.aload_n 0, 1) := by decide +kernel
theorem dX12_filled_41 : decode cX12_filled 41 = .ok (.iload_n 1, 1) := by decide +kernel
theorem dX12_filled_42 : decode cX12_filled 42 = .ok (.iload 5, 2) := by decide +kernel
theorem dX12_filled_44 : decode cX12_filled 44 = .ok (.aload_n 0, 1) := by decide +kernel
theorem dX12_filled_45 : decode cX12_filled 45 = .ok (.iload_n 1, 1) := by decide +kernel
theorem dX12_filled_46 : decode cX12_filled 46 = .ok (.iload 4, 2) := by decide +kernel
theorem dX12_filled_48 : decode cX12_filled 48 = .ok (.invokevirtual 217, 3) := by decide +kernel
theorem dX12_filled_51 : decode cX12_filled 51 = .ok (.invokevirtual 223, 3) := by decide +kernel
theorem dX12_filled_54 : decode cX12_filled 54 = .ok (.istore 6, 2) := by decide +kernel
theorem dX12_filled_56 : decode cX12_filled 56 = .ok (.iconst 0, 1) := by decide +kernel
theorem dX12_filled_57 : decode cX12_filled 57 = .ok (.istore 7, 2) := by decide +kernel
theorem dX12_filled_59 : decode cX12_filled 59 = .ok (.iload 7, 2) := by decide +kernel
theorem dX12_filled_61 : decode cX12_filled 61 = .ok (.aload_n 0, 1) := by decide +kernel
theorem dX12_filled_62 : decode cX12_filled 62 = .ok (.iload_n 1, 1) := by decide +kernel
theorem dX12_filled_63 : decode cX12_filled 63 = .ok (.invokevirtual 63, 3) := by decide +kernel
theorem dX12_filled_66 : decode cX12_filled 66 = .ok (.if_icmp .ge 85, 3) := by decide +kernel
theorem dX12_filled_69 : decode cX12_filled 69 = .ok (.iload 7, 2) := by decide +kernel
theorem dX12_filled_71 : decode cX12_filled 71 = .ok (.iconst 1, 1) := by decide +kernel
theorem dX12_filled_72 : decode cX12_filled 72 = .ok (.iadd, 1) := by decide +kernel
theorem dX12_filled_73 : decode cX12_filled 73 = .ok (.istore 8, 2) := by decide +kernel
theorem dX12_filled_75 : decode cX12_filled 75 = .ok (.iload 8, 2) := by decide +kernel
theorem dX12_filled_77 : decode cX12_filled 77 = .ok (.aload_n 0, 1) := by decide +kernel
theorem dX12_filled_78 : decode cX12_filled 78 = .ok (.iload_n 1, 1) := by decide +kernel
theorem dX12_filled_79 : decode cX12_filled 79 = .ok (.invokevirtual 63, 3) := by decide +kernel
theorem dX12_filled_82 : decode cX12_filled 82 = .ok (.if_icmp .ge 63, 3) := by decide +kernel
theorem dX12_filled_85 : decode cX12_filled 85 = .ok (.iload 6, 2) := by decide +kernel
theorem dX12_filled_87 : decode cX12_filled 87 = .ok (.iload 7, 2) := by decide +kernel
theorem dX12_filled_89 : decode cX12_filled 89 = .ok (.invokestatic 166, 3) := by decide +kernel
theorem dX12_filled_92 : decode cX12_filled 92 = .ok (.ifCond .eq 47, 3) := by decide +kernel
theorem dX12_filled_95 : decode cX12_filled 95 = .ok (.iload 6, 2) := by decide +kernel
theorem dX12_filled_97 : decode cX12_filled 97 = .ok (.iload 8, 2) := by decide +kernel
theorem dX12_filled_99 : decode cX12_filled 99 = .ok (.invokestatic 166, 3) := by decide +kernel
theorem dX12_filled_102 : decode cX12_filled 102 = .ok (.ifCond .eq 37, 3) := by decide +kernel
theorem dX12_filled_105 : decode cX12_filled 105 = .ok (.aload_n 0, 1) := by decide +kernel
theorem dX12_filled_106 : decode cX12_filled 106 = .ok (.iload_n 1, 1) := by decide +kernel
theorem dX12_filled_107 : decode cX12_filled 107 = .ok (.iload 5, 2) := by decide +kernel
theorem dX12_filled_109 : decode cX12_filled 109 = .ok (.iload 7, 2) := by decide +kernel
theorem dX12_filled_111 : decode cX12_filled 111 = .ok (.invokevirtual 223, 3) := by decide +kernel
theorem dX12_filled_114 : decode cX12_filled 114 = .ok (.iload 8, 2) := by decide +kernel
theorem dX12_filled_116 : decode cX12_filled 116 = .ok (.invokestatic 166, 3) := by decide +kernel
theorem dX12_filled_119 : decode cX12_filled 119 = .ok (.ifCond .ne 20, 3) := by decide +kernel
theorem dX12_filled_122 : decode cX12_filled 122 = .ok (.iload_n 3, 1) := by decide +kernel
theorem dX12_filled_123 : decode cX12_filled 123 = .ok (.iload_n 2, 1) := by decide +kernel
theorem dX12_filled_124 : decode cX12_filled 124 = .ok (.if_icmp .ne 12, 3) := by decide +kernel
theorem dX12_filled_127 : decode cX12_filled 127 = .ok (.bipush 10, 2) := by decide +kernel
theorem dX12_filled_129 : decode cX12_filled 129 = .ok (.iload 7, 2) := by decide +kernel
theorem dX12_filled_131 : decode cX12_filled 131 = .ok (.imul, 1) := by decide +kernel
theorem dX12_filled_132 : decode cX12_filled 132 = .ok (.iload 8, 2) := by decide +kernel
theorem dX12_filled_134 : decode cX12_filled 134 = .ok (.iadd, 1) := by decide +kernel
theorem dX12_filled_135 : decode cX12_filled 135 = .ok (.ireturn, 1) := by decide +kernel
theorem dX12_filled_136 : decode cX12_filled 136 = .ok (.iinc 3 1, 3) := by decide +kernel
theorem dX12_filled_139 : decode cX12_filled 139 = .ok (.iinc 8 1, 3) := by decide +kernel
theorem dX12_filled_142 : decode cX12_filled 142 = .ok (.goto (-67), 3) := by decide +kernel
theorem dX12_filled_145 : decode cX12_filled 145 = .ok (.iinc 7 1, 3) := by decide +kernel
theorem dX12_filled_148 : decode cX12_filled 148 = .ok (.goto (-89), 3) := by decide +kernel
theorem dX12_filled_151 : decode cX12_filled 151 = .ok (.iinc 4 1, 3) := by decide +kernel
theorem dX12_filled_154 : decode cX12_filled 154 = .ok (.goto (-133), 3) := by decide +kernel
theorem dX12_filled_157 : decode cX12_filled 157 = .ok (.iload_n 2, 1) := by decide +kernel
theorem dX12_filled_158 : decode cX12_filled 158 = .ok (.iconst (-1), 1) := by decide +kernel
theorem dX12_filled_159 : decode cX12_filled 159 = .ok (.if_icmp .ne 7, 3) := by decide +kernel
theorem dX12_filled_162 : decode cX12_filled 162 = .ok (.iload_n 3, 1) := by decide +kernel
theorem dX12_filled_163 : decode cX12_filled 163 = .ok (.goto 4, 3) := by decide +kernel
theorem dX12_filled_166 : decode cX12_filled 166 = .ok (.iconst (-1), 1) := by decide +kernel
theorem dX12_filled_167 : decode cX12_filled 167 = .ok (.ireturn, 1) := by decide +kernel
theorem dX12_firsts_0 : decode cX12_firsts 0 = .ok (.aload_n 0, 1) := by decide +kernel
theorem dX12_firsts_1 : decode cX12_firsts 1 = .ok (.iload_n 1, 1) := by decide +kernel
theorem dX12_firsts_2 : decode cX12_firsts 2 = .ok (.invokevirtual 67, 3) := by decide +kernel
theorem dX12_firsts_5 : decode cX12_firsts 5 = .ok (.ifCond .eq 10, 3) := by decide +kernel
theorem dX12_firsts_8 : decode cX12_firsts 8 = .ok (.iload_n 2, 1) := by decide +kernel
theorem dX12_firsts_9 : decode cX12_firsts 9 = .ok (.invokestatic 245, 3) := by decide +kernel
theorem dX12_firsts_12 : decode cX12_firsts 12 = .ok (.ifCond .ne 6, 3) := by decide +kernel
theorem dX12_firsts_15 : decode cX12_firsts 15 = .ok (.bipush (-2), 2) := by decide +kernel
theorem dX12_firsts_17 : decode cX12_firsts 17 = .ok (.ireturn, 1) := by decide +kernel
theorem dX12_firsts_18 : decode cX12_firsts 18 = .ok (.iload_n 2, 1) := by decide +kernel
theorem dX12_firsts_19 : decode cX12_firsts 19 = .ok (.iconst 2, 1) := by decide +kernel
theorem dX12_firsts_20 : decode cX12_firsts 20 = .ok (.if_icmp .ne 20, 3) := by decide +kernel
theorem dX12_firsts_23 : decode cX12_firsts 23 = .ok (.aload_n 0, 1) := by decide +kernel
theorem dX12_firsts_24 : decode cX12_firsts 24 = .ok (.iload_n 1, 1) := by decide +kernel
theorem dX12_firsts_25 : decode cX12_firsts 25 = .ok (.aload_n 0, 1) := by decide +kernel
theorem dX12_firsts_26 : decode cX12_firsts 26 = .ok (.iload_n 1, 1) := by decide +kernel
theorem dX12_firsts_27 : decode cX12_firsts 27 = .ok (.invokevirtual 277, 3) := by decide +kernel
theorem dX12_firsts_30 : decode cX12_firsts 30 = .ok (.iconst 0, 1) := by decide +kernel
theorem dX12_firsts_31 : decode cX12_firsts 31 = .ok (.invokevirtual 293, 3) := by decide +kernel
theorem dX12_firsts_34 : decode cX12_firsts 34 = .ok (.istore_n 3, 1) := by decide +kernel
theorem dX12_firsts_35 : decode cX12_firsts 35 = .ok (.aload_n 0, 1) := by decide +kernel
theorem dX12_firsts_36 : decode cX12_firsts 36 = .ok (.getfield 286, 3) := by decide +kernel
theorem dX12_firsts_39 : decode cX12_firsts 39 = .ok (.ireturn, 1) := by decide +kernel
theorem dX12_firsts_40 : decode cX12_firsts 40 = .ok (.aload_n 0, 1) := by decide +kernel
theorem dX12_firsts_41 : decode cX12_firsts 41 = .ok (.iload_n 1, 1) := by decide +kernel
theorem dX12_firsts_42 : decode cX12_firsts 42 = .ok (.iload_n 2, 1) := by decide +kernel
theorem dX12_firsts_43 : decode cX12_firsts 43 = .ok (.invokevirtual 280, 3) := by decide +kernel
theorem dX12_firsts_46 : decode cX12_firsts 46 = .ok (.iconst 0, 1) := by decide +kernel
theorem dX12_firsts_47 : decode cX12_firsts 47 = .ok (.istore_n 3, 1) := by decide +kernel
theorem dX12_firsts_48 : decode cX12_firsts 48 = .ok (.iconst 0, 1) := by decide +kernel
theorem dX12_firsts_49 : decode cX12_firsts 49 = .ok (.istore 4, 2) := by decide +kernel
theorem dX12_firsts_51 : decode cX12_firsts 51 = .ok (.iload 4, 2) := by decide +kernel
theorem dX12_firsts_53 : decode cX12_firsts 53 = .ok (.aload_n 0, 1) := by decide +kernel
theorem dX12_firsts_54 : decode cX12_firsts 54 = .ok (.iload_n 1, 1) := by decide +kernel
theorem dX12_firsts_55 : decode cX12_firsts 55 = .ok (.invokevirtual 63, 3) := by decide +kernel
theorem dX12_firsts_58 : decode cX12_firsts 58 = .ok (.if_icmp .ge 32, 3) := by decide +kernel
theorem dX12_firsts_61 : decode cX12_firsts 61 = .ok (.iload_n 3, 1) := by decide +kernel
theorem dX12_firsts_62 : decode cX12_firsts 62 = .ok (.aload_n 0, 1) := by decide +kernel
theorem dX12_firsts_63 : decode cX12_firsts 63 = .ok (.iload_n 2, 1) := by decide +kernel
theorem dX12_firsts_64 : decode cX12_firsts 64 = .ok (.iconst 0, 1) := by decide +kernel
theorem dX12_firsts_65 : decode cX12_firsts 65 = .ok (.iload 4, 2) := by decide +kernel
theorem dX12_firsts_67 : decode cX12_firsts 67 = .ok (.iconst 0, 1) := by decide +kernel
theorem dX12_firsts_68 : decode cX12_firsts 68 = .ok (.invokevirtual 297, 3) := by decide +kernel
theorem dX12_firsts_71 : decode cX12_firsts 71 = .ok (.ifCond .eq 10, 3) := by decide +kernel
theorem dX12_firsts_74 : decode cX12_firsts 74 = .ok (.iconst 1, 1) := by decide +kernel
theorem dX12_firsts_75 : decode cX12_firsts 75 = .ok (.iload 4, 2) := by decide +kernel
theorem dX12_firsts_77 : decode cX12_firsts 77 = .ok (.ishl, 1) := by decide +kernel
theorem dX12_firsts_78 : decode cX12_firsts 78 = .ok (.goto 4, 3) := by decide +kernel
theorem dX12_firsts_81 : decode cX12_firsts 81 = .ok (.iconst 0, 1) := by decide +kernel
theorem dX12_firsts_82 : decode cX12_firsts 82 = .ok (.ior, 1) := by decide +kernel
theorem dX12_firsts_83 : decode cX12_firsts 83 = .ok (.istore_n 3, 1) := by decide +kernel
theorem dX12_firsts_84 : decode cX12_firsts 84 = .ok (.iinc 4 1, 3) := by decide +kernel
theorem dX12_firsts_87 : decode cX12_firsts 87 = .ok (.goto (-36), 3) := by decide +kernel
theorem dX12_firsts_90 : decode cX12_firsts 90 = .ok (.iload_n 3, 1) := by decide +kernel
theorem dX12_firsts_91 : decode cX12_firsts 91 = .ok (.ireturn, 1) := by decide +kernel
theorem dX12_gain_0 : decode cX12_gain 0 = .ok (.aload_n 0, 1) := by decide +kernel
theorem dX12_gain_1 : decode cX12_gain 1 = .ok (.iload_n 1, 1) := by decide +kernel
theorem dX12_gain_2 : decode cX12_gain 2 = .ok (.iload_n 3, 1) := by decide +kernel
theorem dX12_gain_3 : decode cX12_gain 3 = .ok (.invokevirtual 70, 3) := by decide +kernel
theorem dX12_gain_6 : decode cX12_gain 6 = .ok (.ifCond .eq 20, 3) := by decide +kernel
theorem dX12_gain_9 : decode cX12_gain 9 = .ok (.aload_n 0, 1) := by decide +kernel
theorem dX12_gain_10 : decode cX12_gain 10 = .ok (.iload_n 1, 1) := by decide +kernel
theorem dX12_gain_11 : decode cX12_gain 11 = .ok (.iload 4, 2) := by decide +kernel
theorem dX12_gain_13 : decode cX12_gain 13 = .ok (.invokevirtual 70, 3) := by decide +kernel
theorem dX12_gain_16 : decode cX12_gain 16 = .ok (.ifCond .eq 10, 3) := by decide +kernel
theorem dX12_gain_19 : decode cX12_gain 19 = .ok (.iload_n 2, 1) := by decide +kernel
theorem dX12_gain_20 : decode cX12_gain 20 = .ok (.invokestatic 245, 3) := by decide +kernel
theorem dX12_gain_23 : decode cX12_gain 23 = .ok (.ifCond .ne 7, 3) := by decide +kernel
theorem dX12_gain_26 : decode cX12_gain 26 = .ok (.sipush (-1000), 3) := by decide +kernel
theorem dX12_gain_29 : decode cX12_gain 29 = .ok (.ireturn, 1) := by decide +kernel
theorem dX12_gain_30 : decode cX12_gain 30 = .ok (.aload_n 0, 1) := by decide +kernel
theorem dX12_gain_31 : decode cX12_gain 31 = .ok (.iload_n 1, 1) := by decide +kernel
theorem dX12_gain_32 : decode cX12_gain 32 = .ok (.invokevirtual 248, 3) := by decide +kernel
theorem dX12_gain_35 : decode cX12_gain 35 = .ok (.aload_n 0, 1) := by decide +kernel
theorem dX12_gain_36 : decode cX12_gain 36 = .ok (.iload_n 1, 1) := by decide +kernel
theorem dX12_gain_37 : decode cX12_gain 37 = .ok (.iload_n 2, 1) := by decide +kernel
theorem dX12_gain_38 : decode cX12_gain 38 = .ok (.invokevirtual 251, 3) := by decide +kernel
theorem dX12_gain_41 : decode cX12_gain 41 = .ok (.istore 5, 2) := by decide +kernel
theorem dX12_gain_43 : decode cX12_gain 43 = .ok (.aload_n 0, 1) := by decide +kernel
theorem dX12_gain_44 : decode cX12_gain 44 = .ok (.iload_n 3, 1) := by decide +kernel
theorem dX12_gain_45 : decode cX12_gain 45 = .ok (.iload 4, 2) := by decide +kernel
theorem dX12_gain_47 : decode cX12_gain 47 = .ok (.invokevirtual 317, 3) := by decide +kernel
theorem dX12_gain_50 : decode cX12_gain 50 = .ok (.aload_n 0, 1) := by decide +kernel
theorem dX12_gain_51 : decode cX12_gain 51 = .ok (.iload_n 1, 1) := by decide +kernel
theorem dX12_gain_52 : decode cX12_gain 52 = .ok (.iload_n 2, 1) := by decide +kernel
theorem dX12_gain_53 : decode cX12_gain 53 = .ok (.invokevirtual 251, 3) := by decide +kernel
theorem dX12_gain_56 : decode cX12_gain 56 = .ok (.iload 5, 2) := by decide +kernel
theorem dX12_gain_58 : decode cX12_gain 58 = .ok (.isub, 1) := by decide +kernel
theorem dX12_gain_59 : decode cX12_gain 59 = .ok (.ireturn, 1) := by decide +kernel
theorem dX12_goesBand_0 : decode cX12_goesBand 0 = .ok (.iload_n 2, 1) := by decide +kernel
theorem dX12_goesBand_1 : decode cX12_goesBand 1 = .ok (.aload_n 0, 1) := by decide +kernel
theorem dX12_goesBand_2 : decode cX12_goesBand 2 = .ok (.iload_n 1, 1) := by decide +kernel
theorem dX12_goesBand_3 : decode cX12_goesBand 3 = .ok (.invokevirtual 63, 3) := by decide +kernel
theorem dX12_goesBand_6 : decode cX12_goesBand 6 = .ok (.if_icmp .ne 69, 3) := by decide +kernel
theorem dX12_goesBand_9 : decode cX12_goesBand 9 = .ok (.aload_n 0, 1) := by decide +kernel
theorem dX12_goesBand_10 : decode cX12_goesBand 10 = .ok (.getfield 283, 3) := by decide +kernel
theorem dX12_goesBand_13 : decode cX12_goesBand 13 = .ok (.ifCond .ne 32, 3) := by decide +kernel
theorem dX12_goesBand_16 : decode cX12_goesBand 16 = .ok (.iconst 0, 1) := by decide +kernel
theorem dX12_goesBand_17 : decode cX12_goesBand 17 = .ok (.istore 6, 2) := by decide +kernel
theorem dX12_goesBand_19 : decode cX12_goesBand 19 = .ok (.iload 6, 2) := by decide +kernel
theorem dX12_goesBand_21 : decode cX12_goesBand 21 = .ok (.iload_n 2, 1) := by decide +kernel
theorem dX12_goesBand_22 : decode cX12_goesBand 22 = .ok (.if_icmp .ge 23, 3) := by decide +kernel
theorem dX12_goesBand_25 : decode cX12_goesBand 25 = .ok (.aload_n 0, 1) := by decide +kernel
theorem dX12_goesBand_26 : decode cX12_goesBand 26 = .ok (.getfield 38, 3) := by decide +kernel
theorem dX12_goesBand_29 : decode cX12_goesBand 29 = .ok (.iload 6, 2) := by decide +kernel
theorem dX12_goesBand_31 : decode cX12_goesBand 31 = .ok (.aload_n 0, 1) := by decide +kernel
theorem dX12_goesBand_32 : decode cX12_goesBand 32 = .ok (.getfield 26, 3) := by decide +kernel
theorem dX12_goesBand_35 : decode cX12_goesBand 35 = .ok (.iload 6, 2) := by decide +kernel
theorem dX12_goesBand_37 : decode cX12_goesBand 37 = .ok (.iaload, 1) := by decide +kernel
theorem dX12_goesBand_38 : decode cX12_goesBand 38 = .ok (.iastore, 1) := by decide +kernel
theorem dX12_goesBand_39 : decode cX12_goesBand 39 = .ok (.iinc 6 1, 3) := by decide +kernel
theorem dX12_goesBand_42 : decode cX12_goesBand 42 = .ok (.goto (-23), 3) := by decide +kernel
theorem dX12_goesBand_45 : decode cX12_goesBand 45 = .ok (.aload_n 0, 1) := by decide +kernel
theorem dX12_goesBand_46 : decode cX12_goesBand 46 = .ok (.dup, 1) := by decide +kernel
theorem dX12_goesBand_47 : decode cX12_goesBand 47 = .ok (.getfield 283, 3) := by decide +kernel
theorem dX12_goesBand_50 : decode cX12_goesBand 50 = .ok (.iconst 1, 1) := by decide +kernel
theorem dX12_goesBand_51 : decode cX12_goesBand 51 = .ok (.iadd, 1) := by decide +kernel
theorem dX12_goesBand_52 : decode cX12_goesBand 52 = .ok (.putfield 283, 3) := by decide +kernel
theorem dX12_goesBand_55 : decode cX12_goesBand 55 = .ok (.aload_n 0, 1) := by decide +kernel
theorem dX12_goesBand_56 : decode cX12_goesBand 56 = .ok (.dup, 1) := by decide +kernel
theorem dX12_goesBand_57 : decode cX12_goesBand 57 = .ok (.getfield 286, 3) := by decide +kernel
theorem dX12_goesBand_60 : decode cX12_goesBand 60 = .ok (.iconst 1, 1) := by decide +kernel
theorem dX12_goesBand_61 : decode cX12_goesBand 61 = .ok (.aload_n 0, 1) := by decide +kernel
theorem dX12_goesBand_62 : decode cX12_goesBand 62 = .ok (.getfield 26, 3) := by decide +kernel
theorem dX12_goesBand_65 : decode cX12_goesBand 65 = .ok (.iconst 0, 1) := by decide +kernel
theorem dX12_goesBand_66 : decode cX12_goesBand 66 = .ok (.iaload, 1) := by decide +kernel
theorem dX12_goesBand_67 : decode cX12_goesBand 67 = .ok (.ishl, 1) := by decide +kernel
theorem dX12_goesBand_68 : decode cX12_goesBand 68 = .ok (.ior, 1) := by decide +kernel
theorem dX12_goesBand_69 : decode cX12_goesBand 69 = .ok (.putfield 286, 3) := by decide +kernel
theorem dX12_goesBand_72 : decode cX12_goesBand 72 = .ok (.iload 5, 2) := by decide +kernel
theorem dX12_goesBand_74 : decode cX12_goesBand 74 = .ok (.ireturn, 1) := by decide +kernel
theorem dX12_goesBand_75 : decode cX12_goesBand 75 = .ok (.iconst 0, 1) := by decide +kernel
theorem dX12_goesBand_76 : decode cX12_goesBand 76 = .ok (.istore 6, 2) := by decide +kernel
theorem dX12_goesBand_78 : decode cX12_goesBand 78 = .ok (.iload 6, 2) := by decide +kernel
theorem dX12_goesBand_80 : decode cX12_goesBand 80 = .ok (.aload_n 0, 1) := by decide +kernel
theorem dX12_goesBand_81 : decode cX12_goesBand 81 = .ok (.iload_n 1, 1) := by decide +kernel
theorem dX12_goesBand_82 : decode cX12_goesBand 82 = .ok (.invokevirtual 63, 3) := by decide +kernel
theorem dX12_goesBand_85 : decode cX12_goesBand 85 = .ok (.if_icmp .ge 111, 3) := by decide +kernel
theorem dX12_goesBand_88 : decode cX12_goesBand 88 = .ok (.iload_n 3, 1) := by decide +kernel
theorem dX12_goesBand_89 : decode cX12_goesBand 89 = .ok (.iload 6, 2) := by decide +kernel
theorem dX12_goesBand_91 : decode cX12_goesBand 91 = .ok (.invokestatic 166, 3) := by decide +kernel
theorem dX12_goesBand_94 : decode cX12_goesBand 94 = .ok (.ifCond .ne 7, 3) := by decide +kernel
theorem dX12_goesBand_97 : decode cX12_goesBand 97 = .ok (.iconst 1, 1) := by decide +kernel
theorem dX12_goesBand_98 : decode cX12_goesBand 98 = .ok (.goto 4, 3) := by decide +kernel
theorem dX12_goesBand_101 : decode cX12_goesBand 101 = .ok (.iconst 0, 1) := by decide +kernel
theorem dX12_goesBand_102 : decode cX12_goesBand 102 = .ok (.istore 7, 2) := by decide +kernel
theorem dX12_goesBand_104 : decode cX12_goesBand 104 = .ok (.iconst 0, 1) := by decide +kernel
theorem dX12_goesBand_105 : decode cX12_goesBand 105 = .ok (.istore 8, 2) := by decide +kernel
theorem dX12_goesBand_107 : decode cX12_goesBand 107 = .ok (.iload 8, 2) := by decide +kernel
theorem dX12_goesBand_109 : decode cX12_goesBand 109 = .ok (.iload_n 2, 1) := by decide +kernel
theorem dX12_goesBand_110 : decode cX12_goesBand 110 = .ok (.iload 4, 2) := by decide +kernel
theorem dX12_goesBand_112 : decode cX12_goesBand 112 = .ok (.isub, 1) := by decide +kernel
theorem dX12_goesBand_113 : decode cX12_goesBand 113 = .ok (.if_icmp .ge 38, 3) := by decide +kernel
theorem dX12_goesBand_116 : decode cX12_goesBand 116 = .ok (.iload 7, 2) := by decide +kernel
theorem dX12_goesBand_118 : decode cX12_goesBand 118 = .ok (.ifCond .eq 33, 3) := by decide +kernel
theorem dX12_goesBand_121 : decode cX12_goesBand 121 = .ok (.aload_n 0, 1) := by decide +kernel
theorem dX12_goesBand_122 : decode cX12_goesBand 122 = .ok (.iload_n 1, 1) := by decide +kernel
theorem dX12_goesBand_123 : decode cX12_goesBand 123 = .ok (.aload_n 0, 1) := by decide +kernel
theorem dX12_goesBand_124 : decode cX12_goesBand 124 = .ok (.getfield 26, 3) := by decide +kernel
theorem dX12_goesBand_127 : decode cX12_goesBand 127 = .ok (.iload 8, 2) := by decide +kernel
theorem dX12_goesBand_129 : decode cX12_goesBand 129 = .ok (.iaload, 1) := by decide +kernel
theorem dX12_goesBand_130 : decode cX12_goesBand 130 = .ok (.iload 6, 2) := by decide +kernel
theorem dX12_goesBand_132 : decode cX12_goesBand 132 = .ok (.invokevirtual 76, 3) := by decide +kernel
theorem dX12_goesBand_135 : decode cX12_goesBand 135 = .ok (.ifCond .ne 7, 3) := by decide +kernel
theorem dX12_goesBand_138 : decode cX12_goesBand 138 = .ok (.iconst 1, 1) := by decide +kernel
theorem dX12_goesBand_139 : decode cX12_goesBand 139 = .ok (.goto 4, 3) := by decide +kernel
theorem dX12_goesBand_142 : decode cX12_goesBand 142 = .ok (.iconst 0, 1) := by decide +kernel
theorem dX12_goesBand_143 : decode cX12_goesBand 143 = .ok (.istore 7, 2) := by decide +kernel
theorem dX12_goesBand_145 : decode cX12_goesBand 145 = .ok (.iinc 8 1, 3) := by decide +kernel
theorem dX12_goesBand_148 : decode cX12_goesBand 148 = .ok (.goto (-41), 3) := by decide +kernel
theorem dX12_goesBand_151 : decode cX12_goesBand 151 = .ok (.iload 7, 2) := by decide +kernel
theorem dX12_goesBand_153 : decode cX12_goesBand 153 = .ok (.ifCond .ne 6, 3) := by decide +kernel
theorem dX12_goesBand_156 : decode cX12_goesBand 156 = .ok (.goto 34, 3) := by decide +kernel
theorem dX12_goesBand_159 : decode cX12_goesBand 159 = .ok (.aload_n 0, 1) := by decide +kernel
theorem dX12_goesBand_160 : decode cX12_goesBand 160 = .ok (.getfield 26, 3) := by decide +kernel
theorem dX12_goesBand_163 : decode cX12_goesBand 163 = .ok (.iload_n 2, 1) := by decide +kernel
theorem dX12_goesBand_164 : decode cX12_goesBand 164 = .ok (.iload 6, 2) := by decide +kernel
theorem dX12_goesBand_166 : decode cX12_goesBand 166 = .ok (.iastore, 1) := by decide +kernel
theorem dX12_goesBand_167 : decode cX12_goesBand 167 = .ok (.aload_n 0, 1) := by decide +kernel
theorem dX12_goesBand_168 : decode cX12_goesBand 168 = .ok (.iload_n 1, 1) := by decide +kernel
theorem dX12_goesBand_169 : decode cX12_goesBand 169 = .ok (.iload_n 2, 1) := by decide +kernel
theorem dX12_goesBand_170 : decode cX12_goesBand 170 = .ok (.iconst 1, 1) := by decide +kernel
theorem dX12_goesBand_171 : decode cX12_goesBand 171 = .ok (.iadd, 1) := by decide +kernel
theorem dX12_goesBand_172 : decode cX12_goesBand 172 = .ok (.iload_n 3, 1) := by decide +kernel
theorem dX12_goesBand_173 : decode cX12_goesBand 173 = .ok (.iconst 1, 1) := by decide +kernel
theorem dX12_goesBand_174 : decode cX12_goesBand 174 = .ok (.iload 6, 2) := by decide +kernel
theorem dX12_goesBand_176 : decode cX12_goesBand 176 = .ok (.ishl, 1) := by decide +kernel
theorem dX12_goesBand_177 : decode cX12_goesBand 177 = .ok (.ior, 1) := by decide +kernel
theorem dX12_goesBand_178 : decode cX12_goesBand 178 = .ok (.iload 4, 2) := by decide +kernel
theorem dX12_goesBand_180 : decode cX12_goesBand 180 = .ok (.iload 5, 2) := by decide +kernel
theorem dX12_goesBand_182 : decode cX12_goesBand 182 = .ok (.invokevirtual 289, 3) := by decide +kernel
theorem dX12_goesBand_185 : decode cX12_goesBand 185 = .ok (.ifCond .eq 5, 3) := by decide +kernel
theorem dX12_goesBand_188 : decode cX12_goesBand 188 = .ok (.iconst 1, 1) := by decide +kernel
theorem dX12_goesBand_189 : decode cX12_goesBand 189 = .ok (.ireturn, 1) := by decide +kernel
theorem dX12_goesBand_190 : decode cX12_goesBand 190 = .ok (.iinc 6 1, 3) := by decide +kernel
theorem dX12_goesBand_193 : decode cX12_goesBand 193 = .ok (.goto (-115), 3) := by decide +kernel
theorem dX12_goesBand_196 : decode cX12_goesBand 196 = .ok (.iconst 0, 1) := by decide +kernel
theorem dX12_goesBand_197 : decode cX12_goesBand 197 = .ok (.ireturn, 1) := by decide +kernel
theorem dX12_greedy_0 : decode cX12_greedy 0 = .ok (.aload_n 0, 1) := by decide +kernel
theorem dX12_greedy_1 : decode cX12_greedy 1 = .ok (.iload_n 1, 1) := by decide +kernel
theorem dX12_greedy_2 : decode cX12_greedy 2 = .ok (.invokevirtual 67, 3) := by decide +kernel
theorem dX12_greedy_5 : decode cX12_greedy 5 = .ok (.ifCond .eq 15, 3) := by decide +kernel
theorem dX12_greedy_8 : decode cX12_greedy 8 = .ok (.iload_n 2, 1) := by decide +kernel
theorem dX12_greedy_9 : decode cX12_greedy 9 = .ok (.invokestatic 245, 3) := by decide +kernel
theorem dX12_greedy_12 : decode cX12_greedy 12 = .ok (.ifCond .eq 8, 3) := by decide +kernel
theorem dX12_greedy_15 : decode cX12_greedy 15 = .ok (.iload_n 2, 1) := by decide +kernel
theorem dX12_greedy_16 : decode cX12_greedy 16 = .ok (.iconst 2, 1) := by decide +kernel
theorem dX12_greedy_17 : decode cX12_greedy 17 = .ok (.if_icmp .ne 6, 3) := by decide +kernel
theorem dX12_greedy_20 : decode cX12_greedy 20 = .ok (.bipush (-2), 2) := by decide +kernel
theorem dX12_greedy_22 : decode cX12_greedy 22 = .ok (.ireturn, 1) := by decide +kernel
theorem dX12_greedy_23 : decode cX12_greedy 23 = .ok (.iconst 0, 1) := by decide +kernel
theorem dX12_greedy_24 : decode cX12_greedy 24 = .ok (.istore_n 3, 1) := by decide +kernel
theorem dX12_greedy_25 : decode cX12_greedy 25 = .ok (.iconst 0, 1) := by decide +kernel
theorem dX12_greedy_26 : decode cX12_greedy 26 = .ok (.istore 4, 2) := by decide +kernel
theorem dX12_greedy_28 : decode cX12_greedy 28 = .ok (.iload 4, 2) := by decide +kernel
theorem dX12_greedy_30 : decode cX12_greedy 30 = .ok (.aload_n 0, 1) := by decide +kernel
theorem dX12_greedy_31 : decode cX12_greedy 31 = .ok (.iload_n 1, 1) := by decide +kernel
theorem dX12_greedy_32 : decode cX12_greedy 32 = .ok (.invokevirtual 63, 3) := by decide +kernel
theorem dX12_greedy_35 : decode cX12_greedy 35 = .ok (.if_icmp .ge 92, 3) := by decide +kernel
theorem dX12_greedy_38 : decode cX12_greedy 38 = .ok (.iconst (-1), 1) := by decide +kernel
theorem dX12_greedy_39 : decode cX12_greedy 39 = .ok (.istore 5, 2) := by decide +kernel
theorem dX12_greedy_41 : decode cX12_greedy 41 = .ok (.iconst 0, 1) := by decide +kernel
theorem dX12_greedy_42 : decode cX12_greedy 42 = .ok (.istore 6, 2) := by decide +kernel
theorem dX12_greedy_44 : decode cX12_greedy 44 = .ok (.iload 6, 2) := by decide +kernel
theorem dX12_greedy_46 : decode cX12_greedy 46 = .ok (.aload_n 0, 1) := by decide +kernel
theorem dX12_greedy_47 : decode cX12_greedy 47 = .ok (.iload_n 1, 1) := by decide +kernel
theorem dX12_greedy_48 : decode cX12_greedy 48 = .ok (.invokevirtual 63, 3) := by decide +kernel
theorem dX12_greedy_51 : decode cX12_greedy 51 = .ok (.if_icmp .ge 54, 3) := by decide +kernel
theorem dX12_greedy_54 : decode cX12_greedy 54 = .ok (.iload_n 3, 1) := by decide +kernel
theorem dX12_greedy_55 : decode cX12_greedy 55 = .ok (.iload 6, 2) := by decide +kernel
theorem dX12_greedy_57 : decode cX12_greedy 57 = .ok (.invokestatic 166, 3) := by decide +kernel
theorem dX12_greedy_60 : decode cX12_greedy 60 = .ok (.ifCond .ne 35, 3) := by decide +kernel
theorem dX12_greedy_63 : decode cX12_greedy 63 = .ok (.iload 5, 2) := by decide +kernel
theorem dX12_greedy_65 : decode cX12_greedy 65 = .ok (.iconst (-1), 1) := by decide +kernel
theorem dX12_greedy_66 : decode cX12_greedy 66 = .ok (.if_icmp .eq 24, 3) := by decide +kernel
theorem dX12_greedy_69 : decode cX12_greedy 69 = .ok (.aload_n 0, 1) := by decide +kernel
theorem dX12_greedy_70 : decode cX12_greedy 70 = .ok (.iload_n 1, 1) := by decide +kernel
theorem dX12_greedy_71 : decode cX12_greedy 71 = .ok (.iload_n 2, 1) := by decide +kernel
theorem dX12_greedy_72 : decode cX12_greedy 72 = .ok (.iload_n 3, 1) := by decide +kernel
theorem dX12_greedy_73 : decode cX12_greedy 73 = .ok (.iload 6, 2) := by decide +kernel
theorem dX12_greedy_75 : decode cX12_greedy 75 = .ok (.invokevirtual 238, 3) := by decide +kernel
theorem dX12_greedy_78 : decode cX12_greedy 78 = .ok (.aload_n 0, 1) := by decide +kernel
theorem dX12_greedy_79 : decode cX12_greedy 79 = .ok (.iload_n 1, 1) := by decide +kernel
theorem dX12_greedy_80 : decode cX12_greedy 80 = .ok (.iload_n 2, 1) := by decide +kernel
theorem dX12_greedy_81 : decode cX12_greedy 81 = .ok (.iload_n 3, 1) := by decide +kernel
theorem dX12_greedy_82 : decode cX12_greedy 82 = .ok (.iload 5, 2) := by decide +kernel
theorem dX12_greedy_84 : decode cX12_greedy 84 = .ok (.invokevirtual 238, 3) := by decide +kernel
theorem dX12_greedy_87 : decode cX12_greedy 87 = .ok (.if_icmp .ge 8, 3) := by decide +kernel
theorem dX12_greedy_90 : decode cX12_greedy 90 = .ok (.iload 6, 2) := by decide +kernel
theorem dX12_greedy_92 : decode cX12_greedy 92 = .ok (.goto 5, 3) := by decide +kernel
theorem dX12_greedy_95 : decode cX12_greedy 95 = .ok (.iload 5, 2) := by decide +kernel
theorem dX12_greedy_97 : decode cX12_greedy 97 = .ok (.istore 5, 2) := by decide +kernel
theorem dX12_greedy_99 : decode cX12_greedy 99 = .ok (.iinc 6 1, 3) := by decide +kernel
theorem dX12_greedy_102 : decode cX12_greedy 102 = .ok (.goto (-58), 3) := by decide +kernel
theorem dX12_greedy_105 : decode cX12_greedy 105 = .ok (.aload_n 0, 1) := by decide +kernel
theorem dX12_greedy_106 : decode cX12_greedy 106 = .ok (.getfield 26, 3) := by decide +kernel
theorem dX12_greedy_109 : decode cX12_greedy 109 = .ok (.iload 4, 2) := by decide +kernel
theorem dX12_greedy_111 : decode cX12_greedy 111 = .ok (.iload 5, 2) := by decide +kernel
theorem dX12_greedy_113 : decode cX12_greedy 113 = .ok (.iastore, 1) := by decide +kernel
theorem dX12_greedy_114 : decode cX12_greedy 114 = .ok (.iload_n 3, 1) := by decide +kernel
theorem dX12_greedy_115 : decode cX12_greedy 115 = .ok (.iconst 1, 1) := by decide +kernel
theorem dX12_greedy_116 : decode cX12_greedy 116 = .ok (.iload 5, 2) := by decide +kernel
theorem dX12_greedy_118 : decode cX12_greedy 118 = .ok (.ishl, 1) := by decide +kernel
theorem dX12_greedy_119 : decode cX12_greedy 119 = .ok (.ior, 1) := by decide +kernel
theorem dX12_greedy_120 : decode cX12_greedy 120 = .ok (.istore_n 3, 1) := by decide +kernel
theorem dX12_greedy_121 : decode cX12_greedy 121 = .ok (.iinc 4 1, 3) := by decide +kernel
theorem dX12_greedy_124 : decode cX12_greedy 124 = .ok (.goto (-96), 3) := by decide +kernel
theorem dX12_greedy_127 : decode cX12_greedy 127 = .ok (.aload_n 0, 1) := by decide +kernel
theorem dX12_greedy_128 : decode cX12_greedy 128 = .ok (.iload_n 1, 1) := by decide +kernel
theorem dX12_greedy_129 : decode cX12_greedy 129 = .ok (.invokevirtual 320, 3) := by decide +kernel
theorem dX12_greedy_132 : decode cX12_greedy 132 = .ok (.istore 4, 2) := by decide +kernel
theorem dX12_greedy_134 : decode cX12_greedy 134 = .ok (.aload_n 0, 1) := by decide +kernel
theorem dX12_greedy_135 : decode cX12_greedy 135 = .ok (.iload_n 1, 1) := by decide +kernel
theorem dX12_greedy_136 : decode cX12_greedy 136 = .ok (.iload_n 2, 1) := by decide +kernel
theorem dX12_greedy_137 : decode cX12_greedy 137 = .ok (.invokevirtual 251, 3) := by decide +kernel
theorem dX12_greedy_140 : decode cX12_greedy 140 = .ok (.ireturn, 1) := by decide +kernel
theorem dX12_halve_0 : decode cX12_halve 0 = .ok (.aload_n 0, 1) := by decide +kernel
theorem dX12_halve_1 : decode cX12_halve 1 = .ok (.iload_n 1, 1) := by decide +kernel
theorem dX12_halve_2 : decode cX12_halve 2 = .ok (.invokevirtual 67, 3) := by decide +kernel
theorem dX12_halve_5 : decode cX12_halve 5 = .ok (.ifCond .ne 6, 3) := by decide +kernel
theorem dX12_halve_8 : decode cX12_halve 8 = .ok (.bipush (-2), 2) := by decide +kernel
theorem dX12_halve_10 : decode cX12_halve 10 = .ok (.ireturn, 1) := by decide +kernel
theorem dX12_halve_11 : decode cX12_halve 11 = .ok (.iconst (-1), 1) := by decide +kernel
theorem dX12_halve_12 : decode cX12_halve 12 = .ok (.istore_n 2, 1) := by decide +kernel
theorem dX12_halve_13 : decode cX12_halve 13 = .ok (.iconst 0, 1) := by decide +kernel
theorem dX12_halve_14 : decode cX12_halve 14 = .ok (.istore_n 3, 1) := by decide +kernel
theorem dX12_halve_15 : decode cX12_halve 15 = .ok (.iload_n 3, 1) := by decide +kernel
theorem dX12_halve_16 : decode cX12_halve 16 = .ok (.iconst 1, 1) := by decide +kernel
theorem dX12_halve_17 : decode cX12_halve 17 = .ok (.aload_n 0, 1) := by decide +kernel
theorem dX12_halve_18 : decode cX12_halve 18 = .ok (.iload_n 1, 1) := by decide +kernel
theorem dX12_halve_19 : decode cX12_halve 19 = .ok (.invokevirtual 63, 3) := by decide +kernel
theorem dX12_halve_22 : decode cX12_halve 22 = .ok (.ishl, 1) := by decide +kernel
theorem dX12_halve_23 : decode cX12_halve 23 = .ok (.if_icmp .ge 47, 3) := by decide +kernel
theorem dX12_halve_26 : decode cX12_halve 26 = .ok (.iload_n 3, 1) := by decide +kernel
theorem dX12_halve_27 : decode cX12_halve 27 = .ok (.invokestatic 84, 3) := by decide +kernel
theorem dX12_halve_30 : decode cX12_halve 30 = .ok (.aload_n 0, 1) := by decide +kernel
theorem dX12_halve_31 : decode cX12_halve 31 = .ok (.iload_n 1, 1) := by decide +kernel
theorem dX12_halve_32 : decode cX12_halve 32 = .ok (.invokevirtual 63, 3) := by decide +kernel
theorem dX12_halve_35 : decode cX12_halve 35 = .ok (.iconst 2, 1) := by decide +kernel
theorem dX12_halve_36 : decode cX12_halve 36 = .ok (.idiv, 1) := by decide +kernel
theorem dX12_halve_37 : decode cX12_halve 37 = .ok (.if_icmp .ne 27, 3) := by decide +kernel
theorem dX12_halve_40 : decode cX12_halve 40 = .ok (.iload_n 2, 1) := by decide +kernel
theorem dX12_halve_41 : decode cX12_halve 41 = .ok (.iconst (-1), 1) := by decide +kernel
theorem dX12_halve_42 : decode cX12_halve 42 = .ok (.if_icmp .eq 20, 3) := by decide +kernel
theorem dX12_halve_45 : decode cX12_halve 45 = .ok (.aload_n 0, 1) := by decide +kernel
theorem dX12_halve_46 : decode cX12_halve 46 = .ok (.iload_n 1, 1) := by decide +kernel
theorem dX12_halve_47 : decode cX12_halve 47 = .ok (.iload_n 3, 1) := by decide +kernel
theorem dX12_halve_48 : decode cX12_halve 48 = .ok (.iconst 0, 1) := by decide +kernel
theorem dX12_halve_49 : decode cX12_halve 49 = .ok (.invokevirtual 229, 3) := by decide +kernel
theorem dX12_halve_52 : decode cX12_halve 52 = .ok (.aload_n 0, 1) := by decide +kernel
theorem dX12_halve_53 : decode cX12_halve 53 = .ok (.iload_n 1, 1) := by decide +kernel
theorem dX12_halve_54 : decode cX12_halve 54 = .ok (.iload_n 2, 1) := by decide +kernel
theorem dX12_halve_55 : decode cX12_halve 55 = .ok (.iconst 0, 1) := by decide +kernel
theorem dX12_halve_56 : decode cX12_halve 56 = .ok (.invokevirtual 229, 3) := by decide +kernel
theorem dX12_halve_59 : decode cX12_halve 59 = .ok (.if_icmp .ge 5, 3) := by decide +kernel
theorem dX12_halve_62 : decode cX12_halve 62 = .ok (.iload_n 3, 1) := by decide +kernel
theorem dX12_halve_63 : decode cX12_halve 63 = .ok (.istore_n 2, 1) := by decide +kernel
theorem dX12_halve_64 : decode cX12_halve 64 = .ok (.iinc 3 1, 3) := by decide +kernel
theorem dX12_halve_67 : decode cX12_halve 67 = .ok (.goto (-52), 3) := by decide +kernel
theorem dX12_halve_70 : decode cX12_halve 70 = .ok (.iload_n 2, 1) := by decide +kernel
theorem dX12_halve_71 : decode cX12_halve 71 = .ok (.ireturn, 1) := by decide +kernel
theorem dX12_has_0 : decode cX12_has 0 = .ok (.iload_n 0, 1) := by decide +kernel
theorem dX12_has_1 : decode cX12_has 1 = .ok (.iload_n 1, 1) := by decide +kernel
theorem dX12_has_2 : decode cX12_has 2 = .ok (.ishr, 1) := by decide +kernel
theorem dX12_has_3 : decode cX12_has 3 = .ok (.iconst 1, 1) := by decide +kernel
theorem dX12_has_4 : decode cX12_has 4 = .ok (.iand, 1) := by decide +kernel
theorem dX12_has_5 : decode cX12_has 5 = .ok (.iconst 1, 1) := by decide +kernel
theorem dX12_has_6 : decode cX12_has 6 = .ok (.if_icmp .ne 7, 3) := by decide +kernel
theorem dX12_has_9 : decode cX12_has 9 = .ok (.iconst 1, 1) := by decide +kernel
theorem dX12_has_10 : decode cX12_has 10 = .ok (.goto 4, 3) := by decide +kernel
theorem dX12_has_13 : decode cX12_has 13 = .ok (.iconst 0, 1) := by decide +kernel
theorem dX12_has_14 : decode cX12_has 14 = .ok (.ireturn, 1) := by decide +kernel
theorem dX12_here_0 : decode cX12_here 0 = .ok (.aload_n 0, 1) := by decide +kernel
theorem dX12_here_1 : decode cX12_here 1 = .ok (.getfield 123, 3) := by decide +kernel
theorem dX12_here_4 : decode cX12_here 4 = .ok (.ifCond .eq 5, 3) := by decide +kernel
theorem dX12_here_7 : decode cX12_here 7 = .ok (.iload_n 1, 1) := by decide +kernel
theorem dX12_here_8 : decode cX12_here 8 = .ok (.ireturn, 1) := by decide +kernel
theorem dX12_here_9 : decode cX12_here 9 = .ok (.aload_n 0, 1) := by decide +kernel
theorem dX12_here_10 : decode cX12_here 10 = .ok (.getfield 115, 3) := by decide +kernel
theorem dX12_here_13 : decode cX12_here 13 = .ok (.iconst 2, 1) := by decide +kernel
theorem dX12_here_14 : decode cX12_here 14 = .ok (.if_icmp .eq 11, 3) := by decide +kernel
theorem dX12_here_17 : decode cX12_here 17 = .ok (.aload_n 0, 1) := by decide +kernel
theorem dX12_here_18 : decode cX12_here 18 = .ok (.iconst 1, 1) := by decide +kernel
theorem dX12_here_19 : decode cX12_here 19 = .ok (.invokevirtual 143, 3) := by decide +kernel
theorem dX12_here_22 : decode cX12_here 22 = .ok (.goto 23, 3) := by decide +kernel
theorem dX12_here_25 : decode cX12_here 25 = .ok (.aload_n 0, 1) := by decide +kernel
theorem dX12_here_26 : decode cX12_here 26 = .ok (.getfield 112, 3) := by decide +kernel
theorem dX12_here_29 : decode cX12_here 29 = .ok (.i2l, 1) := by decide +kernel
theorem dX12_here_30 : decode cX12_here 30 = .ok (.iload_n 1, 1) := by decide +kernel
theorem dX12_here_31 : decode cX12_here 31 = .ok (.i2l, 1) := by decide +kernel
theorem dX12_here_32 : decode cX12_here 32 = .ok (.iload_n 2, 1) := by decide +kernel
theorem dX12_here_33 : decode cX12_here 33 = .ok (.i2l, 1) := by decide +kernel
theorem dX12_here_34 : decode cX12_here 34 = .ok (.invokestatic 55, 3) := by decide +kernel
theorem dX12_here_37 : decode cX12_here 37 = .ok (.ifCond .ne 8, 3) := by decide +kernel
theorem dX12_here_40 : decode cX12_here 40 = .ok (.aload_n 0, 1) := by decide +kernel
theorem dX12_here_41 : decode cX12_here 41 = .ok (.iconst 2, 1) := by decide +kernel
theorem dX12_here_42 : decode cX12_here 42 = .ok (.invokevirtual 143, 3) := by decide +kernel
theorem dX12_here_45 : decode cX12_here 45 = .ok (.aload_n 0, 1) := by decide +kernel
theorem dX12_here_46 : decode cX12_here 46 = .ok (.getfield 123, 3) := by decide +kernel
theorem dX12_here_49 : decode cX12_here 49 = .ok (.ifCond .eq 7, 3) := by decide +kernel
theorem dX12_here_52 : decode cX12_here 52 = .ok (.iload_n 1, 1) := by decide +kernel
theorem dX12_here_53 : decode cX12_here 53 = .ok (.goto 7, 3) := by decide +kernel
theorem dX12_here_56 : decode cX12_here 56 = .ok (.aload_n 0, 1) := by decide +kernel
theorem dX12_here_57 : decode cX12_here 57 = .ok (.getfield 112, 3) := by decide +kernel
theorem dX12_here_60 : decode cX12_here 60 = .ok (.ireturn, 1) := by decide +kernel
theorem dX12_in_0 : decode cX12_in 0 = .ok (.lload_n 0, 1) := by decide +kernel
theorem dX12_in_1 : decode cX12_in 1 = .ok (.lload_n 2, 1) := by decide +kernel
theorem dX12_in_2 : decode cX12_in 2 = .ok (.lcmp, 1) := by decide +kernel
theorem dX12_in_3 : decode cX12_in 3 = .ok (.ifCond .lt 14, 3) := by decide +kernel
theorem dX12_in_6 : decode cX12_in 6 = .ok (.lload_n 0, 1) := by decide +kernel
theorem dX12_in_7 : decode cX12_in 7 = .ok (.lload 4, 2) := by decide +kernel
theorem dX12_in_9 : decode cX12_in 9 = .ok (.lcmp, 1) := by decide +kernel
theorem dX12_in_10 : decode cX12_in 10 = .ok (.ifCond .gt 7, 3) := by decide +kernel
theorem dX12_in_13 : decode cX12_in 13 = .ok (.iconst 1, 1) := by decide +kernel
theorem dX12_in_14 : decode cX12_in 14 = .ok (.goto 4, 3) := by decide +kernel
theorem dX12_in_17 : decode cX12_in 17 = .ok (.iconst 0, 1) := by decide +kernel
theorem dX12_in_18 : decode cX12_in 18 = .ok (.ireturn, 1) := by decide +kernel
theorem dX12_init_0 : decode cX12_init 0 = .ok (.aload_n 0, 1) := by decide +kernel
theorem dX12_init_1 : decode cX12_init 1 = .ok (.invokespecial 1, 3) := by decide +kernel
theorem dX12_init_4 : decode cX12_init 4 = .ok (.aload_n 0, 1) := by decide +kernel
theorem dX12_init_5 : decode cX12_init 5 = .ok (.sipush 273, 3) := by decide +kernel
theorem dX12_init_8 : decode cX12_init 8 = .ok (.newarray .int, 2) := by decide +kernel
theorem dX12_init_10 : decode cX12_init 10 = .ok (.putfield 7, 3) := by decide +kernel
theorem dX12_init_13 : decode cX12_init 13 = .ok (.aload_n 0, 1) := by decide +kernel
theorem dX12_init_14 : decode cX12_init 14 = .ok (.sipush 273, 3) := by decide +kernel
theorem dX12_init_17 : decode cX12_init 17 = .ok (.newarray .int, 2) := by decide +kernel
theorem dX12_init_19 : decode cX12_init 19 = .ok (.putfield 13, 3) := by decide +kernel
theorem dX12_init_22 : decode cX12_init 22 = .ok (.aload_n 0, 1) := by decide +kernel
theorem dX12_init_23 : decode cX12_init 23 = .ok (.sipush 2730, 3) := by decide +kernel
theorem dX12_init_26 : decode cX12_init 26 = .ok (.newarray .int, 2) := by decide +kernel
theorem dX12_init_28 : decode cX12_init 28 = .ok (.putfield 16, 3) := by decide +kernel
theorem dX12_init_31 : decode cX12_init 31 = .ok (.aload_n 0, 1) := by decide +kernel
theorem dX12_init_32 : decode cX12_init 32 = .ok (.sipush 400, 3) := by decide +kernel
theorem dX12_init_35 : decode cX12_init 35 = .ok (.newarray .int, 2) := by decide +kernel
theorem dX12_init_37 : decode cX12_init 37 = .ok (.putfield 19, 3) := by decide +kernel
theorem dX12_init_40 : decode cX12_init 40 = .ok (.aload_n 0, 1) := by decide +kernel
theorem dX12_init_41 : decode cX12_init 41 = .ok (.iconst (-1), 1) := by decide +kernel
theorem dX12_init_42 : decode cX12_init 42 = .ok (.putfield 22, 3) := by decide +kernel
theorem dX12_init_45 : decode cX12_init 45 = .ok (.aload_n 0, 1) := by decide +kernel
theorem dX12_init_46 : decode cX12_init 46 = .ok (.bipush 9, 2) := by decide +kernel
theorem dX12_init_48 : decode cX12_init 48 = .ok (.newarray .int, 2) := by decide +kernel
theorem dX12_init_50 : decode cX12_init 50 = .ok (.putfield 26, 3) := by decide +kernel
theorem dX12_init_53 : decode cX12_init 53 = .ok (.aload_n 0, 1) := by decide +kernel
theorem dX12_init_54 : decode cX12_init 54 = .ok (.sipush 512, 3) := by decide +kernel
theorem dX12_init_57 : decode cX12_init 57 = .ok (.newarray .int, 2) := by decide +kernel
theorem dX12_init_59 : decode cX12_init 59 = .ok (.putfield 29, 3) := by decide +kernel
theorem dX12_init_62 : decode cX12_init 62 = .ok (.aload_n 0, 1) := by decide +kernel
theorem dX12_init_63 : decode cX12_init 63 = .ok (.sipush 512, 3) := by decide +kernel
theorem dX12_init_66 : decode cX12_init 66 = .ok (.newarray .int, 2) := by decide +kernel
theorem dX12_init_68 : decode cX12_init 68 = .ok (.putfield 32, 3) := by decide +kernel
theorem dX12_init_71 : decode cX12_init 71 = .ok (.aload_n 0, 1) := by decide +kernel
theorem dX12_init_72 : decode cX12_init 72 = .ok (.sipush 4608, 3) := by decide +kernel
theorem dX12_init_75 : decode cX12_init 75 = .ok (.newarray .int, 2) := by decide +kernel
theorem dX12_init_77 : decode cX12_init 77 = .ok (.putfield 35, 3) := by decide +kernel
theorem dX12_init_80 : decode cX12_init 80 = .ok (.aload_n 0, 1) := by decide +kernel
theorem dX12_init_81 : decode cX12_init 81 = .ok (.bipush 9, 2) := by decide +kernel
theorem dX12_init_83 : decode cX12_init 83 = .ok (.newarray .int, 2) := by decide +kernel
theorem dX12_init_85 : decode cX12_init 85 = .ok (.putfield 38, 3) := by decide +kernel
theorem dX12_init_88 : decode cX12_init 88 = .ok (.aload_n 0, 1) := by decide +kernel
theorem dX12_init_89 : decode cX12_init 89 = .ok (.bipush 9, 2) := by decide +kernel
theorem dX12_init_91 : decode cX12_init 91 = .ok (.newarray .int, 2) := by decide +kernel
theorem dX12_init_93 : decode cX12_init 93 = .ok (.putfield 41, 3) := by decide +kernel
theorem dX12_init_96 : decode cX12_init 96 = .ok (.aload_n 0, 1) := by decide +kernel
theorem dX12_init_97 : decode cX12_init 97 = .ok (.bipush 9, 2) := by decide +kernel
theorem dX12_init_99 : decode cX12_init 99 = .ok (.newarray .int, 2) := by decide +kernel
theorem dX12_init_101 : decode cX12_init 101 = .ok (.putfield 44, 3) := by decide +kernel
theorem dX12_init_104 : decode cX12_init 104 = .ok (.aload_n 0, 1) := by decide +kernel
theorem dX12_init_105 : decode cX12_init 105 = .ok (.bipush 81, 2) := by decide +kernel
theorem dX12_init_107 : decode cX12_init 107 = .ok (.newarray .int, 2) := by decide +kernel
theorem dX12_init_109 : decode cX12_init 109 = .ok (.putfield 47, 3) := by decide +kernel
theorem dX12_init_112 : decode cX12_init 112 = .ok (.aload_n 0, 1) := by decide +kernel
theorem dX12_init_113 : decode cX12_init 113 = .ok (.sipush 400, 3) := by decide +kernel
theorem dX12_init_116 : decode cX12_init 116 = .ok (.newarray .int, 2) := by decide +kernel
theorem dX12_init_118 : decode cX12_init 118 = .ok (.putfield 50, 3) := by decide +kernel
theorem dX12_init_121 : decode cX12_init 121 = .ok (.return_, 1) := by decide +kernel
theorem dX12_isAt_0 : decode cX12_isAt 0 = .ok (.aload_n 0, 1) := by decide +kernel
theorem dX12_isAt_1 : decode cX12_isAt 1 = .ok (.getfield 103, 3) := by decide +kernel
theorem dX12_isAt_4 : decode cX12_isAt 4 = .ok (.aload_n 0, 1) := by decide +kernel
theorem dX12_isAt_5 : decode cX12_isAt 5 = .ok (.getfield 100, 3) := by decide +kernel
theorem dX12_isAt_8 : decode cX12_isAt 8 = .ok (.if_icmp .ge 27, 3) := by decide +kernel
theorem dX12_isAt_11 : decode cX12_isAt 11 = .ok (.aload_n 0, 1) := by decide +kernel
theorem dX12_isAt_12 : decode cX12_isAt 12 = .ok (.getfield 19, 3) := by decide +kernel
theorem dX12_isAt_15 : decode cX12_isAt 15 = .ok (.aload_n 0, 1) := by decide +kernel
theorem dX12_isAt_16 : decode cX12_isAt 16 = .ok (.getfield 103, 3) := by decide +kernel
theorem dX12_isAt_19 : decode cX12_isAt 19 = .ok (.iaload, 1) := by decide +kernel
theorem dX12_isAt_20 : decode cX12_isAt 20 = .ok (.i2l, 1) := by decide +kernel
theorem dX12_isAt_21 : decode cX12_isAt 21 = .ok (.iload_n 1, 1) := by decide +kernel
theorem dX12_isAt_22 : decode cX12_isAt 22 = .ok (.i2l, 1) := by decide +kernel
theorem dX12_isAt_23 : decode cX12_isAt 23 = .ok (.iload_n 2, 1) := by decide +kernel
theorem dX12_isAt_24 : decode cX12_isAt 24 = .ok (.i2l, 1) := by decide +kernel
theorem dX12_isAt_25 : decode cX12_isAt 25 = .ok (.invokestatic 55, 3) := by decide +kernel
theorem dX12_isAt_28 : decode cX12_isAt 28 = .ok (.ifCond .eq 7, 3) := by decide +kernel
theorem dX12_isAt_31 : decode cX12_isAt 31 = .ok (.iconst 1, 1) := by decide +kernel
theorem dX12_isAt_32 : decode cX12_isAt 32 = .ok (.goto 4, 3) := by decide +kernel
theorem dX12_isAt_35 : decode cX12_isAt 35 = .ok (.iconst 0, 1) := by decide +kernel
theorem dX12_isAt_36 : decode cX12_isAt 36 = .ok (.ireturn, 1) := by decide +kernel
theorem dX12_isGreatest_0 : decode cX12_isGreatest 0 = .ok (.iload_n 0, 1) := by decide +kernel
theorem dX12_isGreatest_1 : decode cX12_isGreatest 1 = .ok (.ifCond .eq 13, 3) := by decide +kernel
theorem dX12_isGreatest_4 : decode cX12_isGreatest 4 = .ok (.iload_n 0, 1) := by decide +kernel
theorem dX12_isGreatest_5 : decode cX12_isGreatest 5 = .ok (.iconst 1, 1) := by decide +kernel
theorem dX12_isGreatest_6 : decode cX12_isGreatest 6 = .ok (.if_icmp .eq 8, 3) := by decide +kernel
theorem dX12_isGreatest_9 : decode cX12_isGreatest 9 = .ok (.iload_n 0, 1) := by decide +kernel
theorem dX12_isGreatest_10 : decode cX12_isGreatest 10 = .ok (.iconst 5, 1) := by decide +kernel
theorem dX12_isGreatest_11 : decode cX12_isGreatest 11 = .ok (.if_icmp .ne 7, 3) := by decide +kernel
theorem dX12_isGreatest_14 : decode cX12_isGreatest 14 = .ok (.iconst 1, 1) := by decide +kernel
theorem dX12_isGreatest_15 : decode cX12_isGreatest 15 = .ok (.goto 4, 3) := by decide +kernel
theorem dX12_isGreatest_18 : decode cX12_isGreatest 18 = .ok (.iconst 0, 1) := by decide +kernel
theorem dX12_isGreatest_19 : decode cX12_isGreatest 19 = .ok (.ireturn, 1) := by decide +kernel
theorem dX12_isMeasure_0 : decode cX12_isMeasure 0 = .ok (.iload_n 0, 1) := by decide +kernel
theorem dX12_isMeasure_1 : decode cX12_isMeasure 1 = .ok (.i2l, 1) := by decide +kernel
theorem dX12_isMeasure_2 : decode cX12_isMeasure 2 = .ok (.lconst 0, 1) := by decide +kernel
theorem dX12_isMeasure_3 : decode cX12_isMeasure 3 = .ok (.ldc2_w 74, 3) := by decide +kernel
theorem dX12_isMeasure_6 : decode cX12_isMeasure 6 = .ok (.invokestatic 55, 3) := by decide +kernel
theorem dX12_isMeasure_9 : decode cX12_isMeasure 9 = .ok (.ireturn, 1) := by decide +kernel
theorem dX12_isNet_0 : decode cX12_isNet 0 = .ok (.iload_n 1, 1) := by decide +kernel
theorem dX12_isNet_1 : decode cX12_isNet 1 = .ok (.invokestatic 59, 3) := by decide +kernel
theorem dX12_isNet_4 : decode cX12_isNet 4 = .ok (.ifCond .eq 15, 3) := by decide +kernel
theorem dX12_isNet_7 : decode cX12_isNet 7 = .ok (.aload_n 0, 1) := by decide +kernel
theorem dX12_isNet_8 : decode cX12_isNet 8 = .ok (.iload_n 1, 1) := by decide +kernel
theorem dX12_isNet_9 : decode cX12_isNet 9 = .ok (.invokevirtual 63, 3) := by decide +kernel
theorem dX12_isNet_12 : decode cX12_isNet 12 = .ok (.ifCond .le 7, 3) := by decide +kernel
theorem dX12_isNet_15 : decode cX12_isNet 15 = .ok (.iconst 1, 1) := by decide +kernel
theorem dX12_isNet_16 : decode cX12_isNet 16 = .ok (.goto 4, 3) := by decide +kernel
theorem dX12_isNet_19 : decode cX12_isNet 19 = .ok (.iconst 0, 1) := by decide +kernel
theorem dX12_isNet_20 : decode cX12_isNet 20 = .ok (.ireturn, 1) := by decide +kernel
theorem dX12_isPoint_0 : decode cX12_isPoint 0 = .ok (.aload_n 0, 1) := by decide +kernel
theorem dX12_isPoint_1 : decode cX12_isPoint 1 = .ok (.iload_n 1, 1) := by decide +kernel
theorem dX12_isPoint_2 : decode cX12_isPoint 2 = .ok (.invokevirtual 67, 3) := by decide +kernel
theorem dX12_isPoint_5 : decode cX12_isPoint 5 = .ok (.ifCond .eq 24, 3) := by decide +kernel
theorem dX12_isPoint_8 : decode cX12_isPoint 8 = .ok (.iload_n 2, 1) := by decide +kernel
theorem dX12_isPoint_9 : decode cX12_isPoint 9 = .ok (.i2l, 1) := by decide +kernel
theorem dX12_isPoint_10 : decode cX12_isPoint 10 = .ok (.lconst 0, 1) := by decide +kernel
theorem dX12_isPoint_11 : decode cX12_isPoint 11 = .ok (.aload_n 0, 1) := by decide +kernel
theorem dX12_isPoint_12 : decode cX12_isPoint 12 = .ok (.iload_n 1, 1) := by decide +kernel
theorem dX12_isPoint_13 : decode cX12_isPoint 13 = .ok (.invokevirtual 63, 3) := by decide +kernel
theorem dX12_isPoint_16 : decode cX12_isPoint 16 = .ok (.iconst 1, 1) := by decide +kernel
theorem dX12_isPoint_17 : decode cX12_isPoint 17 = .ok (.isub, 1) := by decide +kernel
theorem dX12_isPoint_18 : decode cX12_isPoint 18 = .ok (.i2l, 1) := by decide +kernel
theorem dX12_isPoint_19 : decode cX12_isPoint 19 = .ok (.invokestatic 55, 3) := by decide +kernel
theorem dX12_isPoint_22 : decode cX12_isPoint 22 = .ok (.ifCond .eq 7, 3) := by decide +kernel
theorem dX12_isPoint_25 : decode cX12_isPoint 25 = .ok (.iconst 1, 1) := by decide +kernel
theorem dX12_isPoint_26 : decode cX12_isPoint 26 = .ok (.goto 4, 3) := by decide +kernel
theorem dX12_isPoint_29 : decode cX12_isPoint 29 = .ok (.iconst 0, 1) := by decide +kernel
theorem dX12_isPoint_30 : decode cX12_isPoint 30 = .ok (.ireturn, 1) := by decide +kernel
theorem dX12_isSign_0 : decode cX12_isSign 0 = .ok (.aload_n 0, 1) := by decide +kernel
theorem dX12_isSign_1 : decode cX12_isSign 1 = .ok (.getfield 123, 3) := by decide +kernel
theorem dX12_isSign_4 : decode cX12_isSign 4 = .ok (.ifCond .ne 28, 3) := by decide +kernel
theorem dX12_isSign_7 : decode cX12_isSign 7 = .ok (.aload_n 0, 1) := by decide +kernel
theorem dX12_isSign_8 : decode cX12_isSign 8 = .ok (.getfield 115, 3) := by decide +kernel
theorem dX12_isSign_11 : decode cX12_isSign 11 = .ok (.iconst 3, 1) := by decide +kernel
theorem dX12_isSign_12 : decode cX12_isSign 12 = .ok (.if_icmp .ne 20, 3) := by decide +kernel
theorem dX12_isSign_15 : decode cX12_isSign 15 = .ok (.aload_n 0, 1) := by decide +kernel
theorem dX12_isSign_16 : decode cX12_isSign 16 = .ok (.getfield 19, 3) := by decide +kernel
theorem dX12_isSign_19 : decode cX12_isSign 19 = .ok (.aload_n 0, 1) := by decide +kernel
theorem dX12_isSign_20 : decode cX12_isSign 20 = .ok (.getfield 109, 3) := by decide +kernel
theorem dX12_isSign_23 : decode cX12_isSign 23 = .ok (.iaload, 1) := by decide +kernel
theorem dX12_isSign_24 : decode cX12_isSign 24 = .ok (.iload_n 1, 1) := by decide +kernel
theorem dX12_isSign_25 : decode cX12_isSign 25 = .ok (.if_icmp .ne 7, 3) := by decide +kernel
theorem dX12_isSign_28 : decode cX12_isSign 28 = .ok (.iconst 1, 1) := by decide +kernel
theorem dX12_isSign_29 : decode cX12_isSign 29 = .ok (.goto 4, 3) := by decide +kernel
theorem dX12_isSign_32 : decode cX12_isSign 32 = .ok (.iconst 0, 1) := by decide +kernel
theorem dX12_isSign_33 : decode cX12_isSign 33 = .ok (.ireturn, 1) := by decide +kernel
theorem dX12_isSlot_0 : decode cX12_isSlot 0 = .ok (.iload_n 0, 1) := by decide +kernel
theorem dX12_isSlot_1 : decode cX12_isSlot 1 = .ok (.i2l, 1) := by decide +kernel
theorem dX12_isSlot_2 : decode cX12_isSlot 2 = .ok (.lconst 0, 1) := by decide +kernel
theorem dX12_isSlot_3 : decode cX12_isSlot 3 = .ok (.ldc2_w 53, 3) := by decide +kernel
theorem dX12_isSlot_6 : decode cX12_isSlot 6 = .ok (.invokestatic 55, 3) := by decide +kernel
theorem dX12_isSlot_9 : decode cX12_isSlot 9 = .ok (.ireturn, 1) := by decide +kernel
theorem dX12_isTakenOut_0 : decode cX12_isTakenOut 0 = .ok (.iload_n 0, 1) := by decide +kernel
theorem dX12_isTakenOut_1 : decode cX12_isTakenOut 1 = .ok (.iconst 5, 1) := by decide +kernel
theorem dX12_isTakenOut_2 : decode cX12_isTakenOut 2 = .ok (.if_icmp .eq 9, 3) := by decide +kernel
theorem dX12_isTakenOut_5 : decode cX12_isTakenOut 5 = .ok (.iload_n 0, 1) := by decide +kernel
theorem dX12_isTakenOut_6 : decode cX12_isTakenOut 6 = .ok (.bipush 6, 2) := by decide +kernel
theorem dX12_isTakenOut_8 : decode cX12_isTakenOut 8 = .ok (.if_icmp .ne 7, 3) := by decide +kernel
theorem dX12_isTakenOut_11 : decode cX12_isTakenOut 11 = .ok (.iconst 1, 1) := by decide +kernel
theorem dX12_isTakenOut_12 : decode cX12_isTakenOut 12 = .ok (.goto 4, 3) := by decide +kernel
theorem dX12_isTakenOut_15 : decode cX12_isTakenOut 15 = .ok (.iconst 0, 1) := by decide +kernel
theorem dX12_isTakenOut_16 : decode cX12_isTakenOut 16 = .ok (.ireturn, 1) := by decide +kernel
theorem dX12_isWord_0 : decode cX12_isWord 0 = .ok (.aload_n 0, 1) := by decide +kernel
theorem dX12_isWord_1 : decode cX12_isWord 1 = .ok (.getfield 123, 3) := by decide +kernel
theorem dX12_isWord_4 : decode cX12_isWord 4 = .ok (.ifCond .ne 31, 3) := by decide +kernel
theorem dX12_isWord_7 : decode cX12_isWord 7 = .ok (.aload_n 0, 1) := by decide +kernel
theorem dX12_isWord_8 : decode cX12_isWord 8 = .ok (.getfield 115, 3) := by decide +kernel
theorem dX12_isWord_11 : decode cX12_isWord 11 = .ok (.iconst 1, 1) := by decide +kernel
theorem dX12_isWord_12 : decode cX12_isWord 12 = .ok (.if_icmp .ne 23, 3) := by decide +kernel
theorem dX12_isWord_15 : decode cX12_isWord 15 = .ok (.aload_n 0, 1) := by decide +kernel
theorem dX12_isWord_16 : decode cX12_isWord 16 = .ok (.getfield 103, 3) := by decide +kernel
theorem dX12_isWord_19 : decode cX12_isWord 19 = .ok (.aload_n 0, 1) := by decide +kernel
theorem dX12_isWord_20 : decode cX12_isWord 20 = .ok (.getfield 109, 3) := by decide +kernel
theorem dX12_isWord_23 : decode cX12_isWord 23 = .ok (.isub, 1) := by decide +kernel
theorem dX12_isWord_24 : decode cX12_isWord 24 = .ok (.aload_n 1, 1) := by decide +kernel
theorem dX12_isWord_25 : decode cX12_isWord 25 = .ok (.invokevirtual 133, 3) := by decide +kernel
theorem dX12_isWord_28 : decode cX12_isWord 28 = .ok (.if_icmp .ne 7, 3) := by decide +kernel
theorem dX12_isWord_31 : decode cX12_isWord 31 = .ok (.iconst 1, 1) := by decide +kernel
theorem dX12_isWord_32 : decode cX12_isWord 32 = .ok (.goto 4, 3) := by decide +kernel
theorem dX12_isWord_35 : decode cX12_isWord 35 = .ok (.iconst 0, 1) := by decide +kernel
theorem dX12_isWord_36 : decode cX12_isWord 36 = .ok (.istore_n 2, 1) := by decide +kernel
theorem dX12_isWord_37 : decode cX12_isWord 37 = .ok (.iconst 0, 1) := by decide +kernel
theorem dX12_isWord_38 : decode cX12_isWord 38 = .ok (.istore_n 3, 1) := by decide +kernel
theorem dX12_isWord_39 : decode cX12_isWord 39 = .ok (.iload_n 3, 1) := by decide +kernel
theorem dX12_isWord_40 : decode cX12_isWord 40 = .ok (.aload_n 1, 1) := by decide +kernel
theorem dX12_isWord_41 : decode cX12_isWord 41 = .ok (.invokevirtual 133, 3) := by decide +kernel
theorem dX12_isWord_44 : decode cX12_isWord 44 = .ok (.if_icmp .ge 38, 3) := by decide +kernel
theorem dX12_isWord_47 : decode cX12_isWord 47 = .ok (.iload_n 2, 1) := by decide +kernel
theorem dX12_isWord_48 : decode cX12_isWord 48 = .ok (.ifCond .eq 34, 3) := by decide +kernel
theorem dX12_isWord_51 : decode cX12_isWord 51 = .ok (.aload_n 0, 1) := by decide +kernel
theorem dX12_isWord_52 : decode cX12_isWord 52 = .ok (.getfield 19, 3) := by decide +kernel
theorem dX12_isWord_55 : decode cX12_isWord 55 = .ok (.aload_n 0, 1) := by decide +kernel
theorem dX12_isWord_56 : decode cX12_isWord 56 = .ok (.getfield 109, 3) := by decide +kernel
theorem dX12_isWord_59 : decode cX12_isWord 59 = .ok (.iload_n 3, 1) := by decide +kernel
theorem dX12_isWord_60 : decode cX12_isWord 60 = .ok (.iadd, 1) := by decide +kernel
theorem dX12_isWord_61 : decode cX12_isWord 61 = .ok (.iaload, 1) := by decide +kernel
theorem dX12_isWord_62 : decode cX12_isWord 62 = .ok (.aload_n 1, 1) := by decide +kernel
theorem dX12_isWord_63 : decode cX12_isWord 63 = .ok (.iload_n 3, 1) := by decide +kernel
theorem dX12_isWord_64 : decode cX12_isWord 64 = .ok (.invokevirtual 139, 3) := by decide +kernel
theorem dX12_isWord_67 : decode cX12_isWord 67 = .ok (.if_icmp .ne 7, 3) := by decide +kernel
theorem dX12_isWord_70 : decode cX12_isWord 70 = .ok (.iconst 1, 1) := by decide +kernel
theorem dX12_isWord_71 : decode cX12_isWord 71 = .ok (.goto 4, 3) := by decide +kernel
theorem dX12_isWord_74 : decode cX12_isWord 74 = .ok (.iconst 0, 1) := by decide +kernel
theorem dX12_isWord_75 : decode cX12_isWord 75 = .ok (.istore_n 2, 1) := by decide +kernel
theorem dX12_isWord_76 : decode cX12_isWord 76 = .ok (.iinc 3 1, 3) := by decide +kernel
theorem dX12_isWord_79 : decode cX12_isWord 79 = .ok (.goto (-40), 3) := by decide +kernel
theorem dX12_isWord_82 : decode cX12_isWord 82 = .ok (.iload_n 2, 1) := by decide +kernel
theorem dX12_isWord_83 : decode cX12_isWord 83 = .ok (.ireturn, 1) := by decide +kernel
theorem dX12_keeps_0 : decode cX12_keeps 0 = .ok (.aload_n 0, 1) := by decide +kernel
theorem dX12_keeps_1 : decode cX12_keeps 1 = .ok (.getfield 87, 3) := by decide +kernel
theorem dX12_keeps_4 : decode cX12_keeps 4 = .ok (.bipush 10, 2) := by decide +kernel
theorem dX12_keeps_6 : decode cX12_keeps 6 = .ok (.if_icmp .ne 44, 3) := by decide +kernel
theorem dX12_keeps_9 : decode cX12_keeps 9 = .ok (.iconst 0, 1) := by decide +kernel
theorem dX12_keeps_10 : decode cX12_keeps 10 = .ok (.istore_n 2, 1) := by decide +kernel
theorem dX12_keeps_11 : decode cX12_keeps 11 = .ok (.iload_n 2, 1) := by decide +kernel
theorem dX12_keeps_12 : decode cX12_keeps 12 = .ok (.sipush 2457, 3) := by decide +kernel
theorem dX12_keeps_15 : decode cX12_keeps 15 = .ok (.if_icmp .ge 25, 3) := by decide +kernel
theorem dX12_keeps_18 : decode cX12_keeps 18 = .ok (.aload_n 0, 1) := by decide +kernel
theorem dX12_keeps_19 : decode cX12_keeps 19 = .ok (.getfield 16, 3) := by decide +kernel
theorem dX12_keeps_22 : decode cX12_keeps 22 = .ok (.iload_n 2, 1) := by decide +kernel
theorem dX12_keeps_23 : decode cX12_keeps 23 = .ok (.aload_n 0, 1) := by decide +kernel
theorem dX12_keeps_24 : decode cX12_keeps 24 = .ok (.getfield 16, 3) := by decide +kernel
theorem dX12_keeps_27 : decode cX12_keeps 27 = .ok (.iload_n 2, 1) := by decide +kernel
theorem dX12_keeps_28 : decode cX12_keeps 28 = .ok (.sipush 273, 3) := by decide +kernel
theorem dX12_keeps_31 : decode cX12_keeps 31 = .ok (.iadd, 1) := by decide +kernel
theorem dX12_keeps_32 : decode cX12_keeps 32 = .ok (.iaload, 1) := by decide +kernel
theorem dX12_keeps_33 : decode cX12_keeps 33 = .ok (.iastore, 1) := by decide +kernel
theorem dX12_keeps_34 : decode cX12_keeps 34 = .ok (.iinc 2 1, 3) := by decide +kernel
theorem dX12_keeps_37 : decode cX12_keeps 37 = .ok (.goto (-26), 3) := by decide +kernel
theorem dX12_keeps_40 : decode cX12_keeps 40 = .ok (.aload_n 0, 1) := by decide +kernel
theorem dX12_keeps_41 : decode cX12_keeps 41 = .ok (.dup, 1) := by decide +kernel
theorem dX12_keeps_42 : decode cX12_keeps 42 = .ok (.getfield 87, 3) := by decide +kernel
theorem dX12_keeps_45 : decode cX12_keeps 45 = .ok (.iconst 1, 1) := by decide +kernel
theorem dX12_keeps_46 : decode cX12_keeps 46 = .ok (.isub, 1) := by decide +kernel
theorem dX12_keeps_47 : decode cX12_keeps 47 = .ok (.putfield 87, 3) := by decide +kernel
theorem dX12_keeps_50 : decode cX12_keeps 50 = .ok (.iconst 0, 1) := by decide +kernel
theorem dX12_keeps_51 : decode cX12_keeps 51 = .ok (.istore_n 2, 1) := by decide +kernel
theorem dX12_keeps_52 : decode cX12_keeps 52 = .ok (.iload_n 2, 1) := by decide +kernel
theorem dX12_keeps_53 : decode cX12_keeps 53 = .ok (.sipush 273, 3) := by decide +kernel
theorem dX12_keeps_56 : decode cX12_keeps 56 = .ok (.if_icmp .ge 30, 3) := by decide +kernel
theorem dX12_keeps_59 : decode cX12_keeps 59 = .ok (.aload_n 0, 1) := by decide +kernel
theorem dX12_keeps_60 : decode cX12_keeps 60 = .ok (.getfield 16, 3) := by decide +kernel
theorem dX12_keeps_63 : decode cX12_keeps 63 = .ok (.sipush 273, 3) := by decide +kernel
theorem dX12_keeps_66 : decode cX12_keeps 66 = .ok (.aload_n 0, 1) := by decide +kernel
theorem dX12_keeps_67 : decode cX12_keeps 67 = .ok (.getfield 87, 3) := by decide +kernel
theorem dX12_keeps_70 : decode cX12_keeps 70 = .ok (.imul, 1) := by decide +kernel
theorem dX12_keeps_71 : decode cX12_keeps 71 = .ok (.iload_n 2, 1) := by decide +kernel
theorem dX12_keeps_72 : decode cX12_keeps 72 = .ok (.iadd, 1) := by decide +kernel
theorem dX12_keeps_73 : decode cX12_keeps 73 = .ok (.aload_n 0, 1) := by decide +kernel
theorem dX12_keeps_74 : decode cX12_keeps 74 = .ok (.getfield 13, 3) := by decide +kernel
theorem dX12_keeps_77 : decode cX12_keeps 77 = .ok (.iload_n 2, 1) := by decide +kernel
theorem dX12_keeps_78 : decode cX12_keeps 78 = .ok (.iaload, 1) := by decide +kernel
theorem dX12_keeps_79 : decode cX12_keeps 79 = .ok (.iastore, 1) := by decide +kernel
theorem dX12_keeps_80 : decode cX12_keeps 80 = .ok (.iinc 2 1, 3) := by decide +kernel
theorem dX12_keeps_83 : decode cX12_keeps 83 = .ok (.goto (-31), 3) := by decide +kernel
theorem dX12_keeps_86 : decode cX12_keeps 86 = .ok (.aload_n 0, 1) := by decide +kernel
theorem dX12_keeps_87 : decode cX12_keeps 87 = .ok (.dup, 1) := by decide +kernel
theorem dX12_keeps_88 : decode cX12_keeps 88 = .ok (.getfield 87, 3) := by decide +kernel
theorem dX12_keeps_91 : decode cX12_keeps 91 = .ok (.iconst 1, 1) := by decide +kernel
theorem dX12_keeps_92 : decode cX12_keeps 92 = .ok (.iadd, 1) := by decide +kernel
theorem dX12_keeps_93 : decode cX12_keeps 93 = .ok (.putfield 87, 3) := by decide +kernel
theorem dX12_keeps_96 : decode cX12_keeps 96 = .ok (.iload_n 1, 1) := by decide +kernel
theorem dX12_keeps_97 : decode cX12_keeps 97 = .ok (.ireturn, 1) := by decide +kernel
theorem dX12_keepsLeast_0 : decode cX12_keepsLeast 0 = .ok (.iload_n 2, 1) := by decide +kernel
theorem dX12_keepsLeast_1 : decode cX12_keepsLeast 1 = .ok (.iload_n 3, 1) := by decide +kernel
theorem dX12_keepsLeast_2 : decode cX12_keepsLeast 2 = .ok (.invokestatic 166, 3) := by decide +kernel
theorem dX12_keepsLeast_5 : decode cX12_keepsLeast 5 = .ok (.ifCond .ne 47, 3) := by decide +kernel
theorem dX12_keepsLeast_8 : decode cX12_keepsLeast 8 = .ok (.iload_n 1, 1) := by decide +kernel
theorem dX12_keepsLeast_9 : decode cX12_keepsLeast 9 = .ok (.iload 4, 2) := by decide +kernel
theorem dX12_keepsLeast_11 : decode cX12_keepsLeast 11 = .ok (.iload_n 1, 1) := by decide +kernel
theorem dX12_keepsLeast_12 : decode cX12_keepsLeast 12 = .ok (.aload_n 0, 1) := by decide +kernel
theorem dX12_keepsLeast_13 : decode cX12_keepsLeast 13 = .ok (.getfield 35, 3) := by decide +kernel
theorem dX12_keepsLeast_16 : decode cX12_keepsLeast 16 = .ok (.bipush 9, 2) := by decide +kernel
theorem dX12_keepsLeast_18 : decode cX12_keepsLeast 18 = .ok (.iload_n 2, 1) := by decide +kernel
theorem dX12_keepsLeast_19 : decode cX12_keepsLeast 19 = .ok (.imul, 1) := by decide +kernel
theorem dX12_keepsLeast_20 : decode cX12_keepsLeast 20 = .ok (.iload_n 3, 1) := by decide +kernel
theorem dX12_keepsLeast_21 : decode cX12_keepsLeast 21 = .ok (.iadd, 1) := by decide +kernel
theorem dX12_keepsLeast_22 : decode cX12_keepsLeast 22 = .ok (.iaload, 1) := by decide +kernel
theorem dX12_keepsLeast_23 : decode cX12_keepsLeast 23 = .ok (.aload_n 0, 1) := by decide +kernel
theorem dX12_keepsLeast_24 : decode cX12_keepsLeast 24 = .ok (.getfield 29, 3) := by decide +kernel
theorem dX12_keepsLeast_27 : decode cX12_keepsLeast 27 = .ok (.iload_n 2, 1) := by decide +kernel
theorem dX12_keepsLeast_28 : decode cX12_keepsLeast 28 = .ok (.iconst 1, 1) := by decide +kernel
theorem dX12_keepsLeast_29 : decode cX12_keepsLeast 29 = .ok (.iload_n 3, 1) := by decide +kernel
theorem dX12_keepsLeast_30 : decode cX12_keepsLeast 30 = .ok (.ishl, 1) := by decide +kernel
theorem dX12_keepsLeast_31 : decode cX12_keepsLeast 31 = .ok (.ior, 1) := by decide +kernel
theorem dX12_keepsLeast_32 : decode cX12_keepsLeast 32 = .ok (.iaload, 1) := by decide +kernel
theorem dX12_keepsLeast_33 : decode cX12_keepsLeast 33 = .ok (.invokestatic 242, 3) := by decide +kernel
theorem dX12_keepsLeast_36 : decode cX12_keepsLeast 36 = .ok (.invokestatic 242, 3) := by decide +kernel
theorem dX12_keepsLeast_39 : decode cX12_keepsLeast 39 = .ok (.aload_n 0, 1) := by decide +kernel
theorem dX12_keepsLeast_40 : decode cX12_keepsLeast 40 = .ok (.getfield 29, 3) := by decide +kernel
theorem dX12_keepsLeast_43 : decode cX12_keepsLeast 43 = .ok (.iconst 0, 1) := by decide +kernel
theorem dX12_keepsLeast_44 : decode cX12_keepsLeast 44 = .ok (.iaload, 1) := by decide +kernel
theorem dX12_keepsLeast_45 : decode cX12_keepsLeast 45 = .ok (.if_icmp .ne 7, 3) := by decide +kernel
theorem dX12_keepsLeast_48 : decode cX12_keepsLeast 48 = .ok (.iconst 1, 1) := by decide +kernel
theorem dX12_keepsLeast_49 : decode cX12_keepsLeast 49 = .ok (.goto 4, 3) := by decide +kernel
theorem dX12_keepsLeast_52 : decode cX12_keepsLeast 52 = .ok (.iconst 0, 1) := by decide +kernel
theorem dX12_keepsLeast_53 : decode cX12_keepsLeast 53 = .ok (.ireturn, 1) := by decide +kernel
theorem dX12_layers_0 : decode cX12_layers 0 = .ok (.aload_n 0, 1) := by decide +kernel
theorem dX12_layers_1 : decode cX12_layers 1 = .ok (.iload_n 1, 1) := by decide +kernel
theorem dX12_layers_2 : decode cX12_layers 2 = .ok (.iload_n 2, 1) := by decide +kernel
theorem dX12_layers_3 : decode cX12_layers 3 = .ok (.invokevirtual 70, 3) := by decide +kernel
theorem dX12_layers_6 : decode cX12_layers 6 = .ok (.ifCond .ne 6, 3) := by decide +kernel
theorem dX12_layers_9 : decode cX12_layers 9 = .ok (.bipush (-2), 2) := by decide +kernel
theorem dX12_layers_11 : decode cX12_layers 11 = .ok (.ireturn, 1) := by decide +kernel
theorem dX12_layers_12 : decode cX12_layers 12 = .ok (.iconst 0, 1) := by decide +kernel
theorem dX12_layers_13 : decode cX12_layers 13 = .ok (.istore_n 3, 1) := by decide +kernel
theorem dX12_layers_14 : decode cX12_layers 14 = .ok (.iconst 0, 1) := by decide +kernel
theorem dX12_layers_15 : decode cX12_layers 15 = .ok (.istore 4, 2) := by decide +kernel
theorem dX12_layers_17 : decode cX12_layers 17 = .ok (.iload 4, 2) := by decide +kernel
theorem dX12_layers_19 : decode cX12_layers 19 = .ok (.bipush 9, 2) := by decide +kernel
theorem dX12_layers_21 : decode cX12_layers 21 = .ok (.if_icmp .gt 63, 3) := by decide +kernel
theorem dX12_layers_24 : decode cX12_layers 24 = .ok (.iconst 0, 1) := by decide +kernel
theorem dX12_layers_25 : decode cX12_layers 25 = .ok (.istore 5, 2) := by decide +kernel
theorem dX12_layers_27 : decode cX12_layers 27 = .ok (.iload 5, 2) := by decide +kernel
theorem dX12_layers_29 : decode cX12_layers 29 = .ok (.aload_n 0, 1) := by decide +kernel
theorem dX12_layers_30 : decode cX12_layers 30 = .ok (.iload_n 1, 1) := by decide +kernel
theorem dX12_layers_31 : decode cX12_layers 31 = .ok (.invokevirtual 63, 3) := by decide +kernel
theorem dX12_layers_34 : decode cX12_layers 34 = .ok (.if_icmp .ge 44, 3) := by decide +kernel
theorem dX12_layers_37 : decode cX12_layers 37 = .ok (.aload_n 0, 1) := by decide +kernel
theorem dX12_layers_38 : decode cX12_layers 38 = .ok (.iload_n 1, 1) := by decide +kernel
theorem dX12_layers_39 : decode cX12_layers 39 = .ok (.iload_n 2, 1) := by decide +kernel
theorem dX12_layers_40 : decode cX12_layers 40 = .ok (.iload 5, 2) := by decide +kernel
theorem dX12_layers_42 : decode cX12_layers 42 = .ok (.invokevirtual 196, 3) := by decide +kernel
theorem dX12_layers_45 : decode cX12_layers 45 = .ok (.iload 4, 2) := by decide +kernel
theorem dX12_layers_47 : decode cX12_layers 47 = .ok (.bipush 9, 2) := by decide +kernel
theorem dX12_layers_49 : decode cX12_layers 49 = .ok (.if_icmp .ne 7, 3) := by decide +kernel
theorem dX12_layers_52 : decode cX12_layers 52 = .ok (.iconst (-1), 1) := by decide +kernel
theorem dX12_layers_53 : decode cX12_layers 53 = .ok (.goto 5, 3) := by decide +kernel
theorem dX12_layers_56 : decode cX12_layers 56 = .ok (.iload 4, 2) := by decide +kernel
theorem dX12_layers_58 : decode cX12_layers 58 = .ok (.if_icmp .ne 14, 3) := by decide +kernel
theorem dX12_layers_61 : decode cX12_layers 61 = .ok (.aload_n 0, 1) := by decide +kernel
theorem dX12_layers_62 : decode cX12_layers 62 = .ok (.getfield 26, 3) := by decide +kernel
theorem dX12_layers_65 : decode cX12_layers 65 = .ok (.iload_n 3, 1) := by decide +kernel
theorem dX12_layers_66 : decode cX12_layers 66 = .ok (.iload 5, 2) := by decide +kernel
theorem dX12_layers_68 : decode cX12_layers 68 = .ok (.iastore, 1) := by decide +kernel
theorem dX12_layers_69 : decode cX12_layers 69 = .ok (.iinc 3 1, 3) := by decide +kernel
theorem dX12_layers_72 : decode cX12_layers 72 = .ok (.iinc 5 1, 3) := by decide +kernel
theorem dX12_layers_75 : decode cX12_layers 75 = .ok (.goto (-48), 3) := by decide +kernel
theorem dX12_layers_78 : decode cX12_layers 78 = .ok (.iinc 4 1, 3) := by decide +kernel
theorem dX12_layers_81 : decode cX12_layers 81 = .ok (.goto (-64), 3) := by decide +kernel
theorem dX12_layers_84 : decode cX12_layers 84 = .ok (.aload_n 0, 1) := by decide +kernel
theorem dX12_layers_85 : decode cX12_layers 85 = .ok (.iload_n 1, 1) := by decide +kernel
theorem dX12_layers_86 : decode cX12_layers 86 = .ok (.invokevirtual 320, 3) := by decide +kernel
theorem dX12_layers_89 : decode cX12_layers 89 = .ok (.ireturn, 1) := by decide +kernel
theorem dX12_laysBest_0 : decode cX12_laysBest 0 = .ok (.iload_n 2, 1) := by decide +kernel
theorem dX12_laysBest_1 : decode cX12_laysBest 1 = .ok (.iconst 2, 1) := by decide +kernel
theorem dX12_laysBest_2 : decode cX12_laysBest 2 = .ok (.if_icmp .ne 43, 3) := by decide +kernel
theorem dX12_laysBest_5 : decode cX12_laysBest 5 = .ok (.aload_n 0, 1) := by decide +kernel
theorem dX12_laysBest_6 : decode cX12_laysBest 6 = .ok (.iload_n 1, 1) := by decide +kernel
theorem dX12_laysBest_7 : decode cX12_laysBest 7 = .ok (.invokevirtual 277, 3) := by decide +kernel
theorem dX12_laysBest_10 : decode cX12_laysBest 10 = .ok (.istore_n 3, 1) := by decide +kernel
theorem dX12_laysBest_11 : decode cX12_laysBest 11 = .ok (.iconst 0, 1) := by decide +kernel
theorem dX12_laysBest_12 : decode cX12_laysBest 12 = .ok (.istore 4, 2) := by decide +kernel
theorem dX12_laysBest_14 : decode cX12_laysBest 14 = .ok (.iload 4, 2) := by decide +kernel
theorem dX12_laysBest_16 : decode cX12_laysBest 16 = .ok (.aload_n 0, 1) := by decide +kernel
theorem dX12_laysBest_17 : decode cX12_laysBest 17 = .ok (.iload_n 1, 1) := by decide +kernel
theorem dX12_laysBest_18 : decode cX12_laysBest 18 = .ok (.invokevirtual 63, 3) := by decide +kernel
theorem dX12_laysBest_21 : decode cX12_laysBest 21 = .ok (.if_icmp .ge 23, 3) := by decide +kernel
theorem dX12_laysBest_24 : decode cX12_laysBest 24 = .ok (.aload_n 0, 1) := by decide +kernel
theorem dX12_laysBest_25 : decode cX12_laysBest 25 = .ok (.getfield 41, 3) := by decide +kernel
theorem dX12_laysBest_28 : decode cX12_laysBest 28 = .ok (.iload 4, 2) := by decide +kernel
theorem dX12_laysBest_30 : decode cX12_laysBest 30 = .ok (.aload_n 0, 1) := by decide +kernel
theorem dX12_laysBest_31 : decode cX12_laysBest 31 = .ok (.getfield 38, 3) := by decide +kernel
theorem dX12_laysBest_34 : decode cX12_laysBest 34 = .ok (.iload 4, 2) := by decide +kernel
theorem dX12_laysBest_36 : decode cX12_laysBest 36 = .ok (.iaload, 1) := by decide +kernel
theorem dX12_laysBest_37 : decode cX12_laysBest 37 = .ok (.iastore, 1) := by decide +kernel
theorem dX12_laysBest_38 : decode cX12_laysBest 38 = .ok (.iinc 4 1, 3) := by decide +kernel
theorem dX12_laysBest_41 : decode cX12_laysBest 41 = .ok (.goto (-27), 3) := by decide +kernel
theorem dX12_laysBest_44 : decode cX12_laysBest 44 = .ok (.return_, 1) := by decide +kernel
theorem dX12_laysBest_45 : decode cX12_laysBest 45 = .ok (.aload_n 0, 1) := by decide +kernel
theorem dX12_laysBest_46 : decode cX12_laysBest 46 = .ok (.iload_n 1, 1) := by decide +kernel
theorem dX12_laysBest_47 : decode cX12_laysBest 47 = .ok (.iload_n 2, 1) := by decide +kernel
theorem dX12_laysBest_48 : decode cX12_laysBest 48 = .ok (.invokevirtual 280, 3) := by decide +kernel
theorem dX12_laysBest_51 : decode cX12_laysBest 51 = .ok (.iconst 0, 1) := by decide +kernel
theorem dX12_laysBest_52 : decode cX12_laysBest 52 = .ok (.istore_n 3, 1) := by decide +kernel
theorem dX12_laysBest_53 : decode cX12_laysBest 53 = .ok (.iconst 0, 1) := by decide +kernel
theorem dX12_laysBest_54 : decode cX12_laysBest 54 = .ok (.istore 4, 2) := by decide +kernel
theorem dX12_laysBest_56 : decode cX12_laysBest 56 = .ok (.iconst 0, 1) := by decide +kernel
theorem dX12_laysBest_57 : decode cX12_laysBest 57 = .ok (.istore 5, 2) := by decide +kernel
theorem dX12_laysBest_59 : decode cX12_laysBest 59 = .ok (.iload 5, 2) := by decide +kernel
theorem dX12_laysBest_61 : decode cX12_laysBest 61 = .ok (.aload_n 0, 1) := by decide +kernel
theorem dX12_laysBest_62 : decode cX12_laysBest 62 = .ok (.iload_n 1, 1) := by decide +kernel
theorem dX12_laysBest_63 : decode cX12_laysBest 63 = .ok (.invokevirtual 63, 3) := by decide +kernel
theorem dX12_laysBest_66 : decode cX12_laysBest 66 = .ok (.if_icmp .ge 67, 3) := by decide +kernel
theorem dX12_laysBest_69 : decode cX12_laysBest 69 = .ok (.iconst 0, 1) := by decide +kernel
theorem dX12_laysBest_70 : decode cX12_laysBest 70 = .ok (.istore 6, 2) := by decide +kernel
theorem dX12_laysBest_72 : decode cX12_laysBest 72 = .ok (.aload_n 0, 1) := by decide +kernel
theorem dX12_laysBest_73 : decode cX12_laysBest 73 = .ok (.iload_n 2, 1) := by decide +kernel
theorem dX12_laysBest_74 : decode cX12_laysBest 74 = .ok (.iload_n 3, 1) := by decide +kernel
theorem dX12_laysBest_75 : decode cX12_laysBest 75 = .ok (.iload 6, 2) := by decide +kernel
theorem dX12_laysBest_77 : decode cX12_laysBest 77 = .ok (.iload 4, 2) := by decide +kernel
theorem dX12_laysBest_79 : decode cX12_laysBest 79 = .ok (.invokevirtual 297, 3) := by decide +kernel
theorem dX12_laysBest_82 : decode cX12_laysBest 82 = .ok (.ifCond .ne 9, 3) := by decide +kernel
theorem dX12_laysBest_85 : decode cX12_laysBest 85 = .ok (.iinc 6 1, 3) := by decide +kernel
theorem dX12_laysBest_88 : decode cX12_laysBest 88 = .ok (.goto (-16), 3) := by decide +kernel
theorem dX12_laysBest_91 : decode cX12_laysBest 91 = .ok (.iload_n 2, 1) := by decide +kernel
theorem dX12_laysBest_92 : decode cX12_laysBest 92 = .ok (.iload 4, 2) := by decide +kernel
theorem dX12_laysBest_94 : decode cX12_laysBest 94 = .ok (.aload_n 0, 1) := by decide +kernel
theorem dX12_laysBest_95 : decode cX12_laysBest 95 = .ok (.getfield 35, 3) := by decide +kernel
theorem dX12_laysBest_98 : decode cX12_laysBest 98 = .ok (.bipush 9, 2) := by decide +kernel
theorem dX12_laysBest_100 : decode cX12_laysBest 100 = .ok (.iload_n 3, 1) := by decide +kernel
theorem dX12_laysBest_101 : decode cX12_laysBest 101 = .ok (.imul, 1) := by decide +kernel
theorem dX12_laysBest_102 : decode cX12_laysBest 102 = .ok (.iload 6, 2) := by decide +kernel
theorem dX12_laysBest_104 : decode cX12_laysBest 104 = .ok (.iadd, 1) := by decide +kernel
theorem dX12_laysBest_105 : decode cX12_laysBest 105 = .ok (.iaload, 1) := by decide +kernel
theorem dX12_laysBest_106 : decode cX12_laysBest 106 = .ok (.invokestatic 242, 3) := by decide +kernel
theorem dX12_laysBest_109 : decode cX12_laysBest 109 = .ok (.istore 4, 2) := by decide +kernel
theorem dX12_laysBest_111 : decode cX12_laysBest 111 = .ok (.aload_n 0, 1) := by decide +kernel
theorem dX12_laysBest_112 : decode cX12_laysBest 112 = .ok (.getfield 41, 3) := by decide +kernel
theorem dX12_laysBest_115 : decode cX12_laysBest 115 = .ok (.iload 5, 2) := by decide +kernel
theorem dX12_laysBest_117 : decode cX12_laysBest 117 = .ok (.iload 6, 2) := by decide +kernel
theorem dX12_laysBest_119 : decode cX12_laysBest 119 = .ok (.iastore, 1) := by decide +kernel
theorem dX12_laysBest_120 : decode cX12_laysBest 120 = .ok (.iload_n 3, 1) := by decide +kernel
theorem dX12_laysBest_121 : decode cX12_laysBest 121 = .ok (.iconst 1, 1) := by decide +kernel
theorem dX12_laysBest_122 : decode cX12_laysBest 122 = .ok (.iload 6, 2) := by decide +kernel
theorem dX12_laysBest_124 : decode cX12_laysBest 124 = .ok (.ishl, 1) := by decide +kernel
theorem dX12_laysBest_125 : decode cX12_laysBest 125 = .ok (.ior, 1) := by decide +kernel
theorem dX12_laysBest_126 : decode cX12_laysBest 126 = .ok (.istore_n 3, 1) := by decide +kernel
theorem dX12_laysBest_127 : decode cX12_laysBest 127 = .ok (.iinc 5 1, 3) := by decide +kernel
theorem dX12_laysBest_130 : decode cX12_laysBest 130 = .ok (.goto (-71), 3) := by decide +kernel
theorem dX12_laysBest_133 : decode cX12_laysBest 133 = .ok (.return_, 1) := by decide +kernel
theorem dX12_laysCosts_0 : decode cX12_laysCosts 0 = .ok (.aload_n 0, 1) := by decide +kernel
theorem dX12_laysCosts_1 : decode cX12_laysCosts 1 = .ok (.iconst 1, 1) := by decide +kernel
theorem dX12_laysCosts_2 : decode cX12_laysCosts 2 = .ok (.aload_n 0, 1) := by decide +kernel
theorem dX12_laysCosts_3 : decode cX12_laysCosts 3 = .ok (.iload_n 1, 1) := by decide +kernel
theorem dX12_laysCosts_4 : decode cX12_laysCosts 4 = .ok (.invokevirtual 63, 3) := by decide +kernel
theorem dX12_laysCosts_7 : decode cX12_laysCosts 7 = .ok (.ishl, 1) := by decide +kernel
theorem dX12_laysCosts_8 : decode cX12_laysCosts 8 = .ok (.iconst 1, 1) := by decide +kernel
theorem dX12_laysCosts_9 : decode cX12_laysCosts 9 = .ok (.isub, 1) := by decide +kernel
theorem dX12_laysCosts_10 : decode cX12_laysCosts 10 = .ok (.putfield 266, 3) := by decide +kernel
theorem dX12_laysCosts_13 : decode cX12_laysCosts 13 = .ok (.iconst 0, 1) := by decide +kernel
theorem dX12_laysCosts_14 : decode cX12_laysCosts 14 = .ok (.istore_n 3, 1) := by decide +kernel
theorem dX12_laysCosts_15 : decode cX12_laysCosts 15 = .ok (.iload_n 3, 1) := by decide +kernel
theorem dX12_laysCosts_16 : decode cX12_laysCosts 16 = .ok (.aload_n 0, 1) := by decide +kernel
theorem dX12_laysCosts_17 : decode cX12_laysCosts 17 = .ok (.getfield 266, 3) := by decide +kernel
theorem dX12_laysCosts_20 : decode cX12_laysCosts 20 = .ok (.if_icmp .gt 64, 3) := by decide +kernel
theorem dX12_laysCosts_23 : decode cX12_laysCosts 23 = .ok (.iconst 0, 1) := by decide +kernel
theorem dX12_laysCosts_24 : decode cX12_laysCosts 24 = .ok (.istore 4, 2) := by decide +kernel
theorem dX12_laysCosts_26 : decode cX12_laysCosts 26 = .ok (.iload 4, 2) := by decide +kernel
theorem dX12_laysCosts_28 : decode cX12_laysCosts 28 = .ok (.aload_n 0, 1) := by decide +kernel
theorem dX12_laysCosts_29 : decode cX12_laysCosts 29 = .ok (.iload_n 1, 1) := by decide +kernel
theorem dX12_laysCosts_30 : decode cX12_laysCosts 30 = .ok (.invokevirtual 63, 3) := by decide +kernel
theorem dX12_laysCosts_33 : decode cX12_laysCosts 33 = .ok (.if_icmp .ge 45, 3) := by decide +kernel
theorem dX12_laysCosts_36 : decode cX12_laysCosts 36 = .ok (.aload_n 0, 1) := by decide +kernel
theorem dX12_laysCosts_37 : decode cX12_laysCosts 37 = .ok (.getfield 35, 3) := by decide +kernel
theorem dX12_laysCosts_40 : decode cX12_laysCosts 40 = .ok (.bipush 9, 2) := by decide +kernel
theorem dX12_laysCosts_42 : decode cX12_laysCosts 42 = .ok (.iload_n 3, 1) := by decide +kernel
theorem dX12_laysCosts_43 : decode cX12_laysCosts 43 = .ok (.imul, 1) := by decide +kernel
theorem dX12_laysCosts_44 : decode cX12_laysCosts 44 = .ok (.iload 4, 2) := by decide +kernel
theorem dX12_laysCosts_46 : decode cX12_laysCosts 46 = .ok (.iadd, 1) := by decide +kernel
theorem dX12_laysCosts_47 : decode cX12_laysCosts 47 = .ok (.iload_n 3, 1) := by decide +kernel
theorem dX12_laysCosts_48 : decode cX12_laysCosts 48 = .ok (.iload 4, 2) := by decide +kernel
theorem dX12_laysCosts_50 : decode cX12_laysCosts 50 = .ok (.invokestatic 166, 3) := by decide +kernel
theorem dX12_laysCosts_53 : decode cX12_laysCosts 53 = .ok (.ifCond .eq 9, 3) := by decide +kernel
theorem dX12_laysCosts_56 : decode cX12_laysCosts 56 = .ok (.ldc_w 269, 3) := by decide +kernel
theorem dX12_laysCosts_59 : decode cX12_laysCosts 59 = .ok (.goto 12, 3) := by decide +kernel
theorem dX12_laysCosts_62 : decode cX12_laysCosts 62 = .ok (.aload_n 0, 1) := by decide +kernel
theorem dX12_laysCosts_63 : decode cX12_laysCosts 63 = .ok (.iload_n 1, 1) := by decide +kernel
theorem dX12_laysCosts_64 : decode cX12_laysCosts 64 = .ok (.iload_n 2, 1) := by decide +kernel
theorem dX12_laysCosts_65 : decode cX12_laysCosts 65 = .ok (.iload_n 3, 1) := by decide +kernel
theorem dX12_laysCosts_66 : decode cX12_laysCosts 66 = .ok (.iload 4, 2) := by decide +kernel
theorem dX12_laysCosts_68 : decode cX12_laysCosts 68 = .ok (.invokevirtual 238, 3) := by decide +kernel
theorem dX12_laysCosts_71 : decode cX12_laysCosts 71 = .ok (.iastore, 1) := by decide +kernel
theorem dX12_laysCosts_72 : decode cX12_laysCosts 72 = .ok (.iinc 4 1, 3) := by decide +kernel
theorem dX12_laysCosts_75 : decode cX12_laysCosts 75 = .ok (.goto (-49), 3) := by decide +kernel
theorem dX12_laysCosts_78 : decode cX12_laysCosts 78 = .ok (.iinc 3 1, 3) := by decide +kernel
theorem dX12_laysCosts_81 : decode cX12_laysCosts 81 = .ok (.goto (-66), 3) := by decide +kernel
theorem dX12_laysCosts_84 : decode cX12_laysCosts 84 = .ok (.return_, 1) := by decide +kernel
theorem dX12_laysLeast_0 : decode cX12_laysLeast 0 = .ok (.aload_n 0, 1) := by decide +kernel
theorem dX12_laysLeast_1 : decode cX12_laysLeast 1 = .ok (.iload_n 1, 1) := by decide +kernel
theorem dX12_laysLeast_2 : decode cX12_laysLeast 2 = .ok (.iload_n 2, 1) := by decide +kernel
theorem dX12_laysLeast_3 : decode cX12_laysLeast 3 = .ok (.invokevirtual 270, 3) := by decide +kernel
theorem dX12_laysLeast_6 : decode cX12_laysLeast 6 = .ok (.aload_n 0, 1) := by decide +kernel
theorem dX12_laysLeast_7 : decode cX12_laysLeast 7 = .ok (.iload_n 1, 1) := by decide +kernel
theorem dX12_laysLeast_8 : decode cX12_laysLeast 8 = .ok (.iload_n 2, 1) := by decide +kernel
theorem dX12_laysLeast_9 : decode cX12_laysLeast 9 = .ok (.invokevirtual 274, 3) := by decide +kernel
theorem dX12_laysLeast_12 : decode cX12_laysLeast 12 = .ok (.return_, 1) := by decide +kernel
theorem dX12_laysRest_0 : decode cX12_laysRest 0 = .ok (.aload_n 0, 1) := by decide +kernel
theorem dX12_laysRest_1 : decode cX12_laysRest 1 = .ok (.getfield 266, 3) := by decide +kernel
theorem dX12_laysRest_4 : decode cX12_laysRest 4 = .ok (.istore_n 3, 1) := by decide +kernel
theorem dX12_laysRest_5 : decode cX12_laysRest 5 = .ok (.iload_n 3, 1) := by decide +kernel
theorem dX12_laysRest_6 : decode cX12_laysRest 6 = .ok (.ifCond .lt 112, 3) := by decide +kernel
theorem dX12_laysRest_9 : decode cX12_laysRest 9 = .ok (.aload_n 0, 1) := by decide +kernel
theorem dX12_laysRest_10 : decode cX12_laysRest 10 = .ok (.getfield 29, 3) := by decide +kernel
theorem dX12_laysRest_13 : decode cX12_laysRest 13 = .ok (.iload_n 3, 1) := by decide +kernel
theorem dX12_laysRest_14 : decode cX12_laysRest 14 = .ok (.iload_n 3, 1) := by decide +kernel
theorem dX12_laysRest_15 : decode cX12_laysRest 15 = .ok (.aload_n 0, 1) := by decide +kernel
theorem dX12_laysRest_16 : decode cX12_laysRest 16 = .ok (.getfield 266, 3) := by decide +kernel
theorem dX12_laysRest_19 : decode cX12_laysRest 19 = .ok (.if_icmp .ne 7, 3) := by decide +kernel
theorem dX12_laysRest_22 : decode cX12_laysRest 22 = .ok (.iconst 0, 1) := by decide +kernel
theorem dX12_laysRest_23 : decode cX12_laysRest 23 = .ok (.goto 6, 3) := by decide +kernel
theorem dX12_laysRest_26 : decode cX12_laysRest 26 = .ok (.ldc_w 269, 3) := by decide +kernel
theorem dX12_laysRest_29 : decode cX12_laysRest 29 = .ok (.iastore, 1) := by decide +kernel
theorem dX12_laysRest_30 : decode cX12_laysRest 30 = .ok (.iconst 0, 1) := by decide +kernel
theorem dX12_laysRest_31 : decode cX12_laysRest 31 = .ok (.istore 4, 2) := by decide +kernel
theorem dX12_laysRest_33 : decode cX12_laysRest 33 = .ok (.iload 4, 2) := by decide +kernel
theorem dX12_laysRest_35 : decode cX12_laysRest 35 = .ok (.aload_n 0, 1) := by decide +kernel
theorem dX12_laysRest_36 : decode cX12_laysRest 36 = .ok (.iload_n 1, 1) := by decide +kernel
theorem dX12_laysRest_37 : decode cX12_laysRest 37 = .ok (.invokevirtual 63, 3) := by decide +kernel
theorem dX12_laysRest_40 : decode cX12_laysRest 40 = .ok (.if_icmp .ge 72, 3) := by decide +kernel
theorem dX12_laysRest_43 : decode cX12_laysRest 43 = .ok (.aload_n 0, 1) := by decide +kernel
theorem dX12_laysRest_44 : decode cX12_laysRest 44 = .ok (.getfield 35, 3) := by decide +kernel
theorem dX12_laysRest_47 : decode cX12_laysRest 47 = .ok (.bipush 9, 2) := by decide +kernel
theorem dX12_laysRest_49 : decode cX12_laysRest 49 = .ok (.iload_n 3, 1) := by decide +kernel
theorem dX12_laysRest_50 : decode cX12_laysRest 50 = .ok (.imul, 1) := by decide +kernel
theorem dX12_laysRest_51 : decode cX12_laysRest 51 = .ok (.iload 4, 2) := by decide +kernel
theorem dX12_laysRest_53 : decode cX12_laysRest 53 = .ok (.iadd, 1) := by decide +kernel
theorem dX12_laysRest_54 : decode cX12_laysRest 54 = .ok (.iaload, 1) := by decide +kernel
theorem dX12_laysRest_55 : decode cX12_laysRest 55 = .ok (.istore 5, 2) := by decide +kernel
theorem dX12_laysRest_57 : decode cX12_laysRest 57 = .ok (.iload_n 3, 1) := by decide +kernel
theorem dX12_laysRest_58 : decode cX12_laysRest 58 = .ok (.iload 4, 2) := by decide +kernel
theorem dX12_laysRest_60 : decode cX12_laysRest 60 = .ok (.invokestatic 166, 3) := by decide +kernel
theorem dX12_laysRest_63 : decode cX12_laysRest 63 = .ok (.ifCond .ne 43, 3) := by decide +kernel
theorem dX12_laysRest_66 : decode cX12_laysRest 66 = .ok (.iload 5, 2) := by decide +kernel
theorem dX12_laysRest_68 : decode cX12_laysRest 68 = .ok (.ldc_w 269, 3) := by decide +kernel
theorem dX12_laysRest_71 : decode cX12_laysRest 71 = .ok (.if_icmp .ge 35, 3) := by decide +kernel
theorem dX12_laysRest_74 : decode cX12_laysRest 74 = .ok (.aload_n 0, 1) := by decide +kernel
theorem dX12_laysRest_75 : decode cX12_laysRest 75 = .ok (.getfield 29, 3) := by decide +kernel
theorem dX12_laysRest_78 : decode cX12_laysRest 78 = .ok (.iload_n 3, 1) := by decide +kernel
theorem dX12_laysRest_79 : decode cX12_laysRest 79 = .ok (.aload_n 0, 1) := by decide +kernel
theorem dX12_laysRest_80 : decode cX12_laysRest 80 = .ok (.getfield 29, 3) := by decide +kernel
theorem dX12_laysRest_83 : decode cX12_laysRest 83 = .ok (.iload_n 3, 1) := by decide +kernel
theorem dX12_laysRest_84 : decode cX12_laysRest 84 = .ok (.iaload, 1) := by decide +kernel
theorem dX12_laysRest_85 : decode cX12_laysRest 85 = .ok (.iload_n 2, 1) := by decide +kernel
theorem dX12_laysRest_86 : decode cX12_laysRest 86 = .ok (.iload 5, 2) := by decide +kernel
theorem dX12_laysRest_88 : decode cX12_laysRest 88 = .ok (.aload_n 0, 1) := by decide +kernel
theorem dX12_laysRest_89 : decode cX12_laysRest 89 = .ok (.getfield 29, 3) := by decide +kernel
theorem dX12_laysRest_92 : decode cX12_laysRest 92 = .ok (.iload_n 3, 1) := by decide +kernel
theorem dX12_laysRest_93 : decode cX12_laysRest 93 = .ok (.iconst 1, 1) := by decide +kernel
theorem dX12_laysRest_94 : decode cX12_laysRest 94 = .ok (.iload 4, 2) := by decide +kernel
theorem dX12_laysRest_96 : decode cX12_laysRest 96 = .ok (.ishl, 1) := by decide +kernel
theorem dX12_laysRest_97 : decode cX12_laysRest 97 = .ok (.ior, 1) := by decide +kernel
theorem dX12_laysRest_98 : decode cX12_laysRest 98 = .ok (.iaload, 1) := by decide +kernel
theorem dX12_laysRest_99 : decode cX12_laysRest 99 = .ok (.invokestatic 242, 3) := by decide +kernel
theorem dX12_laysRest_102 : decode cX12_laysRest 102 = .ok (.invokestatic 118, 3) := by decide +kernel
theorem dX12_laysRest_105 : decode cX12_laysRest 105 = .ok (.iastore, 1) := by decide +kernel
theorem dX12_laysRest_106 : decode cX12_laysRest 106 = .ok (.iinc 4 1, 3) := by decide +kernel
theorem dX12_laysRest_109 : decode cX12_laysRest 109 = .ok (.goto (-76), 3) := by decide +kernel
theorem dX12_laysRest_112 : decode cX12_laysRest 112 = .ok (.iinc 3 (-1), 3) := by decide +kernel
theorem dX12_laysRest_115 : decode cX12_laysRest 115 = .ok (.goto (-110), 3) := by decide +kernel
theorem dX12_laysRest_118 : decode cX12_laysRest 118 = .ok (.return_, 1) := by decide +kernel
theorem dX12_laysRow_0 : decode cX12_laysRow 0 = .ok (.iconst 0, 1) := by decide +kernel
theorem dX12_laysRow_1 : decode cX12_laysRow 1 = .ok (.istore_n 2, 1) := by decide +kernel
theorem dX12_laysRow_2 : decode cX12_laysRow 2 = .ok (.iload_n 2, 1) := by decide +kernel
theorem dX12_laysRow_3 : decode cX12_laysRow 3 = .ok (.aload_n 0, 1) := by decide +kernel
theorem dX12_laysRow_4 : decode cX12_laysRow 4 = .ok (.iload_n 1, 1) := by decide +kernel
theorem dX12_laysRow_5 : decode cX12_laysRow 5 = .ok (.invokevirtual 63, 3) := by decide +kernel
theorem dX12_laysRow_8 : decode cX12_laysRow 8 = .ok (.if_icmp .ge 21, 3) := by decide +kernel
theorem dX12_laysRow_11 : decode cX12_laysRow 11 = .ok (.aload_n 0, 1) := by decide +kernel
theorem dX12_laysRow_12 : decode cX12_laysRow 12 = .ok (.getfield 26, 3) := by decide +kernel
theorem dX12_laysRow_15 : decode cX12_laysRow 15 = .ok (.iload_n 2, 1) := by decide +kernel
theorem dX12_laysRow_16 : decode cX12_laysRow 16 = .ok (.aload_n 0, 1) := by decide +kernel
theorem dX12_laysRow_17 : decode cX12_laysRow 17 = .ok (.iload_n 1, 1) := by decide +kernel
theorem dX12_laysRow_18 : decode cX12_laysRow 18 = .ok (.iload_n 2, 1) := by decide +kernel
theorem dX12_laysRow_19 : decode cX12_laysRow 19 = .ok (.invokevirtual 217, 3) := by decide +kernel
theorem dX12_laysRow_22 : decode cX12_laysRow 22 = .ok (.iastore, 1) := by decide +kernel
theorem dX12_laysRow_23 : decode cX12_laysRow 23 = .ok (.iinc 2 1, 3) := by decide +kernel
theorem dX12_laysRow_26 : decode cX12_laysRow 26 = .ok (.goto (-24), 3) := by decide +kernel
theorem dX12_laysRow_29 : decode cX12_laysRow 29 = .ok (.return_, 1) := by decide +kernel
theorem dX12_least_0 : decode cX12_least 0 = .ok (.aload_n 0, 1) := by decide +kernel
theorem dX12_least_1 : decode cX12_least 1 = .ok (.iload_n 1, 1) := by decide +kernel
theorem dX12_least_2 : decode cX12_least 2 = .ok (.invokevirtual 67, 3) := by decide +kernel
theorem dX12_least_5 : decode cX12_least 5 = .ok (.ifCond .eq 10, 3) := by decide +kernel
theorem dX12_least_8 : decode cX12_least 8 = .ok (.iload_n 2, 1) := by decide +kernel
theorem dX12_least_9 : decode cX12_least 9 = .ok (.invokestatic 245, 3) := by decide +kernel
theorem dX12_least_12 : decode cX12_least 12 = .ok (.ifCond .ne 6, 3) := by decide +kernel
theorem dX12_least_15 : decode cX12_least 15 = .ok (.bipush (-2), 2) := by decide +kernel
theorem dX12_least_17 : decode cX12_least 17 = .ok (.ireturn, 1) := by decide +kernel
theorem dX12_least_18 : decode cX12_least 18 = .ok (.iload_n 2, 1) := by decide +kernel
theorem dX12_least_19 : decode cX12_least 19 = .ok (.iconst 2, 1) := by decide +kernel
theorem dX12_least_20 : decode cX12_least 20 = .ok (.if_icmp .ne 9, 3) := by decide +kernel
theorem dX12_least_23 : decode cX12_least 23 = .ok (.aload_n 0, 1) := by decide +kernel
theorem dX12_least_24 : decode cX12_least 24 = .ok (.iload_n 1, 1) := by decide +kernel
theorem dX12_least_25 : decode cX12_least 25 = .ok (.invokevirtual 277, 3) := by decide +kernel
theorem dX12_least_28 : decode cX12_least 28 = .ok (.ireturn, 1) := by decide +kernel
theorem dX12_least_29 : decode cX12_least 29 = .ok (.aload_n 0, 1) := by decide +kernel
theorem dX12_least_30 : decode cX12_least 30 = .ok (.iload_n 1, 1) := by decide +kernel
theorem dX12_least_31 : decode cX12_least 31 = .ok (.iload_n 2, 1) := by decide +kernel
theorem dX12_least_32 : decode cX12_least 32 = .ok (.invokevirtual 280, 3) := by decide +kernel
theorem dX12_least_35 : decode cX12_least 35 = .ok (.aload_n 0, 1) := by decide +kernel
theorem dX12_least_36 : decode cX12_least 36 = .ok (.getfield 29, 3) := by decide +kernel
theorem dX12_least_39 : decode cX12_least 39 = .ok (.iconst 0, 1) := by decide +kernel
theorem dX12_least_40 : decode cX12_least 40 = .ok (.iaload, 1) := by decide +kernel
theorem dX12_least_41 : decode cX12_least 41 = .ok (.ireturn, 1) := by decide +kernel
theorem dX12_leastBand_0 : decode cX12_leastBand 0 = .ok (.iconst 0, 1) := by decide +kernel
theorem dX12_leastBand_1 : decode cX12_leastBand 1 = .ok (.istore_n 2, 1) := by decide +kernel
theorem dX12_leastBand_2 : decode cX12_leastBand 2 = .ok (.aload_n 0, 1) := by decide +kernel
theorem dX12_leastBand_3 : decode cX12_leastBand 3 = .ok (.iload_n 1, 1) := by decide +kernel
theorem dX12_leastBand_4 : decode cX12_leastBand 4 = .ok (.iload_n 2, 1) := by decide +kernel
theorem dX12_leastBand_5 : decode cX12_leastBand 5 = .ok (.iconst 1, 1) := by decide +kernel
theorem dX12_leastBand_6 : decode cX12_leastBand 6 = .ok (.invokevirtual 293, 3) := by decide +kernel
theorem dX12_leastBand_9 : decode cX12_leastBand 9 = .ok (.ifCond .ne 9, 3) := by decide +kernel
theorem dX12_leastBand_12 : decode cX12_leastBand 12 = .ok (.iinc 2 1, 3) := by decide +kernel
theorem dX12_leastBand_15 : decode cX12_leastBand 15 = .ok (.goto (-13), 3) := by decide +kernel
theorem dX12_leastBand_18 : decode cX12_leastBand 18 = .ok (.iload_n 2, 1) := by decide +kernel
theorem dX12_leastBand_19 : decode cX12_leastBand 19 = .ok (.ireturn, 1) := by decide +kernel
theorem dX12_line_0 : decode cX12_line 0 = .ok (.aload_n 0, 1) := by decide +kernel
theorem dX12_line_1 : decode cX12_line 1 = .ok (.iload_n 1, 1) := by decide +kernel
theorem dX12_line_2 : decode cX12_line 2 = .ok (.iload_n 2, 1) := by decide +kernel
theorem dX12_line_3 : decode cX12_line 3 = .ok (.invokevirtual 70, 3) := by decide +kernel
theorem dX12_line_6 : decode cX12_line 6 = .ok (.ifCond .eq 22, 3) := by decide +kernel
theorem dX12_line_9 : decode cX12_line 9 = .ok (.aload_n 0, 1) := by decide +kernel
theorem dX12_line_10 : decode cX12_line 10 = .ok (.iload_n 1, 1) := by decide +kernel
theorem dX12_line_11 : decode cX12_line 11 = .ok (.iload_n 3, 1) := by decide +kernel
theorem dX12_line_12 : decode cX12_line 12 = .ok (.invokevirtual 70, 3) := by decide +kernel
theorem dX12_line_15 : decode cX12_line 15 = .ok (.ifCond .eq 13, 3) := by decide +kernel
theorem dX12_line_18 : decode cX12_line 18 = .ok (.aload_n 0, 1) := by decide +kernel
theorem dX12_line_19 : decode cX12_line 19 = .ok (.iload_n 1, 1) := by decide +kernel
theorem dX12_line_20 : decode cX12_line 20 = .ok (.iload_n 2, 1) := by decide +kernel
theorem dX12_line_21 : decode cX12_line 21 = .ok (.iload_n 3, 1) := by decide +kernel
theorem dX12_line_22 : decode cX12_line 22 = .ok (.invokevirtual 76, 3) := by decide +kernel
theorem dX12_line_25 : decode cX12_line 25 = .ok (.goto 5, 3) := by decide +kernel
theorem dX12_line_28 : decode cX12_line 28 = .ok (.bipush (-2), 2) := by decide +kernel
theorem dX12_line_30 : decode cX12_line 30 = .ok (.ireturn, 1) := by decide +kernel
theorem dX12_lines_0 : decode cX12_lines 0 = .ok (.iconst 0, 1) := by decide +kernel
theorem dX12_lines_1 : decode cX12_lines 1 = .ok (.istore_n 2, 1) := by decide +kernel
theorem dX12_lines_2 : decode cX12_lines 2 = .ok (.iconst 0, 1) := by decide +kernel
theorem dX12_lines_3 : decode cX12_lines 3 = .ok (.istore_n 3, 1) := by decide +kernel
theorem dX12_lines_4 : decode cX12_lines 4 = .ok (.iload_n 3, 1) := by decide +kernel
theorem dX12_lines_5 : decode cX12_lines 5 = .ok (.aload_n 0, 1) := by decide +kernel
theorem dX12_lines_6 : decode cX12_lines 6 = .ok (.iload_n 1, 1) := by decide +kernel
theorem dX12_lines_7 : decode cX12_lines 7 = .ok (.invokevirtual 63, 3) := by decide +kernel
theorem dX12_lines_10 : decode cX12_lines 10 = .ok (.if_icmp .ge 21, 3) := by decide +kernel
theorem dX12_lines_13 : decode cX12_lines 13 = .ok (.iload_n 2, 1) := by decide +kernel
theorem dX12_lines_14 : decode cX12_lines 14 = .ok (.aload_n 0, 1) := by decide +kernel
theorem dX12_lines_15 : decode cX12_lines 15 = .ok (.iload_n 1, 1) := by decide +kernel
theorem dX12_lines_16 : decode cX12_lines 16 = .ok (.iload_n 3, 1) := by decide +kernel
theorem dX12_lines_17 : decode cX12_lines 17 = .ok (.invokevirtual 80, 3) := by decide +kernel
theorem dX12_lines_20 : decode cX12_lines 20 = .ok (.invokestatic 84, 3) := by decide +kernel
theorem dX12_lines_23 : decode cX12_lines 23 = .ok (.iadd, 1) := by decide +kernel
theorem dX12_lines_24 : decode cX12_lines 24 = .ok (.istore_n 2, 1) := by decide +kernel
theorem dX12_lines_25 : decode cX12_lines 25 = .ok (.iinc 3 1, 3) := by decide +kernel
theorem dX12_lines_28 : decode cX12_lines 28 = .ok (.goto (-24), 3) := by decide +kernel
theorem dX12_lines_31 : decode cX12_lines 31 = .ok (.iload_n 2, 1) := by decide +kernel
theorem dX12_lines_32 : decode cX12_lines 32 = .ok (.iconst 2, 1) := by decide +kernel
theorem dX12_lines_33 : decode cX12_lines 33 = .ok (.idiv, 1) := by decide +kernel
theorem dX12_lines_34 : decode cX12_lines 34 = .ok (.ireturn, 1) := by decide +kernel
theorem dX12_longest_0 : decode cX12_longest 0 = .ok (.aload_n 0, 1) := by decide +kernel
theorem dX12_longest_1 : decode cX12_longest 1 = .ok (.iload_n 1, 1) := by decide +kernel
theorem dX12_longest_2 : decode cX12_longest 2 = .ok (.invokevirtual 67, 3) := by decide +kernel
theorem dX12_longest_5 : decode cX12_longest 5 = .ok (.ifCond .ne 6, 3) := by decide +kernel
theorem dX12_longest_8 : decode cX12_longest 8 = .ok (.bipush (-2), 2) := by decide +kernel
theorem dX12_longest_10 : decode cX12_longest 10 = .ok (.ireturn, 1) := by decide +kernel
theorem dX12_longest_11 : decode cX12_longest 11 = .ok (.iconst (-1), 1) := by decide +kernel
theorem dX12_longest_12 : decode cX12_longest 12 = .ok (.istore_n 2, 1) := by decide +kernel
theorem dX12_longest_13 : decode cX12_longest 13 = .ok (.iconst 0, 1) := by decide +kernel
theorem dX12_longest_14 : decode cX12_longest 14 = .ok (.istore_n 3, 1) := by decide +kernel
theorem dX12_longest_15 : decode cX12_longest 15 = .ok (.iconst 0, 1) := by decide +kernel
theorem dX12_longest_16 : decode cX12_longest 16 = .ok (.istore 4, 2) := by decide +kernel
theorem dX12_longest_18 : decode cX12_longest 18 = .ok (.iload 4, 2) := by decide +kernel
theorem dX12_longest_20 : decode cX12_longest 20 = .ok (.aload_n 0, 1) := by decide +kernel
theorem dX12_longest_21 : decode cX12_longest 21 = .ok (.iload_n 1, 1) := by decide +kernel
theorem dX12_longest_22 : decode cX12_longest 22 = .ok (.invokevirtual 63, 3) := by decide +kernel
theorem dX12_longest_25 : decode cX12_longest 25 = .ok (.if_icmp .ge 81, 3) := by decide +kernel
theorem dX12_longest_28 : decode cX12_longest 28 = .ok (.iload 4, 2) := by decide +kernel
theorem dX12_longest_30 : decode cX12_longest 30 = .ok (.iconst 1, 1) := by decide +kernel
theorem dX12_longest_31 : decode cX12_longest 31 = .ok (.iadd, 1) := by decide +kernel
theorem dX12_longest_32 : decode cX12_longest 32 = .ok (.istore 5, 2) := by decide +kernel
theorem dX12_longest_34 : decode cX12_longest 34 = .ok (.iload 5, 2) := by decide +kernel
theorem dX12_longest_36 : decode cX12_longest 36 = .ok (.aload_n 0, 1) := by decide +kernel
theorem dX12_longest_37 : decode cX12_longest 37 = .ok (.iload_n 1, 1) := by decide +kernel
theorem dX12_longest_38 : decode cX12_longest 38 = .ok (.invokevirtual 63, 3) := by decide +kernel
theorem dX12_longest_41 : decode cX12_longest 41 = .ok (.if_icmp .ge 59, 3) := by decide +kernel
theorem dX12_longest_44 : decode cX12_longest 44 = .ok (.aload_n 0, 1) := by decide +kernel
theorem dX12_longest_45 : decode cX12_longest 45 = .ok (.iload_n 1, 1) := by decide +kernel
theorem dX12_longest_46 : decode cX12_longest 46 = .ok (.iload 4, 2) := by decide +kernel
theorem dX12_longest_48 : decode cX12_longest 48 = .ok (.invokevirtual 220, 3) := by decide +kernel
theorem dX12_longest_51 : decode cX12_longest 51 = .ok (.aload_n 0, 1) := by decide +kernel
theorem dX12_longest_52 : decode cX12_longest 52 = .ok (.iload_n 1, 1) := by decide +kernel
theorem dX12_longest_53 : decode cX12_longest 53 = .ok (.iload 5, 2) := by decide +kernel
theorem dX12_longest_55 : decode cX12_longest 55 = .ok (.invokevirtual 220, 3) := by decide +kernel
theorem dX12_longest_58 : decode cX12_longest 58 = .ok (.isub, 1) := by decide +kernel
theorem dX12_longest_59 : decode cX12_longest 59 = .ok (.invokestatic 263, 3) := by decide +kernel
theorem dX12_longest_62 : decode cX12_longest 62 = .ok (.istore 6, 2) := by decide +kernel
theorem dX12_longest_64 : decode cX12_longest 64 = .ok (.aload_n 0, 1) := by decide +kernel
theorem dX12_longest_65 : decode cX12_longest 65 = .ok (.iload_n 1, 1) := by decide +kernel
theorem dX12_longest_66 : decode cX12_longest 66 = .ok (.iload 4, 2) := by decide +kernel
theorem dX12_longest_68 : decode cX12_longest 68 = .ok (.iload 5, 2) := by decide +kernel
theorem dX12_longest_70 : decode cX12_longest 70 = .ok (.invokevirtual 76, 3) := by decide +kernel
theorem dX12_longest_73 : decode cX12_longest 73 = .ok (.ifCond .le 21, 3) := by decide +kernel
theorem dX12_longest_76 : decode cX12_longest 76 = .ok (.iload 6, 2) := by decide +kernel
theorem dX12_longest_78 : decode cX12_longest 78 = .ok (.iload_n 3, 1) := by decide +kernel
theorem dX12_longest_79 : decode cX12_longest 79 = .ok (.if_icmp .le 15, 3) := by decide +kernel
theorem dX12_longest_82 : decode cX12_longest 82 = .ok (.iload 6, 2) := by decide +kernel
theorem dX12_longest_84 : decode cX12_longest 84 = .ok (.istore_n 3, 1) := by decide +kernel
theorem dX12_longest_85 : decode cX12_longest 85 = .ok (.bipush 10, 2) := by decide +kernel
theorem dX12_longest_87 : decode cX12_longest 87 = .ok (.iload 4, 2) := by decide +kernel
theorem dX12_longest_89 : decode cX12_longest 89 = .ok (.imul, 1) := by decide +kernel
theorem dX12_longest_90 : decode cX12_longest 90 = .ok (.iload 5, 2) := by decide +kernel
theorem dX12_longest_92 : decode cX12_longest 92 = .ok (.iadd, 1) := by decide +kernel
theorem dX12_longest_93 : decode cX12_longest 93 = .ok (.istore_n 2, 1) := by decide +kernel
theorem dX12_longest_94 : decode cX12_longest 94 = .ok (.iinc 5 1, 3) := by decide +kernel
theorem dX12_longest_97 : decode cX12_longest 97 = .ok (.goto (-63), 3) := by decide +kernel
theorem dX12_longest_100 : decode cX12_longest 100 = .ok (.iinc 4 1, 3) := by decide +kernel
theorem dX12_longest_103 : decode cX12_longest 103 = .ok (.goto (-85), 3) := by decide +kernel
theorem dX12_longest_106 : decode cX12_longest 106 = .ok (.iload_n 2, 1) := by decide +kernel
theorem dX12_longest_107 : decode cX12_longest 107 = .ok (.ireturn, 1) := by decide +kernel
theorem dX12_look_0 : decode cX12_look 0 = .ok (.aload_n 0, 1) := by decide +kernel
theorem dX12_look_1 : decode cX12_look 1 = .ok (.iload_n 1, 1) := by decide +kernel
theorem dX12_look_2 : decode cX12_look 2 = .ok (.invokevirtual 67, 3) := by decide +kernel
theorem dX12_look_5 : decode cX12_look 5 = .ok (.ifCond .eq 15, 3) := by decide +kernel
theorem dX12_look_8 : decode cX12_look 8 = .ok (.iload_n 2, 1) := by decide +kernel
theorem dX12_look_9 : decode cX12_look 9 = .ok (.i2l, 1) := by decide +kernel
theorem dX12_look_10 : decode cX12_look 10 = .ok (.lconst 0, 1) := by decide +kernel
theorem dX12_look_11 : decode cX12_look 11 = .ok (.ldc2_w 74, 3) := by decide +kernel
theorem dX12_look_14 : decode cX12_look 14 = .ok (.invokestatic 55, 3) := by decide +kernel
theorem dX12_look_17 : decode cX12_look 17 = .ok (.ifCond .ne 6, 3) := by decide +kernel
theorem dX12_look_20 : decode cX12_look 20 = .ok (.bipush (-2), 2) := by decide +kernel
theorem dX12_look_22 : decode cX12_look 22 = .ok (.ireturn, 1) := by decide +kernel
theorem dX12_look_23 : decode cX12_look 23 = .ok (.iconst 0, 1) := by decide +kernel
theorem dX12_look_24 : decode cX12_look 24 = .ok (.istore_n 3, 1) := by decide +kernel
theorem dX12_look_25 : decode cX12_look 25 = .ok (.iconst 0, 1) := by decide +kernel
theorem dX12_look_26 : decode cX12_look 26 = .ok (.istore 4, 2) := by decide +kernel
theorem dX12_look_28 : decode cX12_look 28 = .ok (.iload 4, 2) := by decide +kernel
theorem dX12_look_30 : decode cX12_look 30 = .ok (.aload_n 0, 1) := by decide +kernel
theorem dX12_look_31 : decode cX12_look 31 = .ok (.iload_n 1, 1) := by decide +kernel
theorem dX12_look_32 : decode cX12_look 32 = .ok (.invokevirtual 63, 3) := by decide +kernel
theorem dX12_look_35 : decode cX12_look 35 = .ok (.if_icmp .ge 19, 3) := by decide +kernel
theorem dX12_look_38 : decode cX12_look 38 = .ok (.iload_n 3, 1) := by decide +kernel
theorem dX12_look_39 : decode cX12_look 39 = .ok (.aload_n 0, 1) := by decide +kernel
theorem dX12_look_40 : decode cX12_look 40 = .ok (.iload_n 1, 1) := by decide +kernel
theorem dX12_look_41 : decode cX12_look 41 = .ok (.iload 4, 2) := by decide +kernel
theorem dX12_look_43 : decode cX12_look 43 = .ok (.invokevirtual 202, 3) := by decide +kernel
theorem dX12_look_46 : decode cX12_look 46 = .ok (.iadd, 1) := by decide +kernel
theorem dX12_look_47 : decode cX12_look 47 = .ok (.istore_n 3, 1) := by decide +kernel
theorem dX12_look_48 : decode cX12_look 48 = .ok (.iinc 4 1, 3) := by decide +kernel
theorem dX12_look_51 : decode cX12_look 51 = .ok (.goto (-23), 3) := by decide +kernel
theorem dX12_look_54 : decode cX12_look 54 = .ok (.iload_n 2, 1) := by decide +kernel
theorem dX12_look_55 : decode cX12_look 55 = .ok (.tableswitch 71 0 5 #[37, 43, 49, 53, 59, 65], 37) := by decide +kernel
theorem dX12_look_92 : decode cX12_look 92 = .ok (.aload_n 0, 1) := by decide +kernel
theorem dX12_look_93 : decode cX12_look 93 = .ok (.iload_n 1, 1) := by decide +kernel
theorem dX12_look_94 : decode cX12_look 94 = .ok (.invokevirtual 63, 3) := by decide +kernel
theorem dX12_look_97 : decode cX12_look 97 = .ok (.ireturn, 1) := by decide +kernel
theorem dX12_look_98 : decode cX12_look 98 = .ok (.aload_n 0, 1) := by decide +kernel
theorem dX12_look_99 : decode cX12_look 99 = .ok (.iload_n 1, 1) := by decide +kernel
theorem dX12_look_100 : decode cX12_look 100 = .ok (.invokevirtual 152, 3) := by decide +kernel
theorem dX12_look_103 : decode cX12_look 103 = .ok (.ireturn, 1) := by decide +kernel
theorem dX12_look_104 : decode cX12_look 104 = .ok (.iload_n 3, 1) := by decide +kernel
theorem dX12_look_105 : decode cX12_look 105 = .ok (.iconst 2, 1) := by decide +kernel
theorem dX12_look_106 : decode cX12_look 106 = .ok (.idiv, 1) := by decide +kernel
theorem dX12_look_107 : decode cX12_look 107 = .ok (.ireturn, 1) := by decide +kernel
theorem dX12_look_108 : decode cX12_look 108 = .ok (.aload_n 0, 1) := by decide +kernel
theorem dX12_look_109 : decode cX12_look 109 = .ok (.iload_n 1, 1) := by decide +kernel
theorem dX12_look_110 : decode cX12_look 110 = .ok (.invokevirtual 205, 3) := by decide +kernel
theorem dX12_look_113 : decode cX12_look 113 = .ok (.ireturn, 1) := by decide +kernel
theorem dX12_look_114 : decode cX12_look 114 = .ok (.aload_n 0, 1) := by decide +kernel
theorem dX12_look_115 : decode cX12_look 115 = .ok (.iload_n 1, 1) := by decide +kernel
theorem dX12_look_116 : decode cX12_look 116 = .ok (.invokevirtual 208, 3) := by decide +kernel
theorem dX12_look_119 : decode cX12_look 119 = .ok (.ireturn, 1) := by decide +kernel
theorem dX12_look_120 : decode cX12_look 120 = .ok (.aload_n 0, 1) := by decide +kernel
theorem dX12_look_121 : decode cX12_look 121 = .ok (.iload_n 1, 1) := by decide +kernel
theorem dX12_look_122 : decode cX12_look 122 = .ok (.invokevirtual 211, 3) := by decide +kernel
theorem dX12_look_125 : decode cX12_look 125 = .ok (.ireturn, 1) := by decide +kernel
theorem dX12_look_126 : decode cX12_look 126 = .ok (.aload_n 0, 1) := by decide +kernel
theorem dX12_look_127 : decode cX12_look 127 = .ok (.iload_n 1, 1) := by decide +kernel
theorem dX12_look_128 : decode cX12_look 128 = .ok (.invokevirtual 214, 3) := by decide +kernel
theorem dX12_look_131 : decode cX12_look 131 = .ok (.ireturn, 1) := by decide +kernel
theorem dX12_merges_0 : decode cX12_merges 0 = .ok (.aload_n 0, 1) := by decide +kernel
theorem dX12_merges_1 : decode cX12_merges 1 = .ok (.iload_n 1, 1) := by decide +kernel
theorem dX12_merges_2 : decode cX12_merges 2 = .ok (.iload_n 2, 1) := by decide +kernel
theorem dX12_merges_3 : decode cX12_merges 3 = .ok (.iload_n 3, 1) := by decide +kernel
theorem dX12_merges_4 : decode cX12_merges 4 = .ok (.invokevirtual 326, 3) := by decide +kernel
theorem dX12_merges_7 : decode cX12_merges 7 = .ok (.ifCond .ne 6, 3) := by decide +kernel
theorem dX12_merges_10 : decode cX12_merges 10 = .ok (.bipush (-2), 2) := by decide +kernel
theorem dX12_merges_12 : decode cX12_merges 12 = .ok (.ireturn, 1) := by decide +kernel
theorem dX12_merges_13 : decode cX12_merges 13 = .ok (.aload_n 0, 1) := by decide +kernel
theorem dX12_merges_14 : decode cX12_merges 14 = .ok (.iload_n 1, 1) := by decide +kernel
theorem dX12_merges_15 : decode cX12_merges 15 = .ok (.iload_n 2, 1) := by decide +kernel
theorem dX12_merges_16 : decode cX12_merges 16 = .ok (.iload_n 3, 1) := by decide +kernel
theorem dX12_merges_17 : decode cX12_merges 17 = .ok (.invokevirtual 76, 3) := by decide +kernel
theorem dX12_merges_20 : decode cX12_merges 20 = .ok (.ifCond .ne 6, 3) := by decide +kernel
theorem dX12_merges_23 : decode cX12_merges 23 = .ok (.bipush (-6), 2) := by decide +kernel
theorem dX12_merges_25 : decode cX12_merges 25 = .ok (.ireturn, 1) := by decide +kernel
theorem dX12_merges_26 : decode cX12_merges 26 = .ok (.iload_n 2, 1) := by decide +kernel
theorem dX12_merges_27 : decode cX12_merges 27 = .ok (.iload_n 3, 1) := by decide +kernel
theorem dX12_merges_28 : decode cX12_merges 28 = .ok (.invokestatic 118, 3) := by decide +kernel
theorem dX12_merges_31 : decode cX12_merges 31 = .ok (.istore 4, 2) := by decide +kernel
theorem dX12_merges_33 : decode cX12_merges 33 = .ok (.iload_n 2, 1) := by decide +kernel
theorem dX12_merges_34 : decode cX12_merges 34 = .ok (.iload_n 3, 1) := by decide +kernel
theorem dX12_merges_35 : decode cX12_merges 35 = .ok (.invokestatic 199, 3) := by decide +kernel
theorem dX12_merges_38 : decode cX12_merges 38 = .ok (.istore 5, 2) := by decide +kernel
theorem dX12_merges_40 : decode cX12_merges 40 = .ok (.aload_n 0, 1) := by decide +kernel
theorem dX12_merges_41 : decode cX12_merges 41 = .ok (.iload_n 1, 1) := by decide +kernel
theorem dX12_merges_42 : decode cX12_merges 42 = .ok (.invokevirtual 63, 3) := by decide +kernel
theorem dX12_merges_45 : decode cX12_merges 45 = .ok (.istore 6, 2) := by decide +kernel
theorem dX12_merges_47 : decode cX12_merges 47 = .ok (.aload_n 0, 1) := by decide +kernel
theorem dX12_merges_48 : decode cX12_merges 48 = .ok (.invokevirtual 93, 3) := by decide +kernel
theorem dX12_merges_51 : decode cX12_merges 51 = .ok (.iconst 0, 1) := by decide +kernel
theorem dX12_merges_52 : decode cX12_merges 52 = .ok (.istore 7, 2) := by decide +kernel
theorem dX12_merges_54 : decode cX12_merges 54 = .ok (.iload 7, 2) := by decide +kernel
theorem dX12_merges_56 : decode cX12_merges 56 = .ok (.bipush 81, 2) := by decide +kernel
theorem dX12_merges_58 : decode cX12_merges 58 = .ok (.if_icmp .ge 17, 3) := by decide +kernel
theorem dX12_merges_61 : decode cX12_merges 61 = .ok (.aload_n 0, 1) := by decide +kernel
theorem dX12_merges_62 : decode cX12_merges 62 = .ok (.getfield 47, 3) := by decide +kernel
theorem dX12_merges_65 : decode cX12_merges 65 = .ok (.iload 7, 2) := by decide +kernel
theorem dX12_merges_67 : decode cX12_merges 67 = .ok (.iconst 0, 1) := by decide +kernel
theorem dX12_merges_68 : decode cX12_merges 68 = .ok (.iastore, 1) := by decide +kernel
theorem dX12_merges_69 : decode cX12_merges 69 = .ok (.iinc 7 1, 3) := by decide +kernel
theorem dX12_merges_72 : decode cX12_merges 72 = .ok (.goto (-18), 3) := by decide +kernel
theorem dX12_merges_75 : decode cX12_merges 75 = .ok (.iconst 0, 1) := by decide +kernel
theorem dX12_merges_76 : decode cX12_merges 76 = .ok (.istore 7, 2) := by decide +kernel
theorem dX12_merges_78 : decode cX12_merges 78 = .ok (.iload 7, 2) := by decide +kernel
theorem dX12_merges_80 : decode cX12_merges 80 = .ok (.iload 6, 2) := by decide +kernel
theorem dX12_merges_82 : decode cX12_merges 82 = .ok (.if_icmp .ge 135, 3) := by decide +kernel
theorem dX12_merges_85 : decode cX12_merges 85 = .ok (.iconst 0, 1) := by decide +kernel
theorem dX12_merges_86 : decode cX12_merges 86 = .ok (.istore 8, 2) := by decide +kernel
theorem dX12_merges_88 : decode cX12_merges 88 = .ok (.iload 8, 2) := by decide +kernel
theorem dX12_merges_90 : decode cX12_merges 90 = .ok (.iload 6, 2) := by decide +kernel
theorem dX12_merges_92 : decode cX12_merges 92 = .ok (.if_icmp .ge 119, 3) := by decide +kernel
theorem dX12_merges_95 : decode cX12_merges 95 = .ok (.iload 7, 2) := by decide +kernel
theorem dX12_merges_97 : decode cX12_merges 97 = .ok (.iload 5, 2) := by decide +kernel
theorem dX12_merges_99 : decode cX12_merges 99 = .ok (.if_icmp .ne 8, 3) := by decide +kernel
theorem dX12_merges_102 : decode cX12_merges 102 = .ok (.iload 4, 2) := by decide +kernel
theorem dX12_merges_104 : decode cX12_merges 104 = .ok (.goto 19, 3) := by decide +kernel
theorem dX12_merges_107 : decode cX12_merges 107 = .ok (.iload 7, 2) := by decide +kernel
theorem dX12_merges_109 : decode cX12_merges 109 = .ok (.iload 5, 2) := by decide +kernel
theorem dX12_merges_111 : decode cX12_merges 111 = .ok (.if_icmp .le 10, 3) := by decide +kernel
theorem dX12_merges_114 : decode cX12_merges 114 = .ok (.iload 7, 2) := by decide +kernel
theorem dX12_merges_116 : decode cX12_merges 116 = .ok (.iconst 1, 1) := by decide +kernel
theorem dX12_merges_117 : decode cX12_merges 117 = .ok (.isub, 1) := by decide +kernel
theorem dX12_merges_118 : decode cX12_merges 118 = .ok (.goto 5, 3) := by decide +kernel
theorem dX12_merges_121 : decode cX12_merges 121 = .ok (.iload 7, 2) := by decide +kernel
theorem dX12_merges_123 : decode cX12_merges 123 = .ok (.istore 9, 2) := by decide +kernel
theorem dX12_merges_125 : decode cX12_merges 125 = .ok (.iload 8, 2) := by decide +kernel
theorem dX12_merges_127 : decode cX12_merges 127 = .ok (.iload 5, 2) := by decide +kernel
theorem dX12_merges_129 : decode cX12_merges 129 = .ok (.if_icmp .ne 8, 3) := by decide +kernel
theorem dX12_merges_132 : decode cX12_merges 132 = .ok (.iload 4, 2) := by decide +kernel
theorem dX12_merges_134 : decode cX12_merges 134 = .ok (.goto 19, 3) := by decide +kernel
theorem dX12_merges_137 : decode cX12_merges 137 = .ok (.iload 8, 2) := by decide +kernel
theorem dX12_merges_139 : decode cX12_merges 139 = .ok (.iload 5, 2) := by decide +kernel
theorem dX12_merges_141 : decode cX12_merges 141 = .ok (.if_icmp .le 10, 3) := by decide +kernel
theorem dX12_merges_144 : decode cX12_merges 144 = .ok (.iload 8, 2) := by decide +kernel
theorem dX12_merges_146 : decode cX12_merges 146 = .ok (.iconst 1, 1) := by decide +kernel
theorem dX12_merges_147 : decode cX12_merges 147 = .ok (.isub, 1) := by decide +kernel
theorem dX12_merges_148 : decode cX12_merges 148 = .ok (.goto 5, 3) := by decide +kernel
theorem dX12_merges_151 : decode cX12_merges 151 = .ok (.iload 8, 2) := by decide +kernel
theorem dX12_merges_153 : decode cX12_merges 153 = .ok (.istore 10, 2) := by decide +kernel
theorem dX12_merges_155 : decode cX12_merges 155 = .ok (.bipush 9, 2) := by decide +kernel
theorem dX12_merges_157 : decode cX12_merges 157 = .ok (.iload 9, 2) := by decide +kernel
theorem dX12_merges_159 : decode cX12_merges 159 = .ok (.imul, 1) := by decide +kernel
theorem dX12_merges_160 : decode cX12_merges 160 = .ok (.iload 10, 2) := by decide +kernel
theorem dX12_merges_162 : decode cX12_merges 162 = .ok (.iadd, 1) := by decide +kernel
theorem dX12_merges_163 : decode cX12_merges 163 = .ok (.istore 11, 2) := by decide +kernel
theorem dX12_merges_165 : decode cX12_merges 165 = .ok (.aload_n 0, 1) := by decide +kernel
theorem dX12_merges_166 : decode cX12_merges 166 = .ok (.getfield 47, 3) := by decide +kernel
theorem dX12_merges_169 : decode cX12_merges 169 = .ok (.iload 11, 2) := by decide +kernel
theorem dX12_merges_171 : decode cX12_merges 171 = .ok (.iload 9, 2) := by decide +kernel
theorem dX12_merges_173 : decode cX12_merges 173 = .ok (.iload 10, 2) := by decide +kernel
theorem dX12_merges_175 : decode cX12_merges 175 = .ok (.if_icmp .ne 7, 3) := by decide +kernel
theorem dX12_merges_178 : decode cX12_merges 178 = .ok (.iconst 0, 1) := by decide +kernel
theorem dX12_merges_179 : decode cX12_merges 179 = .ok (.goto 25, 3) := by decide +kernel
theorem dX12_merges_182 : decode cX12_merges 182 = .ok (.bipush 9, 2) := by decide +kernel
theorem dX12_merges_184 : decode cX12_merges 184 = .ok (.aload_n 0, 1) := by decide +kernel
theorem dX12_merges_185 : decode cX12_merges 185 = .ok (.getfield 47, 3) := by decide +kernel
theorem dX12_merges_188 : decode cX12_merges 188 = .ok (.iload 11, 2) := by decide +kernel
theorem dX12_merges_190 : decode cX12_merges 190 = .ok (.iaload, 1) := by decide +kernel
theorem dX12_merges_191 : decode cX12_merges 191 = .ok (.aload_n 0, 1) := by decide +kernel
theorem dX12_merges_192 : decode cX12_merges 192 = .ok (.iload_n 1, 1) := by decide +kernel
theorem dX12_merges_193 : decode cX12_merges 193 = .ok (.iload 7, 2) := by decide +kernel
theorem dX12_merges_195 : decode cX12_merges 195 = .ok (.iload 8, 2) := by decide +kernel
theorem dX12_merges_197 : decode cX12_merges 197 = .ok (.invokevirtual 76, 3) := by decide +kernel
theorem dX12_merges_200 : decode cX12_merges 200 = .ok (.iadd, 1) := by decide +kernel
theorem dX12_merges_201 : decode cX12_merges 201 = .ok (.invokestatic 118, 3) := by decide +kernel
theorem dX12_merges_204 : decode cX12_merges 204 = .ok (.iastore, 1) := by decide +kernel
theorem dX12_merges_205 : decode cX12_merges 205 = .ok (.iinc 8 1, 3) := by decide +kernel
theorem dX12_merges_208 : decode cX12_merges 208 = .ok (.goto (-120), 3) := by decide +kernel
theorem dX12_merges_211 : decode cX12_merges 211 = .ok (.iinc 7 1, 3) := by decide +kernel
theorem dX12_merges_214 : decode cX12_merges 214 = .ok (.goto (-136), 3) := by decide +kernel
theorem dX12_merges_217 : decode cX12_merges 217 = .ok (.iconst 0, 1) := by decide +kernel
theorem dX12_merges_218 : decode cX12_merges 218 = .ok (.istore 7, 2) := by decide +kernel
theorem dX12_merges_220 : decode cX12_merges 220 = .ok (.iconst 0, 1) := by decide +kernel
theorem dX12_merges_221 : decode cX12_merges 221 = .ok (.istore 8, 2) := by decide +kernel
theorem dX12_merges_223 : decode cX12_merges 223 = .ok (.iload 8, 2) := by decide +kernel
theorem dX12_merges_225 : decode cX12_merges 225 = .ok (.iload 6, 2) := by decide +kernel
theorem dX12_merges_227 : decode cX12_merges 227 = .ok (.if_icmp .ge 51, 3) := by decide +kernel
theorem dX12_merges_230 : decode cX12_merges 230 = .ok (.aload_n 0, 1) := by decide +kernel
theorem dX12_merges_231 : decode cX12_merges 231 = .ok (.iload_n 1, 1) := by decide +kernel
theorem dX12_merges_232 : decode cX12_merges 232 = .ok (.iload 8, 2) := by decide +kernel
theorem dX12_merges_234 : decode cX12_merges 234 = .ok (.invokevirtual 217, 3) := by decide +kernel
theorem dX12_merges_237 : decode cX12_merges 237 = .ok (.istore 9, 2) := by decide +kernel
theorem dX12_merges_239 : decode cX12_merges 239 = .ok (.iload 9, 2) := by decide +kernel
theorem dX12_merges_241 : decode cX12_merges 241 = .ok (.iload 5, 2) := by decide +kernel
theorem dX12_merges_243 : decode cX12_merges 243 = .ok (.if_icmp .eq 29, 3) := by decide +kernel
theorem dX12_merges_246 : decode cX12_merges 246 = .ok (.aload_n 0, 1) := by decide +kernel
theorem dX12_merges_247 : decode cX12_merges 247 = .ok (.getfield 26, 3) := by decide +kernel
theorem dX12_merges_250 : decode cX12_merges 250 = .ok (.iload 7, 2) := by decide +kernel
theorem dX12_merges_252 : decode cX12_merges 252 = .ok (.iload 9, 2) := by decide +kernel
theorem dX12_merges_254 : decode cX12_merges 254 = .ok (.iload 5, 2) := by decide +kernel
theorem dX12_merges_256 : decode cX12_merges 256 = .ok (.if_icmp .le 10, 3) := by decide +kernel
theorem dX12_merges_259 : decode cX12_merges 259 = .ok (.iload 9, 2) := by decide +kernel
theorem dX12_merges_261 : decode cX12_merges 261 = .ok (.iconst 1, 1) := by decide +kernel
theorem dX12_merges_262 : decode cX12_merges 262 = .ok (.isub, 1) := by decide +kernel
theorem dX12_merges_263 : decode cX12_merges 263 = .ok (.goto 5, 3) := by decide +kernel
theorem dX12_merges_266 : decode cX12_merges 266 = .ok (.iload 9, 2) := by decide +kernel
theorem dX12_merges_268 : decode cX12_merges 268 = .ok (.iastore, 1) := by decide +kernel
theorem dX12_merges_269 : decode cX12_merges 269 = .ok (.iinc 7 1, 3) := by decide +kernel
theorem dX12_merges_272 : decode cX12_merges 272 = .ok (.iinc 8 1, 3) := by decide +kernel
theorem dX12_merges_275 : decode cX12_merges 275 = .ok (.goto (-52), 3) := by decide +kernel
theorem dX12_merges_278 : decode cX12_merges 278 = .ok (.aload_n 0, 1) := by decide +kernel
theorem dX12_merges_279 : decode cX12_merges 279 = .ok (.iload_n 1, 1) := by decide +kernel
theorem dX12_merges_280 : decode cX12_merges 280 = .ok (.invokevirtual 96, 3) := by decide +kernel
theorem dX12_merges_283 : decode cX12_merges 283 = .ok (.aload_n 0, 1) := by decide +kernel
theorem dX12_merges_284 : decode cX12_merges 284 = .ok (.getfield 7, 3) := by decide +kernel
theorem dX12_merges_287 : decode cX12_merges 287 = .ok (.bipush 91, 2) := by decide +kernel
theorem dX12_merges_289 : decode cX12_merges 289 = .ok (.iload_n 1, 1) := by decide +kernel
theorem dX12_merges_290 : decode cX12_merges 290 = .ok (.imul, 1) := by decide +kernel
theorem dX12_merges_291 : decode cX12_merges 291 = .ok (.iload 6, 2) := by decide +kernel
theorem dX12_merges_293 : decode cX12_merges 293 = .ok (.iconst 1, 1) := by decide +kernel
theorem dX12_merges_294 : decode cX12_merges 294 = .ok (.isub, 1) := by decide +kernel
theorem dX12_merges_295 : decode cX12_merges 295 = .ok (.iastore, 1) := by decide +kernel
theorem dX12_merges_296 : decode cX12_merges 296 = .ok (.iconst 0, 1) := by decide +kernel
theorem dX12_merges_297 : decode cX12_merges 297 = .ok (.istore 8, 2) := by decide +kernel
theorem dX12_merges_299 : decode cX12_merges 299 = .ok (.iload 8, 2) := by decide +kernel
theorem dX12_merges_301 : decode cX12_merges 301 = .ok (.bipush 81, 2) := by decide +kernel
theorem dX12_merges_303 : decode cX12_merges 303 = .ok (.if_icmp .ge 30, 3) := by decide +kernel
theorem dX12_merges_306 : decode cX12_merges 306 = .ok (.aload_n 0, 1) := by decide +kernel
theorem dX12_merges_307 : decode cX12_merges 307 = .ok (.getfield 7, 3) := by decide +kernel
theorem dX12_merges_310 : decode cX12_merges 310 = .ok (.bipush 91, 2) := by decide +kernel
theorem dX12_merges_312 : decode cX12_merges 312 = .ok (.iload_n 1, 1) := by decide +kernel
theorem dX12_merges_313 : decode cX12_merges 313 = .ok (.imul, 1) := by decide +kernel
theorem dX12_merges_314 : decode cX12_merges 314 = .ok (.iconst 1, 1) := by decide +kernel
theorem dX12_merges_315 : decode cX12_merges 315 = .ok (.iadd, 1) := by decide +kernel
theorem dX12_merges_316 : decode cX12_merges 316 = .ok (.iload 8, 2) := by decide +kernel
theorem dX12_merges_318 : decode cX12_merges 318 = .ok (.iadd, 1) := by decide +kernel
theorem dX12_merges_319 : decode cX12_merges 319 = .ok (.aload_n 0, 1) := by decide +kernel
theorem dX12_merges_320 : decode cX12_merges 320 = .ok (.getfield 47, 3) := by decide +kernel
theorem dX12_merges_323 : decode cX12_merges 323 = .ok (.iload 8, 2) := by decide +kernel
theorem dX12_merges_325 : decode cX12_merges 325 = .ok (.iaload, 1) := by decide +kernel
theorem dX12_merges_326 : decode cX12_merges 326 = .ok (.iastore, 1) := by decide +kernel
theorem dX12_merges_327 : decode cX12_merges 327 = .ok (.iinc 8 1, 3) := by decide +kernel
theorem dX12_merges_330 : decode cX12_merges 330 = .ok (.goto (-31), 3) := by decide +kernel
theorem dX12_merges_333 : decode cX12_merges 333 = .ok (.iconst 0, 1) := by decide +kernel
theorem dX12_merges_334 : decode cX12_merges 334 = .ok (.istore 8, 2) := by decide +kernel
theorem dX12_merges_336 : decode cX12_merges 336 = .ok (.iload 8, 2) := by decide +kernel
theorem dX12_merges_338 : decode cX12_merges 338 = .ok (.iload 6, 2) := by decide +kernel
theorem dX12_merges_340 : decode cX12_merges 340 = .ok (.iconst 1, 1) := by decide +kernel
theorem dX12_merges_341 : decode cX12_merges 341 = .ok (.isub, 1) := by decide +kernel
theorem dX12_merges_342 : decode cX12_merges 342 = .ok (.if_icmp .ge 23, 3) := by decide +kernel
theorem dX12_merges_345 : decode cX12_merges 345 = .ok (.aload_n 0, 1) := by decide +kernel
theorem dX12_merges_346 : decode cX12_merges 346 = .ok (.iload_n 1, 1) := by decide +kernel
theorem dX12_merges_347 : decode cX12_merges 347 = .ok (.iload 8, 2) := by decide +kernel
theorem dX12_merges_349 : decode cX12_merges 349 = .ok (.aload_n 0, 1) := by decide +kernel
theorem dX12_merges_350 : decode cX12_merges 350 = .ok (.getfield 26, 3) := by decide +kernel
theorem dX12_merges_353 : decode cX12_merges 353 = .ok (.iload 8, 2) := by decide +kernel
theorem dX12_merges_355 : decode cX12_merges 355 = .ok (.iaload, 1) := by decide +kernel
theorem dX12_merges_356 : decode cX12_merges 356 = .ok (.invokevirtual 169, 3) := by decide +kernel
theorem dX12_merges_359 : decode cX12_merges 359 = .ok (.iinc 8 1, 3) := by decide +kernel
theorem dX12_merges_362 : decode cX12_merges 362 = .ok (.goto (-26), 3) := by decide +kernel
theorem dX12_merges_365 : decode cX12_merges 365 = .ok (.aload_n 0, 1) := by decide +kernel
theorem dX12_merges_366 : decode cX12_merges 366 = .ok (.iload 6, 2) := by decide +kernel
theorem dX12_merges_368 : decode cX12_merges 368 = .ok (.iconst 1, 1) := by decide +kernel
theorem dX12_merges_369 : decode cX12_merges 369 = .ok (.isub, 1) := by decide +kernel
theorem dX12_merges_370 : decode cX12_merges 370 = .ok (.invokevirtual 90, 3) := by decide +kernel
theorem dX12_merges_373 : decode cX12_merges 373 = .ok (.ireturn, 1) := by decide +kernel
theorem dX12_minor_0 : decode cX12_minor 0 = .ok (.aload_n 0, 1) := by decide +kernel
theorem dX12_minor_1 : decode cX12_minor 1 = .ok (.iload_n 1, 1) := by decide +kernel
theorem dX12_minor_2 : decode cX12_minor 2 = .ok (.invokevirtual 67, 3) := by decide +kernel
theorem dX12_minor_5 : decode cX12_minor 5 = .ok (.ifCond .ne 6, 3) := by decide +kernel
theorem dX12_minor_8 : decode cX12_minor 8 = .ok (.bipush (-2), 2) := by decide +kernel
theorem dX12_minor_10 : decode cX12_minor 10 = .ok (.ireturn, 1) := by decide +kernel
theorem dX12_minor_11 : decode cX12_minor 11 = .ok (.iconst 0, 1) := by decide +kernel
theorem dX12_minor_12 : decode cX12_minor 12 = .ok (.istore_n 2, 1) := by decide +kernel
theorem dX12_minor_13 : decode cX12_minor 13 = .ok (.iload_n 2, 1) := by decide +kernel
theorem dX12_minor_14 : decode cX12_minor 14 = .ok (.aload_n 0, 1) := by decide +kernel
theorem dX12_minor_15 : decode cX12_minor 15 = .ok (.iload_n 1, 1) := by decide +kernel
theorem dX12_minor_16 : decode cX12_minor 16 = .ok (.invokevirtual 63, 3) := by decide +kernel
theorem dX12_minor_19 : decode cX12_minor 19 = .ok (.if_icmp .ge 21, 3) := by decide +kernel
theorem dX12_minor_22 : decode cX12_minor 22 = .ok (.aload_n 0, 1) := by decide +kernel
theorem dX12_minor_23 : decode cX12_minor 23 = .ok (.getfield 44, 3) := by decide +kernel
theorem dX12_minor_26 : decode cX12_minor 26 = .ok (.iload_n 2, 1) := by decide +kernel
theorem dX12_minor_27 : decode cX12_minor 27 = .ok (.aload_n 0, 1) := by decide +kernel
theorem dX12_minor_28 : decode cX12_minor 28 = .ok (.iload_n 1, 1) := by decide +kernel
theorem dX12_minor_29 : decode cX12_minor 29 = .ok (.iload_n 2, 1) := by decide +kernel
theorem dX12_minor_30 : decode cX12_minor 30 = .ok (.invokevirtual 80, 3) := by decide +kernel
theorem dX12_minor_33 : decode cX12_minor 33 = .ok (.iastore, 1) := by decide +kernel
theorem dX12_minor_34 : decode cX12_minor 34 = .ok (.iinc 2 1, 3) := by decide +kernel
theorem dX12_minor_37 : decode cX12_minor 37 = .ok (.goto (-24), 3) := by decide +kernel
theorem dX12_minor_40 : decode cX12_minor 40 = .ok (.iconst 0, 1) := by decide +kernel
theorem dX12_minor_41 : decode cX12_minor 41 = .ok (.istore_n 2, 1) := by decide +kernel
theorem dX12_minor_42 : decode cX12_minor 42 = .ok (.iconst 1, 1) := by decide +kernel
theorem dX12_minor_43 : decode cX12_minor 43 = .ok (.aload_n 0, 1) := by decide +kernel
theorem dX12_minor_44 : decode cX12_minor 44 = .ok (.iload_n 1, 1) := by decide +kernel
theorem dX12_minor_45 : decode cX12_minor 45 = .ok (.invokevirtual 63, 3) := by decide +kernel
theorem dX12_minor_48 : decode cX12_minor 48 = .ok (.ishl, 1) := by decide +kernel
theorem dX12_minor_49 : decode cX12_minor 49 = .ok (.iconst 1, 1) := by decide +kernel
theorem dX12_minor_50 : decode cX12_minor 50 = .ok (.isub, 1) := by decide +kernel
theorem dX12_minor_51 : decode cX12_minor 51 = .ok (.istore_n 3, 1) := by decide +kernel
theorem dX12_minor_52 : decode cX12_minor 52 = .ok (.iload_n 3, 1) := by decide +kernel
theorem dX12_minor_53 : decode cX12_minor 53 = .ok (.ifCond .eq 139, 3) := by decide +kernel
theorem dX12_minor_56 : decode cX12_minor 56 = .ok (.aload_n 0, 1) := by decide +kernel
theorem dX12_minor_57 : decode cX12_minor 57 = .ok (.iload_n 3, 1) := by decide +kernel
theorem dX12_minor_58 : decode cX12_minor 58 = .ok (.invokevirtual 314, 3) := by decide +kernel
theorem dX12_minor_61 : decode cX12_minor 61 = .ok (.istore 4, 2) := by decide +kernel
theorem dX12_minor_63 : decode cX12_minor 63 = .ok (.aload_n 0, 1) := by decide +kernel
theorem dX12_minor_64 : decode cX12_minor 64 = .ok (.aload_n 0, 1) := by decide +kernel
theorem dX12_minor_65 : decode cX12_minor 65 = .ok (.getfield 44, 3) := by decide +kernel
theorem dX12_minor_68 : decode cX12_minor 68 = .ok (.iload 4, 2) := by decide +kernel
theorem dX12_minor_70 : decode cX12_minor 70 = .ok (.iaload, 1) := by decide +kernel
theorem dX12_minor_71 : decode cX12_minor 71 = .ok (.invokevirtual 314, 3) := by decide +kernel
theorem dX12_minor_74 : decode cX12_minor 74 = .ok (.istore 5, 2) := by decide +kernel
theorem dX12_minor_76 : decode cX12_minor 76 = .ok (.iload_n 2, 1) := by decide +kernel
theorem dX12_minor_77 : decode cX12_minor 77 = .ok (.aload_n 0, 1) := by decide +kernel
theorem dX12_minor_78 : decode cX12_minor 78 = .ok (.getfield 44, 3) := by decide +kernel
theorem dX12_minor_81 : decode cX12_minor 81 = .ok (.iload 4, 2) := by decide +kernel
theorem dX12_minor_83 : decode cX12_minor 83 = .ok (.iaload, 1) := by decide +kernel
theorem dX12_minor_84 : decode cX12_minor 84 = .ok (.invokestatic 84, 3) := by decide +kernel
theorem dX12_minor_87 : decode cX12_minor 87 = .ok (.invokestatic 199, 3) := by decide +kernel
theorem dX12_minor_90 : decode cX12_minor 90 = .ok (.istore_n 2, 1) := by decide +kernel
theorem dX12_minor_91 : decode cX12_minor 91 = .ok (.iload_n 3, 1) := by decide +kernel
theorem dX12_minor_92 : decode cX12_minor 92 = .ok (.iconst 1, 1) := by decide +kernel
theorem dX12_minor_93 : decode cX12_minor 93 = .ok (.iload 4, 2) := by decide +kernel
theorem dX12_minor_95 : decode cX12_minor 95 = .ok (.ishl, 1) := by decide +kernel
theorem dX12_minor_96 : decode cX12_minor 96 = .ok (.iconst (-1), 1) := by decide +kernel
theorem dX12_minor_97 : decode cX12_minor 97 = .ok (.ixor, 1) := by decide +kernel
theorem dX12_minor_98 : decode cX12_minor 98 = .ok (.iand, 1) := by decide +kernel
theorem dX12_minor_99 : decode cX12_minor 99 = .ok (.istore_n 3, 1) := by decide +kernel
theorem dX12_minor_100 : decode cX12_minor 100 = .ok (.iconst 0, 1) := by decide +kernel
theorem dX12_minor_101 : decode cX12_minor 101 = .ok (.istore 6, 2) := by decide +kernel
theorem dX12_minor_103 : decode cX12_minor 103 = .ok (.iload 6, 2) := by decide +kernel
theorem dX12_minor_105 : decode cX12_minor 105 = .ok (.aload_n 0, 1) := by decide +kernel
theorem dX12_minor_106 : decode cX12_minor 106 = .ok (.iload_n 1, 1) := by decide +kernel
theorem dX12_minor_107 : decode cX12_minor 107 = .ok (.invokevirtual 63, 3) := by decide +kernel
theorem dX12_minor_110 : decode cX12_minor 110 = .ok (.if_icmp .ge 79, 3) := by decide +kernel
theorem dX12_minor_113 : decode cX12_minor 113 = .ok (.aload_n 0, 1) := by decide +kernel
theorem dX12_minor_114 : decode cX12_minor 114 = .ok (.getfield 44, 3) := by decide +kernel
theorem dX12_minor_117 : decode cX12_minor 117 = .ok (.iload 4, 2) := by decide +kernel
theorem dX12_minor_119 : decode cX12_minor 119 = .ok (.iaload, 1) := by decide +kernel
theorem dX12_minor_120 : decode cX12_minor 120 = .ok (.iload 6, 2) := by decide +kernel
theorem dX12_minor_122 : decode cX12_minor 122 = .ok (.invokestatic 166, 3) := by decide +kernel
theorem dX12_minor_125 : decode cX12_minor 125 = .ok (.istore 7, 2) := by decide +kernel
theorem dX12_minor_127 : decode cX12_minor 127 = .ok (.aload_n 0, 1) := by decide +kernel
theorem dX12_minor_128 : decode cX12_minor 128 = .ok (.getfield 44, 3) := by decide +kernel
theorem dX12_minor_131 : decode cX12_minor 131 = .ok (.iload 6, 2) := by decide +kernel
theorem dX12_minor_133 : decode cX12_minor 133 = .ok (.dup2, 1) := by decide +kernel
theorem dX12_minor_134 : decode cX12_minor 134 = .ok (.iaload, 1) := by decide +kernel
theorem dX12_minor_135 : decode cX12_minor 135 = .ok (.iconst 1, 1) := by decide +kernel
theorem dX12_minor_136 : decode cX12_minor 136 = .ok (.iload 4, 2) := by decide +kernel
theorem dX12_minor_138 : decode cX12_minor 138 = .ok (.ishl, 1) := by decide +kernel
theorem dX12_minor_139 : decode cX12_minor 139 = .ok (.iconst (-1), 1) := by decide +kernel
theorem dX12_minor_140 : decode cX12_minor 140 = .ok (.ixor, 1) := by decide +kernel
theorem dX12_minor_141 : decode cX12_minor 141 = .ok (.iand, 1) := by decide +kernel
theorem dX12_minor_142 : decode cX12_minor 142 = .ok (.iastore, 1) := by decide +kernel
theorem dX12_minor_143 : decode cX12_minor 143 = .ok (.iload 7, 2) := by decide +kernel
theorem dX12_minor_145 : decode cX12_minor 145 = .ok (.ifCond .eq 38, 3) := by decide +kernel
theorem dX12_minor_148 : decode cX12_minor 148 = .ok (.iload 6, 2) := by decide +kernel
theorem dX12_minor_150 : decode cX12_minor 150 = .ok (.iload 5, 2) := by decide +kernel
theorem dX12_minor_152 : decode cX12_minor 152 = .ok (.if_icmp .eq 31, 3) := by decide +kernel
theorem dX12_minor_155 : decode cX12_minor 155 = .ok (.aload_n 0, 1) := by decide +kernel
theorem dX12_minor_156 : decode cX12_minor 156 = .ok (.getfield 44, 3) := by decide +kernel
theorem dX12_minor_159 : decode cX12_minor 159 = .ok (.iload 6, 2) := by decide +kernel
theorem dX12_minor_161 : decode cX12_minor 161 = .ok (.dup2, 1) := by decide +kernel
theorem dX12_minor_162 : decode cX12_minor 162 = .ok (.iaload, 1) := by decide +kernel
theorem dX12_minor_163 : decode cX12_minor 163 = .ok (.iconst 1, 1) := by decide +kernel
theorem dX12_minor_164 : decode cX12_minor 164 = .ok (.iload 5, 2) := by decide +kernel
theorem dX12_minor_166 : decode cX12_minor 166 = .ok (.ishl, 1) := by decide +kernel
theorem dX12_minor_167 : decode cX12_minor 167 = .ok (.ior, 1) := by decide +kernel
theorem dX12_minor_168 : decode cX12_minor 168 = .ok (.iastore, 1) := by decide +kernel
theorem dX12_minor_169 : decode cX12_minor 169 = .ok (.aload_n 0, 1) := by decide +kernel
theorem dX12_minor_170 : decode cX12_minor 170 = .ok (.getfield 44, 3) := by decide +kernel
theorem dX12_minor_173 : decode cX12_minor 173 = .ok (.iload 5, 2) := by decide +kernel
theorem dX12_minor_175 : decode cX12_minor 175 = .ok (.dup2, 1) := by decide +kernel
theorem dX12_minor_176 : decode cX12_minor 176 = .ok (.iaload, 1) := by decide +kernel
theorem dX12_minor_177 : decode cX12_minor 177 = .ok (.iconst 1, 1) := by decide +kernel
theorem dX12_minor_178 : decode cX12_minor 178 = .ok (.iload 6, 2) := by decide +kernel
theorem dX12_minor_180 : decode cX12_minor 180 = .ok (.ishl, 1) := by decide +kernel
theorem dX12_minor_181 : decode cX12_minor 181 = .ok (.ior, 1) := by decide +kernel
theorem dX12_minor_182 : decode cX12_minor 182 = .ok (.iastore, 1) := by decide +kernel
theorem dX12_minor_183 : decode cX12_minor 183 = .ok (.iinc 6 1, 3) := by decide +kernel
theorem dX12_minor_186 : decode cX12_minor 186 = .ok (.goto (-83), 3) := by decide +kernel
theorem dX12_minor_189 : decode cX12_minor 189 = .ok (.goto (-137), 3) := by decide +kernel
theorem dX12_minor_192 : decode cX12_minor 192 = .ok (.iload_n 2, 1) := by decide +kernel
theorem dX12_minor_193 : decode cX12_minor 193 = .ok (.ireturn, 1) := by decide +kernel
theorem dX12_moves_0 : decode cX12_moves 0 = .ok (.aload_n 0, 1) := by decide +kernel
theorem dX12_moves_1 : decode cX12_moves 1 = .ok (.iload_n 1, 1) := by decide +kernel
theorem dX12_moves_2 : decode cX12_moves 2 = .ok (.iload_n 2, 1) := by decide +kernel
theorem dX12_moves_3 : decode cX12_moves 3 = .ok (.invokevirtual 70, 3) := by decide +kernel
theorem dX12_moves_6 : decode cX12_moves 6 = .ok (.ifCond .eq 12, 3) := by decide +kernel
theorem dX12_moves_9 : decode cX12_moves 9 = .ok (.aload_n 0, 1) := by decide +kernel
theorem dX12_moves_10 : decode cX12_moves 10 = .ok (.iload_n 1, 1) := by decide +kernel
theorem dX12_moves_11 : decode cX12_moves 11 = .ok (.iload_n 3, 1) := by decide +kernel
theorem dX12_moves_12 : decode cX12_moves 12 = .ok (.invokevirtual 70, 3) := by decide +kernel
theorem dX12_moves_15 : decode cX12_moves 15 = .ok (.ifCond .ne 6, 3) := by decide +kernel
theorem dX12_moves_18 : decode cX12_moves 18 = .ok (.bipush (-2), 2) := by decide +kernel
theorem dX12_moves_20 : decode cX12_moves 20 = .ok (.ireturn, 1) := by decide +kernel
theorem dX12_moves_21 : decode cX12_moves 21 = .ok (.aload_n 0, 1) := by decide +kernel
theorem dX12_moves_22 : decode cX12_moves 22 = .ok (.iload_n 1, 1) := by decide +kernel
theorem dX12_moves_23 : decode cX12_moves 23 = .ok (.invokevirtual 248, 3) := by decide +kernel
theorem dX12_moves_26 : decode cX12_moves 26 = .ok (.iload_n 2, 1) := by decide +kernel
theorem dX12_moves_27 : decode cX12_moves 27 = .ok (.iload_n 3, 1) := by decide +kernel
theorem dX12_moves_28 : decode cX12_moves 28 = .ok (.if_icmp .ge 7, 3) := by decide +kernel
theorem dX12_moves_31 : decode cX12_moves 31 = .ok (.iconst 1, 1) := by decide +kernel
theorem dX12_moves_32 : decode cX12_moves 32 = .ok (.goto 4, 3) := by decide +kernel
theorem dX12_moves_35 : decode cX12_moves 35 = .ok (.iconst (-1), 1) := by decide +kernel
theorem dX12_moves_36 : decode cX12_moves 36 = .ok (.istore 4, 2) := by decide +kernel
theorem dX12_moves_38 : decode cX12_moves 38 = .ok (.iload_n 2, 1) := by decide +kernel
theorem dX12_moves_39 : decode cX12_moves 39 = .ok (.istore 5, 2) := by decide +kernel
theorem dX12_moves_41 : decode cX12_moves 41 = .ok (.iload 5, 2) := by decide +kernel
theorem dX12_moves_43 : decode cX12_moves 43 = .ok (.iload_n 3, 1) := by decide +kernel
theorem dX12_moves_44 : decode cX12_moves 44 = .ok (.if_icmp .eq 24, 3) := by decide +kernel
theorem dX12_moves_47 : decode cX12_moves 47 = .ok (.aload_n 0, 1) := by decide +kernel
theorem dX12_moves_48 : decode cX12_moves 48 = .ok (.iload 5, 2) := by decide +kernel
theorem dX12_moves_50 : decode cX12_moves 50 = .ok (.iload 5, 2) := by decide +kernel
theorem dX12_moves_52 : decode cX12_moves 52 = .ok (.iload 4, 2) := by decide +kernel
theorem dX12_moves_54 : decode cX12_moves 54 = .ok (.iadd, 1) := by decide +kernel
theorem dX12_moves_55 : decode cX12_moves 55 = .ok (.invokevirtual 317, 3) := by decide +kernel
theorem dX12_moves_58 : decode cX12_moves 58 = .ok (.iload 5, 2) := by decide +kernel
theorem dX12_moves_60 : decode cX12_moves 60 = .ok (.iload 4, 2) := by decide +kernel
theorem dX12_moves_62 : decode cX12_moves 62 = .ok (.iadd, 1) := by decide +kernel
theorem dX12_moves_63 : decode cX12_moves 63 = .ok (.istore 5, 2) := by decide +kernel
theorem dX12_moves_65 : decode cX12_moves 65 = .ok (.goto (-24), 3) := by decide +kernel
theorem dX12_moves_68 : decode cX12_moves 68 = .ok (.aload_n 0, 1) := by decide +kernel
theorem dX12_moves_69 : decode cX12_moves 69 = .ok (.iload_n 1, 1) := by decide +kernel
theorem dX12_moves_70 : decode cX12_moves 70 = .ok (.invokevirtual 320, 3) := by decide +kernel
theorem dX12_moves_73 : decode cX12_moves 73 = .ok (.istore 5, 2) := by decide +kernel
theorem dX12_moves_75 : decode cX12_moves 75 = .ok (.aload_n 0, 1) := by decide +kernel
theorem dX12_moves_76 : decode cX12_moves 76 = .ok (.iload_n 1, 1) := by decide +kernel
theorem dX12_moves_77 : decode cX12_moves 77 = .ok (.iload_n 3, 1) := by decide +kernel
theorem dX12_moves_78 : decode cX12_moves 78 = .ok (.invokevirtual 217, 3) := by decide +kernel
theorem dX12_moves_81 : decode cX12_moves 81 = .ok (.ireturn, 1) := by decide +kernel
theorem dX12_must_0 : decode cX12_must 0 = .ok (.iload_n 1, 1) := by decide +kernel
theorem dX12_must_1 : decode cX12_must 1 = .ok (.ifCond .ne 8, 3) := by decide +kernel
theorem dX12_must_4 : decode cX12_must 4 = .ok (.aload_n 0, 1) := by decide +kernel
theorem dX12_must_5 : decode cX12_must 5 = .ok (.iconst 1, 1) := by decide +kernel
theorem dX12_must_6 : decode cX12_must 6 = .ok (.invokevirtual 143, 3) := by decide +kernel
theorem dX12_must_9 : decode cX12_must 9 = .ok (.aload_n 0, 1) := by decide +kernel
theorem dX12_must_10 : decode cX12_must 10 = .ok (.invokevirtual 146, 3) := by decide +kernel
theorem dX12_must_13 : decode cX12_must 13 = .ok (.return_, 1) := by decide +kernel
theorem dX12_near_0 : decode cX12_near 0 = .ok (.aload_n 0, 1) := by decide +kernel
theorem dX12_near_1 : decode cX12_near 1 = .ok (.iload_n 1, 1) := by decide +kernel
theorem dX12_near_2 : decode cX12_near 2 = .ok (.iload_n 2, 1) := by decide +kernel
theorem dX12_near_3 : decode cX12_near 3 = .ok (.invokevirtual 70, 3) := by decide +kernel
theorem dX12_near_6 : decode cX12_near 6 = .ok (.ifCond .eq 12, 3) := by decide +kernel
theorem dX12_near_9 : decode cX12_near 9 = .ok (.aload_n 0, 1) := by decide +kernel
theorem dX12_near_10 : decode cX12_near 10 = .ok (.iload_n 1, 1) := by decide +kernel
theorem dX12_near_11 : decode cX12_near 11 = .ok (.iload_n 2, 1) := by decide +kernel
theorem dX12_near_12 : decode cX12_near 12 = .ok (.invokevirtual 80, 3) := by decide +kernel
theorem dX12_near_15 : decode cX12_near 15 = .ok (.goto 5, 3) := by decide +kernel
theorem dX12_near_18 : decode cX12_near 18 = .ok (.bipush (-2), 2) := by decide +kernel
theorem dX12_near_20 : decode cX12_near 20 = .ok (.ireturn, 1) := by decide +kernel
theorem dX12_nearOf_0 : decode cX12_nearOf 0 = .ok (.iconst 0, 1) := by decide +kernel
theorem dX12_nearOf_1 : decode cX12_nearOf 1 = .ok (.istore_n 3, 1) := by decide +kernel
theorem dX12_nearOf_2 : decode cX12_nearOf 2 = .ok (.iconst 0, 1) := by decide +kernel
theorem dX12_nearOf_3 : decode cX12_nearOf 3 = .ok (.istore 4, 2) := by decide +kernel
theorem dX12_nearOf_5 : decode cX12_nearOf 5 = .ok (.iload 4, 2) := by decide +kernel
theorem dX12_nearOf_7 : decode cX12_nearOf 7 = .ok (.aload_n 0, 1) := by decide +kernel
theorem dX12_nearOf_8 : decode cX12_nearOf 8 = .ok (.iload_n 1, 1) := by decide +kernel
theorem dX12_nearOf_9 : decode cX12_nearOf 9 = .ok (.invokevirtual 63, 3) := by decide +kernel
theorem dX12_nearOf_12 : decode cX12_nearOf 12 = .ok (.if_icmp .ge 31, 3) := by decide +kernel
theorem dX12_nearOf_15 : decode cX12_nearOf 15 = .ok (.iload_n 3, 1) := by decide +kernel
theorem dX12_nearOf_16 : decode cX12_nearOf 16 = .ok (.aload_n 0, 1) := by decide +kernel
theorem dX12_nearOf_17 : decode cX12_nearOf 17 = .ok (.iload_n 1, 1) := by decide +kernel
theorem dX12_nearOf_18 : decode cX12_nearOf 18 = .ok (.iload_n 2, 1) := by decide +kernel
theorem dX12_nearOf_19 : decode cX12_nearOf 19 = .ok (.iload 4, 2) := by decide +kernel
theorem dX12_nearOf_21 : decode cX12_nearOf 21 = .ok (.invokevirtual 76, 3) := by decide +kernel
theorem dX12_nearOf_24 : decode cX12_nearOf 24 = .ok (.ifCond .le 10, 3) := by decide +kernel
theorem dX12_nearOf_27 : decode cX12_nearOf 27 = .ok (.iconst 1, 1) := by decide +kernel
theorem dX12_nearOf_28 : decode cX12_nearOf 28 = .ok (.iload 4, 2) := by decide +kernel
theorem dX12_nearOf_30 : decode cX12_nearOf 30 = .ok (.ishl, 1) := by decide +kernel
theorem dX12_nearOf_31 : decode cX12_nearOf 31 = .ok (.goto 4, 3) := by decide +kernel
theorem dX12_nearOf_34 : decode cX12_nearOf 34 = .ok (.iconst 0, 1) := by decide +kernel
theorem dX12_nearOf_35 : decode cX12_nearOf 35 = .ok (.ior, 1) := by decide +kernel
theorem dX12_nearOf_36 : decode cX12_nearOf 36 = .ok (.istore_n 3, 1) := by decide +kernel
theorem dX12_nearOf_37 : decode cX12_nearOf 37 = .ok (.iinc 4 1, 3) := by decide +kernel
theorem dX12_nearOf_40 : decode cX12_nearOf 40 = .ok (.goto (-35), 3) := by decide +kernel
theorem dX12_nearOf_43 : decode cX12_nearOf 43 = .ok (.iload_n 3, 1) := by decide +kernel
theorem dX12_nearOf_44 : decode cX12_nearOf 44 = .ok (.ireturn, 1) := by decide +kernel
theorem dX12_neighbours_0 : decode cX12_neighbours 0 = .ok (.aload_n 0, 1) := by decide +kernel
theorem dX12_neighbours_1 : decode cX12_neighbours 1 = .ok (.iload_n 1, 1) := by decide +kernel
theorem dX12_neighbours_2 : decode cX12_neighbours 2 = .ok (.iload_n 3, 1) := by decide +kernel
theorem dX12_neighbours_3 : decode cX12_neighbours 3 = .ok (.invokevirtual 80, 3) := by decide +kernel
theorem dX12_neighbours_6 : decode cX12_neighbours 6 = .ok (.istore 4, 2) := by decide +kernel
theorem dX12_neighbours_8 : decode cX12_neighbours 8 = .ok (.iconst 0, 1) := by decide +kernel
theorem dX12_neighbours_9 : decode cX12_neighbours 9 = .ok (.istore 5, 2) := by decide +kernel
theorem dX12_neighbours_11 : decode cX12_neighbours 11 = .ok (.iload 5, 2) := by decide +kernel
theorem dX12_neighbours_13 : decode cX12_neighbours 13 = .ok (.iload 4, 2) := by decide +kernel
theorem dX12_neighbours_15 : decode cX12_neighbours 15 = .ok (.if_icmp .eq 57, 3) := by decide +kernel
theorem dX12_neighbours_18 : decode cX12_neighbours 18 = .ok (.iload 4, 2) := by decide +kernel
theorem dX12_neighbours_20 : decode cX12_neighbours 20 = .ok (.istore 5, 2) := by decide +kernel
theorem dX12_neighbours_22 : decode cX12_neighbours 22 = .ok (.iconst 0, 1) := by decide +kernel
theorem dX12_neighbours_23 : decode cX12_neighbours 23 = .ok (.istore 6, 2) := by decide +kernel
theorem dX12_neighbours_25 : decode cX12_neighbours 25 = .ok (.iload 6, 2) := by decide +kernel
theorem dX12_neighbours_27 : decode cX12_neighbours 27 = .ok (.aload_n 0, 1) := by decide +kernel
theorem dX12_neighbours_28 : decode cX12_neighbours 28 = .ok (.iload_n 1, 1) := by decide +kernel
theorem dX12_neighbours_29 : decode cX12_neighbours 29 = .ok (.invokevirtual 63, 3) := by decide +kernel
theorem dX12_neighbours_32 : decode cX12_neighbours 32 = .ok (.if_icmp .ge 37, 3) := by decide +kernel
theorem dX12_neighbours_35 : decode cX12_neighbours 35 = .ok (.iload 4, 2) := by decide +kernel
theorem dX12_neighbours_37 : decode cX12_neighbours 37 = .ok (.iload 5, 2) := by decide +kernel
theorem dX12_neighbours_39 : decode cX12_neighbours 39 = .ok (.iload_n 2, 1) := by decide +kernel
theorem dX12_neighbours_40 : decode cX12_neighbours 40 = .ok (.iand, 1) := by decide +kernel
theorem dX12_neighbours_41 : decode cX12_neighbours 41 = .ok (.iload 6, 2) := by decide +kernel
theorem dX12_neighbours_43 : decode cX12_neighbours 43 = .ok (.invokestatic 166, 3) := by decide +kernel
theorem dX12_neighbours_46 : decode cX12_neighbours 46 = .ok (.ifCond .eq 13, 3) := by decide +kernel
theorem dX12_neighbours_49 : decode cX12_neighbours 49 = .ok (.aload_n 0, 1) := by decide +kernel
theorem dX12_neighbours_50 : decode cX12_neighbours 50 = .ok (.iload_n 1, 1) := by decide +kernel
theorem dX12_neighbours_51 : decode cX12_neighbours 51 = .ok (.iload 6, 2) := by decide +kernel
theorem dX12_neighbours_53 : decode cX12_neighbours 53 = .ok (.invokevirtual 80, 3) := by decide +kernel
theorem dX12_neighbours_56 : decode cX12_neighbours 56 = .ok (.goto 4, 3) := by decide +kernel
theorem dX12_neighbours_59 : decode cX12_neighbours 59 = .ok (.iconst 0, 1) := by decide +kernel
theorem dX12_neighbours_60 : decode cX12_neighbours 60 = .ok (.ior, 1) := by decide +kernel
theorem dX12_neighbours_61 : decode cX12_neighbours 61 = .ok (.istore 4, 2) := by decide +kernel
theorem dX12_neighbours_63 : decode cX12_neighbours 63 = .ok (.iinc 6 1, 3) := by decide +kernel
theorem dX12_neighbours_66 : decode cX12_neighbours 66 = .ok (.goto (-41), 3) := by decide +kernel
theorem dX12_neighbours_69 : decode cX12_neighbours 69 = .ok (.goto (-58), 3) := by decide +kernel
theorem dX12_neighbours_72 : decode cX12_neighbours 72 = .ok (.iload 4, 2) := by decide +kernel
theorem dX12_neighbours_74 : decode cX12_neighbours 74 = .ok (.iload_n 2, 1) := by decide +kernel
theorem dX12_neighbours_75 : decode cX12_neighbours 75 = .ok (.iconst (-1), 1) := by decide +kernel
theorem dX12_neighbours_76 : decode cX12_neighbours 76 = .ok (.ixor, 1) := by decide +kernel
theorem dX12_neighbours_77 : decode cX12_neighbours 77 = .ok (.iand, 1) := by decide +kernel
theorem dX12_neighbours_78 : decode cX12_neighbours 78 = .ok (.iconst 1, 1) := by decide +kernel
theorem dX12_neighbours_79 : decode cX12_neighbours 79 = .ok (.iload_n 3, 1) := by decide +kernel
theorem dX12_neighbours_80 : decode cX12_neighbours 80 = .ok (.ishl, 1) := by decide +kernel
theorem dX12_neighbours_81 : decode cX12_neighbours 81 = .ok (.iconst (-1), 1) := by decide +kernel
theorem dX12_neighbours_82 : decode cX12_neighbours 82 = .ok (.ixor, 1) := by decide +kernel
theorem dX12_neighbours_83 : decode cX12_neighbours 83 = .ok (.iand, 1) := by decide +kernel
theorem dX12_neighbours_84 : decode cX12_neighbours 84 = .ok (.ireturn, 1) := by decide +kernel
theorem dX12_next_0 : decode cX12_next 0 = .ok (.aload_n 0, 1) := by decide +kernel
theorem dX12_next_1 : decode cX12_next 1 = .ok (.bipush 32, 2) := by decide +kernel
theorem dX12_next_3 : decode cX12_next 3 = .ok (.bipush 32, 2) := by decide +kernel
theorem dX12_next_5 : decode cX12_next 5 = .ok (.invokevirtual 106, 3) := by decide +kernel
theorem dX12_next_8 : decode cX12_next 8 = .ok (.ifCond .ne 14, 3) := by decide +kernel
theorem dX12_next_11 : decode cX12_next 11 = .ok (.aload_n 0, 1) := by decide +kernel
theorem dX12_next_12 : decode cX12_next 12 = .ok (.bipush 10, 2) := by decide +kernel
theorem dX12_next_14 : decode cX12_next 14 = .ok (.bipush 10, 2) := by decide +kernel
theorem dX12_next_16 : decode cX12_next 16 = .ok (.invokevirtual 106, 3) := by decide +kernel
theorem dX12_next_19 : decode cX12_next 19 = .ok (.ifCond .eq 16, 3) := by decide +kernel
theorem dX12_next_22 : decode cX12_next 22 = .ok (.aload_n 0, 1) := by decide +kernel
theorem dX12_next_23 : decode cX12_next 23 = .ok (.dup, 1) := by decide +kernel
theorem dX12_next_24 : decode cX12_next 24 = .ok (.getfield 103, 3) := by decide +kernel
theorem dX12_next_27 : decode cX12_next 27 = .ok (.iconst 1, 1) := by decide +kernel
theorem dX12_next_28 : decode cX12_next 28 = .ok (.iadd, 1) := by decide +kernel
theorem dX12_next_29 : decode cX12_next 29 = .ok (.putfield 103, 3) := by decide +kernel
theorem dX12_next_32 : decode cX12_next 32 = .ok (.goto (-32), 3) := by decide +kernel
theorem dX12_next_35 : decode cX12_next 35 = .ok (.aload_n 0, 1) := by decide +kernel
theorem dX12_next_36 : decode cX12_next 36 = .ok (.aload_n 0, 1) := by decide +kernel
theorem dX12_next_37 : decode cX12_next 37 = .ok (.getfield 103, 3) := by decide +kernel
theorem dX12_next_40 : decode cX12_next 40 = .ok (.putfield 109, 3) := by decide +kernel
theorem dX12_next_43 : decode cX12_next 43 = .ok (.aload_n 0, 1) := by decide +kernel
theorem dX12_next_44 : decode cX12_next 44 = .ok (.iconst 0, 1) := by decide +kernel
theorem dX12_next_45 : decode cX12_next 45 = .ok (.putfield 112, 3) := by decide +kernel
theorem dX12_next_48 : decode cX12_next 48 = .ok (.aload_n 0, 1) := by decide +kernel
theorem dX12_next_49 : decode cX12_next 49 = .ok (.getfield 103, 3) := by decide +kernel
theorem dX12_next_52 : decode cX12_next 52 = .ok (.aload_n 0, 1) := by decide +kernel
theorem dX12_next_53 : decode cX12_next 53 = .ok (.getfield 100, 3) := by decide +kernel
theorem dX12_next_56 : decode cX12_next 56 = .ok (.if_icmp .ne 11, 3) := by decide +kernel
theorem dX12_next_59 : decode cX12_next 59 = .ok (.aload_n 0, 1) := by decide +kernel
theorem dX12_next_60 : decode cX12_next 60 = .ok (.iconst 0, 1) := by decide +kernel
theorem dX12_next_61 : decode cX12_next 61 = .ok (.putfield 115, 3) := by decide +kernel
theorem dX12_next_64 : decode cX12_next 64 = .ok (.goto 128, 3) := by decide +kernel
theorem dX12_next_67 : decode cX12_next 67 = .ok (.aload_n 0, 1) := by decide +kernel
theorem dX12_next_68 : decode cX12_next 68 = .ok (.bipush 97, 2) := by decide +kernel
theorem dX12_next_70 : decode cX12_next 70 = .ok (.bipush 122, 2) := by decide +kernel
theorem dX12_next_72 : decode cX12_next 72 = .ok (.invokevirtual 106, 3) := by decide +kernel
theorem dX12_next_75 : decode cX12_next 75 = .ok (.ifCond .eq 32, 3) := by decide +kernel
theorem dX12_next_78 : decode cX12_next 78 = .ok (.aload_n 0, 1) := by decide +kernel
theorem dX12_next_79 : decode cX12_next 79 = .ok (.iconst 1, 1) := by decide +kernel
theorem dX12_next_80 : decode cX12_next 80 = .ok (.putfield 115, 3) := by decide +kernel
theorem dX12_next_83 : decode cX12_next 83 = .ok (.aload_n 0, 1) := by decide +kernel
theorem dX12_next_84 : decode cX12_next 84 = .ok (.bipush 97, 2) := by decide +kernel
theorem dX12_next_86 : decode cX12_next 86 = .ok (.bipush 122, 2) := by decide +kernel
theorem dX12_next_88 : decode cX12_next 88 = .ok (.invokevirtual 106, 3) := by decide +kernel
theorem dX12_next_91 : decode cX12_next 91 = .ok (.ifCond .eq 101, 3) := by decide +kernel
theorem dX12_next_94 : decode cX12_next 94 = .ok (.aload_n 0, 1) := by decide +kernel
theorem dX12_next_95 : decode cX12_next 95 = .ok (.dup, 1) := by decide +kernel
theorem dX12_next_96 : decode cX12_next 96 = .ok (.getfield 103, 3) := by decide +kernel
theorem dX12_next_99 : decode cX12_next 99 = .ok (.iconst 1, 1) := by decide +kernel
theorem dX12_next_100 : decode cX12_next 100 = .ok (.iadd, 1) := by decide +kernel
theorem dX12_next_101 : decode cX12_next 101 = .ok (.putfield 103, 3) := by decide +kernel
theorem dX12_next_104 : decode cX12_next 104 = .ok (.goto (-21), 3) := by decide +kernel
theorem dX12_next_107 : decode cX12_next 107 = .ok (.aload_n 0, 1) := by decide +kernel
theorem dX12_next_108 : decode cX12_next 108 = .ok (.bipush 48, 2) := by decide +kernel
theorem dX12_next_110 : decode cX12_next 110 = .ok (.bipush 57, 2) := by decide +kernel
theorem dX12_next_112 : decode cX12_next 112 = .ok (.invokevirtual 106, 3) := by decide +kernel
theorem dX12_next_115 : decode cX12_next 115 = .ok (.ifCond .eq 62, 3) := by decide +kernel
theorem dX12_next_118 : decode cX12_next 118 = .ok (.aload_n 0, 1) := by decide +kernel
theorem dX12_next_119 : decode cX12_next 119 = .ok (.iconst 2, 1) := by decide +kernel
theorem dX12_next_120 : decode cX12_next 120 = .ok (.putfield 115, 3) := by decide +kernel
theorem dX12_next_123 : decode cX12_next 123 = .ok (.aload_n 0, 1) := by decide +kernel
theorem dX12_next_124 : decode cX12_next 124 = .ok (.bipush 48, 2) := by decide +kernel
theorem dX12_next_126 : decode cX12_next 126 = .ok (.bipush 57, 2) := by decide +kernel
theorem dX12_next_128 : decode cX12_next 128 = .ok (.invokevirtual 106, 3) := by decide +kernel
theorem dX12_next_131 : decode cX12_next 131 = .ok (.ifCond .eq 61, 3) := by decide +kernel
theorem dX12_next_134 : decode cX12_next 134 = .ok (.aload_n 0, 1) := by decide +kernel
theorem dX12_next_135 : decode cX12_next 135 = .ok (.sipush 1000, 3) := by decide +kernel
theorem dX12_next_138 : decode cX12_next 138 = .ok (.bipush 10, 2) := by decide +kernel
theorem dX12_next_140 : decode cX12_next 140 = .ok (.aload_n 0, 1) := by decide +kernel
theorem dX12_next_141 : decode cX12_next 141 = .ok (.getfield 112, 3) := by decide +kernel
theorem dX12_next_144 : decode cX12_next 144 = .ok (.imul, 1) := by decide +kernel
theorem dX12_next_145 : decode cX12_next 145 = .ok (.aload_n 0, 1) := by decide +kernel
theorem dX12_next_146 : decode cX12_next 146 = .ok (.getfield 19, 3) := by decide +kernel
theorem dX12_next_149 : decode cX12_next 149 = .ok (.aload_n 0, 1) := by decide +kernel
theorem dX12_next_150 : decode cX12_next 150 = .ok (.getfield 103, 3) := by decide +kernel
theorem dX12_next_153 : decode cX12_next 153 = .ok (.iaload, 1) := by decide +kernel
theorem dX12_next_154 : decode cX12_next 154 = .ok (.iadd, 1) := by decide +kernel
theorem dX12_next_155 : decode cX12_next 155 = .ok (.bipush 48, 2) := by decide +kernel
theorem dX12_next_157 : decode cX12_next 157 = .ok (.isub, 1) := by decide +kernel
theorem dX12_next_158 : decode cX12_next 158 = .ok (.invokestatic 118, 3) := by decide +kernel
theorem dX12_next_161 : decode cX12_next 161 = .ok (.putfield 112, 3) := by decide +kernel
theorem dX12_next_164 : decode cX12_next 164 = .ok (.aload_n 0, 1) := by decide +kernel
theorem dX12_next_165 : decode cX12_next 165 = .ok (.dup, 1) := by decide +kernel
theorem dX12_next_166 : decode cX12_next 166 = .ok (.getfield 103, 3) := by decide +kernel
theorem dX12_next_169 : decode cX12_next 169 = .ok (.iconst 1, 1) := by decide +kernel
theorem dX12_next_170 : decode cX12_next 170 = .ok (.iadd, 1) := by decide +kernel
theorem dX12_next_171 : decode cX12_next 171 = .ok (.putfield 103, 3) := by decide +kernel
theorem dX12_next_174 : decode cX12_next 174 = .ok (.goto (-51), 3) := by decide +kernel
theorem dX12_next_177 : decode cX12_next 177 = .ok (.aload_n 0, 1) := by decide +kernel
theorem dX12_next_178 : decode cX12_next 178 = .ok (.iconst 3, 1) := by decide +kernel
theorem dX12_next_179 : decode cX12_next 179 = .ok (.putfield 115, 3) := by decide +kernel
theorem dX12_next_182 : decode cX12_next 182 = .ok (.aload_n 0, 1) := by decide +kernel
theorem dX12_next_183 : decode cX12_next 183 = .ok (.dup, 1) := by decide +kernel
theorem dX12_next_184 : decode cX12_next 184 = .ok (.getfield 103, 3) := by decide +kernel
theorem dX12_next_187 : decode cX12_next 187 = .ok (.iconst 1, 1) := by decide +kernel
theorem dX12_next_188 : decode cX12_next 188 = .ok (.iadd, 1) := by decide +kernel
theorem dX12_next_189 : decode cX12_next 189 = .ok (.putfield 103, 3) := by decide +kernel
theorem dX12_next_192 : decode cX12_next 192 = .ok (.return_, 1) := by decide +kernel
theorem dX12_octet_0 : decode cX12_octet 0 = .ok (.iload_n 1, 1) := by decide +kernel
theorem dX12_octet_1 : decode cX12_octet 1 = .ok (.i2l, 1) := by decide +kernel
theorem dX12_octet_2 : decode cX12_octet 2 = .ok (.lconst 0, 1) := by decide +kernel
theorem dX12_octet_3 : decode cX12_octet 3 = .ok (.aload_n 0, 1) := by decide +kernel
theorem dX12_octet_4 : decode cX12_octet 4 = .ok (.getfield 193, 3) := by decide +kernel
theorem dX12_octet_7 : decode cX12_octet 7 = .ok (.iconst 1, 1) := by decide +kernel
theorem dX12_octet_8 : decode cX12_octet 8 = .ok (.isub, 1) := by decide +kernel
theorem dX12_octet_9 : decode cX12_octet 9 = .ok (.i2l, 1) := by decide +kernel
theorem dX12_octet_10 : decode cX12_octet 10 = .ok (.invokestatic 55, 3) := by decide +kernel
theorem dX12_octet_13 : decode cX12_octet 13 = .ok (.ifCond .eq 12, 3) := by decide +kernel
theorem dX12_octet_16 : decode cX12_octet 16 = .ok (.aload_n 0, 1) := by decide +kernel
theorem dX12_octet_17 : decode cX12_octet 17 = .ok (.getfield 50, 3) := by decide +kernel
theorem dX12_octet_20 : decode cX12_octet 20 = .ok (.iload_n 1, 1) := by decide +kernel
theorem dX12_octet_21 : decode cX12_octet 21 = .ok (.iaload, 1) := by decide +kernel
theorem dX12_octet_22 : decode cX12_octet 22 = .ok (.goto 4, 3) := by decide +kernel
theorem dX12_octet_25 : decode cX12_octet 25 = .ok (.iconst (-1), 1) := by decide +kernel
theorem dX12_octet_26 : decode cX12_octet 26 = .ok (.ireturn, 1) := by decide +kernel
theorem dX12_ones_0 : decode cX12_ones 0 = .ok (.iconst 0, 1) := by decide +kernel
theorem dX12_ones_1 : decode cX12_ones 1 = .ok (.istore_n 1, 1) := by decide +kernel
theorem dX12_ones_2 : decode cX12_ones 2 = .ok (.iload_n 0, 1) := by decide +kernel
theorem dX12_ones_3 : decode cX12_ones 3 = .ok (.istore_n 2, 1) := by decide +kernel
theorem dX12_ones_4 : decode cX12_ones 4 = .ok (.iload_n 2, 1) := by decide +kernel
theorem dX12_ones_5 : decode cX12_ones 5 = .ok (.ifCond .eq 15, 3) := by decide +kernel
theorem dX12_ones_8 : decode cX12_ones 8 = .ok (.iinc 1 1, 3) := by decide +kernel
theorem dX12_ones_11 : decode cX12_ones 11 = .ok (.iload_n 2, 1) := by decide +kernel
theorem dX12_ones_12 : decode cX12_ones 12 = .ok (.iload_n 2, 1) := by decide +kernel
theorem dX12_ones_13 : decode cX12_ones 13 = .ok (.iconst 1, 1) := by decide +kernel
theorem dX12_ones_14 : decode cX12_ones 14 = .ok (.isub, 1) := by decide +kernel
theorem dX12_ones_15 : decode cX12_ones 15 = .ok (.iand, 1) := by decide +kernel
theorem dX12_ones_16 : decode cX12_ones 16 = .ok (.istore_n 2, 1) := by decide +kernel
theorem dX12_ones_17 : decode cX12_ones 17 = .ok (.goto (-13), 3) := by decide +kernel
theorem dX12_ones_20 : decode cX12_ones 20 = .ok (.iload_n 1, 1) := by decide +kernel
theorem dX12_ones_21 : decode cX12_ones 21 = .ok (.ireturn, 1) := by decide +kernel
theorem dX12_parts_0 : decode cX12_parts 0 = .ok (.iconst 0, 1) := by decide +kernel
theorem dX12_parts_1 : decode cX12_parts 1 = .ok (.istore_n 2, 1) := by decide +kernel
theorem dX12_parts_2 : decode cX12_parts 2 = .ok (.iconst 0, 1) := by decide +kernel
theorem dX12_parts_3 : decode cX12_parts 3 = .ok (.istore_n 3, 1) := by decide +kernel
theorem dX12_parts_4 : decode cX12_parts 4 = .ok (.iload_n 3, 1) := by decide +kernel
theorem dX12_parts_5 : decode cX12_parts 5 = .ok (.aload_n 0, 1) := by decide +kernel
theorem dX12_parts_6 : decode cX12_parts 6 = .ok (.iload_n 1, 1) := by decide +kernel
theorem dX12_parts_7 : decode cX12_parts 7 = .ok (.invokevirtual 63, 3) := by decide +kernel
theorem dX12_parts_10 : decode cX12_parts 10 = .ok (.if_icmp .ge 64, 3) := by decide +kernel
theorem dX12_parts_13 : decode cX12_parts 13 = .ok (.iconst 1, 1) := by decide +kernel
theorem dX12_parts_14 : decode cX12_parts 14 = .ok (.istore 4, 2) := by decide +kernel
theorem dX12_parts_16 : decode cX12_parts 16 = .ok (.iconst 0, 1) := by decide +kernel
theorem dX12_parts_17 : decode cX12_parts 17 = .ok (.istore 5, 2) := by decide +kernel
theorem dX12_parts_19 : decode cX12_parts 19 = .ok (.iload 5, 2) := by decide +kernel
theorem dX12_parts_21 : decode cX12_parts 21 = .ok (.iload_n 3, 1) := by decide +kernel
theorem dX12_parts_22 : decode cX12_parts 22 = .ok (.if_icmp .ge 33, 3) := by decide +kernel
theorem dX12_parts_25 : decode cX12_parts 25 = .ok (.iload 4, 2) := by decide +kernel
theorem dX12_parts_27 : decode cX12_parts 27 = .ok (.ifCond .eq 19, 3) := by decide +kernel
theorem dX12_parts_30 : decode cX12_parts 30 = .ok (.aload_n 0, 1) := by decide +kernel
theorem dX12_parts_31 : decode cX12_parts 31 = .ok (.iload_n 1, 1) := by decide +kernel
theorem dX12_parts_32 : decode cX12_parts 32 = .ok (.iload 5, 2) := by decide +kernel
theorem dX12_parts_34 : decode cX12_parts 34 = .ok (.iload_n 3, 1) := by decide +kernel
theorem dX12_parts_35 : decode cX12_parts 35 = .ok (.invokevirtual 196, 3) := by decide +kernel
theorem dX12_parts_38 : decode cX12_parts 38 = .ok (.iconst (-1), 1) := by decide +kernel
theorem dX12_parts_39 : decode cX12_parts 39 = .ok (.if_icmp .ne 7, 3) := by decide +kernel
theorem dX12_parts_42 : decode cX12_parts 42 = .ok (.iconst 1, 1) := by decide +kernel
theorem dX12_parts_43 : decode cX12_parts 43 = .ok (.goto 4, 3) := by decide +kernel
theorem dX12_parts_46 : decode cX12_parts 46 = .ok (.iconst 0, 1) := by decide +kernel
theorem dX12_parts_47 : decode cX12_parts 47 = .ok (.istore 4, 2) := by decide +kernel
theorem dX12_parts_49 : decode cX12_parts 49 = .ok (.iinc 5 1, 3) := by decide +kernel
theorem dX12_parts_52 : decode cX12_parts 52 = .ok (.goto (-33), 3) := by decide +kernel
theorem dX12_parts_55 : decode cX12_parts 55 = .ok (.iload_n 2, 1) := by decide +kernel
theorem dX12_parts_56 : decode cX12_parts 56 = .ok (.iload 4, 2) := by decide +kernel
theorem dX12_parts_58 : decode cX12_parts 58 = .ok (.ifCond .eq 7, 3) := by decide +kernel
theorem dX12_parts_61 : decode cX12_parts 61 = .ok (.iconst 1, 1) := by decide +kernel
theorem dX12_parts_62 : decode cX12_parts 62 = .ok (.goto 4, 3) := by decide +kernel
theorem dX12_parts_65 : decode cX12_parts 65 = .ok (.iconst 0, 1) := by decide +kernel
theorem dX12_parts_66 : decode cX12_parts 66 = .ok (.iadd, 1) := by decide +kernel
theorem dX12_parts_67 : decode cX12_parts 67 = .ok (.istore_n 2, 1) := by decide +kernel
theorem dX12_parts_68 : decode cX12_parts 68 = .ok (.iinc 3 1, 3) := by decide +kernel
theorem dX12_parts_71 : decode cX12_parts 71 = .ok (.goto (-67), 3) := by decide +kernel
theorem dX12_parts_74 : decode cX12_parts 74 = .ok (.iload_n 2, 1) := by decide +kernel
theorem dX12_parts_75 : decode cX12_parts 75 = .ok (.ireturn, 1) := by decide +kernel
theorem dX12_passes_0 : decode cX12_passes 0 = .ok (.aload_n 0, 1) := by decide +kernel
theorem dX12_passes_1 : decode cX12_passes 1 = .ok (.getfield 123, 3) := by decide +kernel
theorem dX12_passes_4 : decode cX12_passes 4 = .ok (.ifCond .ne 7, 3) := by decide +kernel
theorem dX12_passes_7 : decode cX12_passes 7 = .ok (.aload_n 0, 1) := by decide +kernel
theorem dX12_passes_8 : decode cX12_passes 8 = .ok (.invokevirtual 130, 3) := by decide +kernel
theorem dX12_passes_11 : decode cX12_passes 11 = .ok (.return_, 1) := by decide +kernel
theorem dX12_place_0 : decode cX12_place 0 = .ok (.aload_n 0, 1) := by decide +kernel
theorem dX12_place_1 : decode cX12_place 1 = .ok (.iload_n 1, 1) := by decide +kernel
theorem dX12_place_2 : decode cX12_place 2 = .ok (.iload_n 2, 1) := by decide +kernel
theorem dX12_place_3 : decode cX12_place 3 = .ok (.invokevirtual 70, 3) := by decide +kernel
theorem dX12_place_6 : decode cX12_place 6 = .ok (.ifCond .eq 12, 3) := by decide +kernel
theorem dX12_place_9 : decode cX12_place 9 = .ok (.aload_n 0, 1) := by decide +kernel
theorem dX12_place_10 : decode cX12_place 10 = .ok (.iload_n 1, 1) := by decide +kernel
theorem dX12_place_11 : decode cX12_place 11 = .ok (.iload_n 2, 1) := by decide +kernel
theorem dX12_place_12 : decode cX12_place 12 = .ok (.invokevirtual 220, 3) := by decide +kernel
theorem dX12_place_15 : decode cX12_place 15 = .ok (.goto 5, 3) := by decide +kernel
theorem dX12_place_18 : decode cX12_place 18 = .ok (.bipush (-2), 2) := by decide +kernel
theorem dX12_place_20 : decode cX12_place 20 = .ok (.ireturn, 1) := by decide +kernel
theorem dX12_placeOf_0 : decode cX12_placeOf 0 = .ok (.iconst 0, 1) := by decide +kernel
theorem dX12_placeOf_1 : decode cX12_placeOf 1 = .ok (.istore_n 3, 1) := by decide +kernel
theorem dX12_placeOf_2 : decode cX12_placeOf 2 = .ok (.aload_n 0, 1) := by decide +kernel
theorem dX12_placeOf_3 : decode cX12_placeOf 3 = .ok (.iload_n 1, 1) := by decide +kernel
theorem dX12_placeOf_4 : decode cX12_placeOf 4 = .ok (.iload_n 3, 1) := by decide +kernel
theorem dX12_placeOf_5 : decode cX12_placeOf 5 = .ok (.invokevirtual 217, 3) := by decide +kernel
theorem dX12_placeOf_8 : decode cX12_placeOf 8 = .ok (.iload_n 2, 1) := by decide +kernel
theorem dX12_placeOf_9 : decode cX12_placeOf 9 = .ok (.if_icmp .eq 9, 3) := by decide +kernel
theorem dX12_placeOf_12 : decode cX12_placeOf 12 = .ok (.iinc 3 1, 3) := by decide +kernel
theorem dX12_placeOf_15 : decode cX12_placeOf 15 = .ok (.goto (-13), 3) := by decide +kernel
theorem dX12_placeOf_18 : decode cX12_placeOf 18 = .ok (.iload_n 3, 1) := by decide +kernel
theorem dX12_placeOf_19 : decode cX12_placeOf 19 = .ok (.ireturn, 1) := by decide +kernel
theorem dX12_points_0 : decode cX12_points 0 = .ok (.aload_n 0, 1) := by decide +kernel
theorem dX12_points_1 : decode cX12_points 1 = .ok (.getfield 7, 3) := by decide +kernel
theorem dX12_points_4 : decode cX12_points 4 = .ok (.bipush 91, 2) := by decide +kernel
theorem dX12_points_6 : decode cX12_points 6 = .ok (.iload_n 1, 1) := by decide +kernel
theorem dX12_points_7 : decode cX12_points 7 = .ok (.imul, 1) := by decide +kernel
theorem dX12_points_8 : decode cX12_points 8 = .ok (.iaload, 1) := by decide +kernel
theorem dX12_points_9 : decode cX12_points 9 = .ok (.ireturn, 1) := by decide +kernel
theorem dX12_polish_0 : decode cX12_polish 0 = .ok (.aload_n 0, 1) := by decide +kernel
theorem dX12_polish_1 : decode cX12_polish 1 = .ok (.iload_n 1, 1) := by decide +kernel
theorem dX12_polish_2 : decode cX12_polish 2 = .ok (.invokevirtual 67, 3) := by decide +kernel
theorem dX12_polish_5 : decode cX12_polish 5 = .ok (.ifCond .eq 10, 3) := by decide +kernel
theorem dX12_polish_8 : decode cX12_polish 8 = .ok (.iload_n 2, 1) := by decide +kernel
theorem dX12_polish_9 : decode cX12_polish 9 = .ok (.invokestatic 245, 3) := by decide +kernel
theorem dX12_polish_12 : decode cX12_polish 12 = .ok (.ifCond .ne 6, 3) := by decide +kernel
theorem dX12_polish_15 : decode cX12_polish 15 = .ok (.bipush (-2), 2) := by decide +kernel
theorem dX12_polish_17 : decode cX12_polish 17 = .ok (.ireturn, 1) := by decide +kernel
theorem dX12_polish_18 : decode cX12_polish 18 = .ok (.aload_n 0, 1) := by decide +kernel
theorem dX12_polish_19 : decode cX12_polish 19 = .ok (.iload_n 1, 1) := by decide +kernel
theorem dX12_polish_20 : decode cX12_polish 20 = .ok (.iload_n 2, 1) := by decide +kernel
theorem dX12_polish_21 : decode cX12_polish 21 = .ok (.invokevirtual 323, 3) := by decide +kernel
theorem dX12_polish_24 : decode cX12_polish 24 = .ok (.istore_n 3, 1) := by decide +kernel
theorem dX12_polish_25 : decode cX12_polish 25 = .ok (.aload_n 0, 1) := by decide +kernel
theorem dX12_polish_26 : decode cX12_polish 26 = .ok (.iload_n 1, 1) := by decide +kernel
theorem dX12_polish_27 : decode cX12_polish 27 = .ok (.invokevirtual 320, 3) := by decide +kernel
theorem dX12_polish_30 : decode cX12_polish 30 = .ok (.istore 4, 2) := by decide +kernel
theorem dX12_polish_32 : decode cX12_polish 32 = .ok (.iload_n 3, 1) := by decide +kernel
theorem dX12_polish_33 : decode cX12_polish 33 = .ok (.ireturn, 1) := by decide +kernel
theorem dX12_polished_0 : decode cX12_polished 0 = .ok (.aload_n 0, 1) := by decide +kernel
theorem dX12_polished_1 : decode cX12_polished 1 = .ok (.iload_n 1, 1) := by decide +kernel
theorem dX12_polished_2 : decode cX12_polished 2 = .ok (.invokevirtual 67, 3) := by decide +kernel
theorem dX12_polished_5 : decode cX12_polished 5 = .ok (.ifCond .eq 10, 3) := by decide +kernel
theorem dX12_polished_8 : decode cX12_polished 8 = .ok (.iload_n 2, 1) := by decide +kernel
theorem dX12_polished_9 : decode cX12_polished 9 = .ok (.invokestatic 245, 3) := by decide +kernel
theorem dX12_polished_12 : decode cX12_polished 12 = .ok (.ifCond .ne 6, 3) := by decide +kernel
theorem dX12_polished_15 : decode cX12_polished 15 = .ok (.bipush (-2), 2) := by decide +kernel
theorem dX12_polished_17 : decode cX12_polished 17 = .ok (.ireturn, 1) := by decide +kernel
theorem dX12_polished_18 : decode cX12_polished 18 = .ok (.aload_n 0, 1) := by decide +kernel
theorem dX12_polished_19 : decode cX12_polished 19 = .ok (.iload_n 1, 1) := by decide +kernel
theorem dX12_polished_20 : decode cX12_polished 20 = .ok (.iload_n 2, 1) := by decide +kernel
theorem dX12_polished_21 : decode cX12_polished 21 = .ok (.invokevirtual 323, 3) := by decide +kernel
theorem dX12_polished_24 : decode cX12_polished 24 = .ok (.istore_n 3, 1) := by decide +kernel
theorem dX12_polished_25 : decode cX12_polished 25 = .ok (.aload_n 0, 1) := by decide +kernel
theorem dX12_polished_26 : decode cX12_polished 26 = .ok (.iload_n 1, 1) := by decide +kernel
theorem dX12_polished_27 : decode cX12_polished 27 = .ok (.iload_n 2, 1) := by decide +kernel
theorem dX12_polished_28 : decode cX12_polished 28 = .ok (.invokevirtual 251, 3) := by decide +kernel
theorem dX12_polished_31 : decode cX12_polished 31 = .ok (.ireturn, 1) := by decide +kernel
theorem dX12_polishes_0 : decode cX12_polishes 0 = .ok (.aload_n 0, 1) := by decide +kernel
theorem dX12_polishes_1 : decode cX12_polishes 1 = .ok (.iload_n 1, 1) := by decide +kernel
theorem dX12_polishes_2 : decode cX12_polishes 2 = .ok (.invokevirtual 248, 3) := by decide +kernel
theorem dX12_polishes_5 : decode cX12_polishes 5 = .ok (.iconst 0, 1) := by decide +kernel
theorem dX12_polishes_6 : decode cX12_polishes 6 = .ok (.istore_n 3, 1) := by decide +kernel
theorem dX12_polishes_7 : decode cX12_polishes 7 = .ok (.aload_n 0, 1) := by decide +kernel
theorem dX12_polishes_8 : decode cX12_polishes 8 = .ok (.iload_n 1, 1) := by decide +kernel
theorem dX12_polishes_9 : decode cX12_polishes 9 = .ok (.iload_n 2, 1) := by decide +kernel
theorem dX12_polishes_10 : decode cX12_polishes 10 = .ok (.invokevirtual 251, 3) := by decide +kernel
theorem dX12_polishes_13 : decode cX12_polishes 13 = .ok (.istore 4, 2) := by decide +kernel
theorem dX12_polishes_15 : decode cX12_polishes 15 = .ok (.iconst 1, 1) := by decide +kernel
theorem dX12_polishes_16 : decode cX12_polishes 16 = .ok (.istore 5, 2) := by decide +kernel
theorem dX12_polishes_18 : decode cX12_polishes 18 = .ok (.iload 5, 2) := by decide +kernel
theorem dX12_polishes_20 : decode cX12_polishes 20 = .ok (.ifCond .eq 133, 3) := by decide +kernel
theorem dX12_polishes_23 : decode cX12_polishes 23 = .ok (.iconst (-1), 1) := by decide +kernel
theorem dX12_polishes_24 : decode cX12_polishes 24 = .ok (.istore 6, 2) := by decide +kernel
theorem dX12_polishes_26 : decode cX12_polishes 26 = .ok (.iconst (-1), 1) := by decide +kernel
theorem dX12_polishes_27 : decode cX12_polishes 27 = .ok (.istore 7, 2) := by decide +kernel
theorem dX12_polishes_29 : decode cX12_polishes 29 = .ok (.iload 4, 2) := by decide +kernel
theorem dX12_polishes_31 : decode cX12_polishes 31 = .ok (.istore 8, 2) := by decide +kernel
theorem dX12_polishes_33 : decode cX12_polishes 33 = .ok (.iconst 0, 1) := by decide +kernel
theorem dX12_polishes_34 : decode cX12_polishes 34 = .ok (.istore 9, 2) := by decide +kernel
theorem dX12_polishes_36 : decode cX12_polishes 36 = .ok (.iload 9, 2) := by decide +kernel
theorem dX12_polishes_38 : decode cX12_polishes 38 = .ok (.aload_n 0, 1) := by decide +kernel
theorem dX12_polishes_39 : decode cX12_polishes 39 = .ok (.iload_n 1, 1) := by decide +kernel
theorem dX12_polishes_40 : decode cX12_polishes 40 = .ok (.invokevirtual 63, 3) := by decide +kernel
theorem dX12_polishes_43 : decode cX12_polishes 43 = .ok (.if_icmp .ge 74, 3) := by decide +kernel
theorem dX12_polishes_46 : decode cX12_polishes 46 = .ok (.iload 9, 2) := by decide +kernel
theorem dX12_polishes_48 : decode cX12_polishes 48 = .ok (.iconst 1, 1) := by decide +kernel
theorem dX12_polishes_49 : decode cX12_polishes 49 = .ok (.iadd, 1) := by decide +kernel
theorem dX12_polishes_50 : decode cX12_polishes 50 = .ok (.istore 10, 2) := by decide +kernel
theorem dX12_polishes_52 : decode cX12_polishes 52 = .ok (.iload 10, 2) := by decide +kernel
theorem dX12_polishes_54 : decode cX12_polishes 54 = .ok (.aload_n 0, 1) := by decide +kernel
theorem dX12_polishes_55 : decode cX12_polishes 55 = .ok (.iload_n 1, 1) := by decide +kernel
theorem dX12_polishes_56 : decode cX12_polishes 56 = .ok (.invokevirtual 63, 3) := by decide +kernel
theorem dX12_polishes_59 : decode cX12_polishes 59 = .ok (.if_icmp .ge 52, 3) := by decide +kernel
theorem dX12_polishes_62 : decode cX12_polishes 62 = .ok (.aload_n 0, 1) := by decide +kernel
theorem dX12_polishes_63 : decode cX12_polishes 63 = .ok (.iload 9, 2) := by decide +kernel
theorem dX12_polishes_65 : decode cX12_polishes 65 = .ok (.iload 10, 2) := by decide +kernel
theorem dX12_polishes_67 : decode cX12_polishes 67 = .ok (.invokevirtual 317, 3) := by decide +kernel
theorem dX12_polishes_70 : decode cX12_polishes 70 = .ok (.aload_n 0, 1) := by decide +kernel
theorem dX12_polishes_71 : decode cX12_polishes 71 = .ok (.iload_n 1, 1) := by decide +kernel
theorem dX12_polishes_72 : decode cX12_polishes 72 = .ok (.iload_n 2, 1) := by decide +kernel
theorem dX12_polishes_73 : decode cX12_polishes 73 = .ok (.invokevirtual 251, 3) := by decide +kernel
theorem dX12_polishes_76 : decode cX12_polishes 76 = .ok (.istore 11, 2) := by decide +kernel
theorem dX12_polishes_78 : decode cX12_polishes 78 = .ok (.aload_n 0, 1) := by decide +kernel
theorem dX12_polishes_79 : decode cX12_polishes 79 = .ok (.iload 9, 2) := by decide +kernel
theorem dX12_polishes_81 : decode cX12_polishes 81 = .ok (.iload 10, 2) := by decide +kernel
theorem dX12_polishes_83 : decode cX12_polishes 83 = .ok (.invokevirtual 317, 3) := by decide +kernel
theorem dX12_polishes_86 : decode cX12_polishes 86 = .ok (.iload 11, 2) := by decide +kernel
theorem dX12_polishes_88 : decode cX12_polishes 88 = .ok (.iload 8, 2) := by decide +kernel
theorem dX12_polishes_90 : decode cX12_polishes 90 = .ok (.if_icmp .ge 15, 3) := by decide +kernel
theorem dX12_polishes_93 : decode cX12_polishes 93 = .ok (.iload 11, 2) := by decide +kernel
theorem dX12_polishes_95 : decode cX12_polishes 95 = .ok (.istore 8, 2) := by decide +kernel
theorem dX12_polishes_97 : decode cX12_polishes 97 = .ok (.iload 9, 2) := by decide +kernel
theorem dX12_polishes_99 : decode cX12_polishes 99 = .ok (.istore 6, 2) := by decide +kernel
theorem dX12_polishes_101 : decode cX12_polishes 101 = .ok (.iload 10, 2) := by decide +kernel
theorem dX12_polishes_103 : decode cX12_polishes 103 = .ok (.istore 7, 2) := by decide +kernel
theorem dX12_polishes_105 : decode cX12_polishes 105 = .ok (.iinc 10 1, 3) := by decide +kernel
theorem dX12_polishes_108 : decode cX12_polishes 108 = .ok (.goto (-56), 3) := by decide +kernel
theorem dX12_polishes_111 : decode cX12_polishes 111 = .ok (.iinc 9 1, 3) := by decide +kernel
theorem dX12_polishes_114 : decode cX12_polishes 114 = .ok (.goto (-78), 3) := by decide +kernel
theorem dX12_polishes_117 : decode cX12_polishes 117 = .ok (.iload 6, 2) := by decide +kernel
theorem dX12_polishes_119 : decode cX12_polishes 119 = .ok (.iconst (-1), 1) := by decide +kernel
theorem dX12_polishes_120 : decode cX12_polishes 120 = .ok (.if_icmp .eq 7, 3) := by decide +kernel
theorem dX12_polishes_123 : decode cX12_polishes 123 = .ok (.iconst 1, 1) := by decide +kernel
theorem dX12_polishes_124 : decode cX12_polishes 124 = .ok (.goto 4, 3) := by decide +kernel
theorem dX12_polishes_127 : decode cX12_polishes 127 = .ok (.iconst 0, 1) := by decide +kernel
theorem dX12_polishes_128 : decode cX12_polishes 128 = .ok (.istore 5, 2) := by decide +kernel
