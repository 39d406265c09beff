/-! decode rows -/
theorem dX10_thinnestHalf_52 : decode cX10_thinnestHalf 52 = .ok (.iload_n 1, 1) := by decide +kernel
theorem dX10_thinnestHalf_53 : decode cX10_thinnestHalf 53 = .ok (.ireturn, 1) := by decide +kernel
theorem dX10_weightAt_0 : decode cX10_weightAt 0 = .ok (.iconst 0, 1) := by decide +kernel
theorem dX10_weightAt_1 : decode cX10_weightAt 1 = .ok (.istore_n 2, 1) := by decide +kernel
theorem dX10_weightAt_2 : decode cX10_weightAt 2 = .ok (.iconst 0, 1) := by decide +kernel
theorem dX10_weightAt_3 : decode cX10_weightAt 3 = .ok (.istore_n 3, 1) := by decide +kernel
theorem dX10_weightAt_4 : decode cX10_weightAt 4 = .ok (.iload_n 3, 1) := by decide +kernel
theorem dX10_weightAt_5 : decode cX10_weightAt 5 = .ok (.aload_n 0, 1) := by decide +kernel
theorem dX10_weightAt_6 : decode cX10_weightAt 6 = .ok (.getfield 9, 3) := by decide +kernel
theorem dX10_weightAt_9 : decode cX10_weightAt 9 = .ok (.if_icmp .ge 18, 3) := by decide +kernel
theorem dX10_weightAt_12 : decode cX10_weightAt 12 = .ok (.iload_n 2, 1) := by decide +kernel
theorem dX10_weightAt_13 : decode cX10_weightAt 13 = .ok (.aload_n 0, 1) := by decide +kernel
theorem dX10_weightAt_14 : decode cX10_weightAt 14 = .ok (.iload_n 1, 1) := by decide +kernel
theorem dX10_weightAt_15 : decode cX10_weightAt 15 = .ok (.iload_n 3, 1) := by decide +kernel
theorem dX10_weightAt_16 : decode cX10_weightAt 16 = .ok (.invokevirtual 21, 3) := by decide +kernel
theorem dX10_weightAt_19 : decode cX10_weightAt 19 = .ok (.iadd, 1) := by decide +kernel
theorem dX10_weightAt_20 : decode cX10_weightAt 20 = .ok (.istore_n 2, 1) := by decide +kernel
theorem dX10_weightAt_21 : decode cX10_weightAt 21 = .ok (.iinc 3 1, 3) := by decide +kernel
theorem dX10_weightAt_24 : decode cX10_weightAt 24 = .ok (.goto (-20), 3) := by decide +kernel
theorem dX10_weightAt_27 : decode cX10_weightAt 27 = .ok (.iload_n 2, 1) := by decide +kernel
theorem dX10_weightAt_28 : decode cX10_weightAt 28 = .ok (.ireturn, 1) := by decide +kernel
theorem dX10_wholeWeight_0 : decode cX10_wholeWeight 0 = .ok (.iconst 0, 1) := by decide +kernel
theorem dX10_wholeWeight_1 : decode cX10_wholeWeight 1 = .ok (.istore_n 1, 1) := by decide +kernel
theorem dX10_wholeWeight_2 : decode cX10_wholeWeight 2 = .ok (.iconst 0, 1) := by decide +kernel
theorem dX10_wholeWeight_3 : decode cX10_wholeWeight 3 = .ok (.istore_n 2, 1) := by decide +kernel
theorem dX10_wholeWeight_4 : decode cX10_wholeWeight 4 = .ok (.iload_n 2, 1) := by decide +kernel
theorem dX10_wholeWeight_5 : decode cX10_wholeWeight 5 = .ok (.aload_n 0, 1) := by decide +kernel
theorem dX10_wholeWeight_6 : decode cX10_wholeWeight 6 = .ok (.getfield 9, 3) := by decide +kernel
theorem dX10_wholeWeight_9 : decode cX10_wholeWeight 9 = .ok (.if_icmp .ge 17, 3) := by decide +kernel
theorem dX10_wholeWeight_12 : decode cX10_wholeWeight 12 = .ok (.iload_n 1, 1) := by decide +kernel
theorem dX10_wholeWeight_13 : decode cX10_wholeWeight 13 = .ok (.aload_n 0, 1) := by decide +kernel
theorem dX10_wholeWeight_14 : decode cX10_wholeWeight 14 = .ok (.iload_n 2, 1) := by decide +kernel
theorem dX10_wholeWeight_15 : decode cX10_wholeWeight 15 = .ok (.invokestatic 15, 3) := by decide +kernel
theorem dX10_wholeWeight_18 : decode cX10_wholeWeight 18 = .ok (.iadd, 1) := by decide +kernel
theorem dX10_wholeWeight_19 : decode cX10_wholeWeight 19 = .ok (.istore_n 1, 1) := by decide +kernel
theorem dX10_wholeWeight_20 : decode cX10_wholeWeight 20 = .ok (.iinc 2 1, 3) := by decide +kernel
theorem dX10_wholeWeight_23 : decode cX10_wholeWeight 23 = .ok (.goto (-19), 3) := by decide +kernel
theorem dX10_wholeWeight_26 : decode cX10_wholeWeight 26 = .ok (.iload_n 1, 1) := by decide +kernel
theorem dX10_wholeWeight_27 : decode cX10_wholeWeight 27 = .ok (.iconst 2, 1) := by decide +kernel
theorem dX10_wholeWeight_28 : decode cX10_wholeWeight 28 = .ok (.idiv, 1) := by decide +kernel
theorem dX10_wholeWeight_29 : decode cX10_wholeWeight 29 = .ok (.ireturn, 1) := by decide +kernel
theorem dX11_adds_0 : decode cX11_adds 0 = .ok (.aload_n 0, 1) := by decide +kernel
theorem dX11_adds_1 : decode cX11_adds 1 = .ok (.iload_n 1, 1) := by decide +kernel
theorem dX11_adds_2 : decode cX11_adds 2 = .ok (.invokevirtual 116, 3) := by decide +kernel
theorem dX11_adds_5 : decode cX11_adds 5 = .ok (.astore 5, 2) := by decide +kernel
theorem dX11_adds_7 : decode cX11_adds 7 = .ok (.aload 5, 2) := by decide +kernel
theorem dX11_adds_9 : decode cX11_adds 9 = .ok (.ifnull 26, 3) := by decide +kernel
theorem dX11_adds_12 : decode cX11_adds 12 = .ok (.aload 5, 2) := by decide +kernel
theorem dX11_adds_14 : decode cX11_adds 14 = .ok (.iload_n 2, 1) := by decide +kernel
theorem dX11_adds_15 : decode cX11_adds 15 = .ok (.iload_n 3, 1) := by decide +kernel
theorem dX11_adds_16 : decode cX11_adds 16 = .ok (.invokevirtual 281, 3) := by decide +kernel
theorem dX11_adds_19 : decode cX11_adds 19 = .ok (.ifCond .eq 16, 3) := by decide +kernel
theorem dX11_adds_22 : decode cX11_adds 22 = .ok (.iload 4, 2) := by decide +kernel
theorem dX11_adds_24 : decode cX11_adds 24 = .ok (.iconst 1, 1) := by decide +kernel
theorem dX11_adds_25 : decode cX11_adds 25 = .ok (.if_icmp .lt 10, 3) := by decide +kernel
theorem dX11_adds_28 : decode cX11_adds 28 = .ok (.iload 4, 2) := by decide +kernel
theorem dX11_adds_30 : decode cX11_adds 30 = .ok (.bipush 9, 2) := by decide +kernel
theorem dX11_adds_32 : decode cX11_adds 32 = .ok (.if_icmp .le 6, 3) := by decide +kernel
theorem dX11_adds_35 : decode cX11_adds 35 = .ok (.bipush (-2), 2) := by decide +kernel
theorem dX11_adds_37 : decode cX11_adds 37 = .ok (.ireturn, 1) := by decide +kernel
theorem dX11_adds_38 : decode cX11_adds 38 = .ok (.aload 5, 2) := by decide +kernel
theorem dX11_adds_40 : decode cX11_adds 40 = .ok (.iload_n 2, 1) := by decide +kernel
theorem dX11_adds_41 : decode cX11_adds 41 = .ok (.iload_n 3, 1) := by decide +kernel
theorem dX11_adds_42 : decode cX11_adds 42 = .ok (.invokevirtual 148, 3) := by decide +kernel
theorem dX11_adds_45 : decode cX11_adds 45 = .ok (.istore 6, 2) := by decide +kernel
theorem dX11_adds_47 : decode cX11_adds 47 = .ok (.iload 6, 2) := by decide +kernel
theorem dX11_adds_49 : decode cX11_adds 49 = .ok (.ifCond .ne 16, 3) := by decide +kernel
theorem dX11_adds_52 : decode cX11_adds 52 = .ok (.aload 5, 2) := by decide +kernel
theorem dX11_adds_54 : decode cX11_adds 54 = .ok (.getfield 100, 3) := by decide +kernel
theorem dX11_adds_57 : decode cX11_adds 57 = .ok (.bipush 30, 2) := by decide +kernel
theorem dX11_adds_59 : decode cX11_adds 59 = .ok (.if_icmp .lt 6, 3) := by decide +kernel
theorem dX11_adds_62 : decode cX11_adds 62 = .ok (.bipush (-5), 2) := by decide +kernel
theorem dX11_adds_64 : decode cX11_adds 64 = .ok (.ireturn, 1) := by decide +kernel
theorem dX11_adds_65 : decode cX11_adds 65 = .ok (.aload_n 0, 1) := by decide +kernel
theorem dX11_adds_66 : decode cX11_adds 66 = .ok (.getfield 65, 3) := by decide +kernel
theorem dX11_adds_69 : decode cX11_adds 69 = .ok (.aload 5, 2) := by decide +kernel
theorem dX11_adds_71 : decode cX11_adds 71 = .ok (.invokevirtual 90, 3) := by decide +kernel
theorem dX11_adds_74 : decode cX11_adds 74 = .ok (.aload 5, 2) := by decide +kernel
theorem dX11_adds_76 : decode cX11_adds 76 = .ok (.iload_n 2, 1) := by decide +kernel
theorem dX11_adds_77 : decode cX11_adds 77 = .ok (.iload_n 3, 1) := by decide +kernel
theorem dX11_adds_78 : decode cX11_adds 78 = .ok (.iload 4, 2) := by decide +kernel
theorem dX11_adds_80 : decode cX11_adds 80 = .ok (.invokevirtual 285, 3) := by decide +kernel
theorem dX11_adds_83 : decode cX11_adds 83 = .ok (.aload_n 0, 1) := by decide +kernel
theorem dX11_adds_84 : decode cX11_adds 84 = .ok (.iload_n 1, 1) := by decide +kernel
theorem dX11_adds_85 : decode cX11_adds 85 = .ok (.invokevirtual 97, 3) := by decide +kernel
theorem dX11_adds_88 : decode cX11_adds 88 = .ok (.iload 6, 2) := by decide +kernel
theorem dX11_adds_90 : decode cX11_adds 90 = .ok (.ireturn, 1) := by decide +kernel
theorem dX11_among_0 : decode cX11_among 0 = .ok (.aload_n 0, 1) := by decide +kernel
theorem dX11_among_1 : decode cX11_among 1 = .ok (.iload_n 1, 1) := by decide +kernel
theorem dX11_among_2 : decode cX11_among 2 = .ok (.iload_n 2, 1) := by decide +kernel
theorem dX11_among_3 : decode cX11_among 3 = .ok (.invokevirtual 189, 3) := by decide +kernel
theorem dX11_among_6 : decode cX11_among 6 = .ok (.astore 4, 2) := by decide +kernel
theorem dX11_among_8 : decode cX11_among 8 = .ok (.aload 4, 2) := by decide +kernel
theorem dX11_among_10 : decode cX11_among 10 = .ok (.ifnull 22, 3) := by decide +kernel
theorem dX11_among_13 : decode cX11_among 13 = .ok (.iload_n 2, 1) := by decide +kernel
theorem dX11_among_14 : decode cX11_among 14 = .ok (.invokestatic 204, 3) := by decide +kernel
theorem dX11_among_17 : decode cX11_among 17 = .ok (.ifCond .eq 15, 3) := by decide +kernel
theorem dX11_among_20 : decode cX11_among 20 = .ok (.iload_n 2, 1) := by decide +kernel
theorem dX11_among_21 : decode cX11_among 21 = .ok (.iconst 2, 1) := by decide +kernel
theorem dX11_among_22 : decode cX11_among 22 = .ok (.if_icmp .eq 10, 3) := by decide +kernel
theorem dX11_among_25 : decode cX11_among 25 = .ok (.iload_n 3, 1) := by decide +kernel
theorem dX11_among_26 : decode cX11_among 26 = .ok (.invokestatic 172, 3) := by decide +kernel
theorem dX11_among_29 : decode cX11_among 29 = .ok (.ifCond .ne 6, 3) := by decide +kernel
theorem dX11_among_32 : decode cX11_among 32 = .ok (.bipush (-2), 2) := by decide +kernel
theorem dX11_among_34 : decode cX11_among 34 = .ok (.ireturn, 1) := by decide +kernel
theorem dX11_among_35 : decode cX11_among 35 = .ok (.aload_n 0, 1) := by decide +kernel
theorem dX11_among_36 : decode cX11_among 36 = .ok (.getfield 47, 3) := by decide +kernel
theorem dX11_among_39 : decode cX11_among 39 = .ok (.aload_n 0, 1) := by decide +kernel
theorem dX11_among_40 : decode cX11_among 40 = .ok (.getfield 32, 3) := by decide +kernel
theorem dX11_among_43 : decode cX11_among 43 = .ok (.iload_n 1, 1) := by decide +kernel
theorem dX11_among_44 : decode cX11_among 44 = .ok (.aaload, 1) := by decide +kernel
theorem dX11_among_45 : decode cX11_among 45 = .ok (.iload_n 3, 1) := by decide +kernel
theorem dX11_among_46 : decode cX11_among 46 = .ok (.iload_n 2, 1) := by decide +kernel
theorem dX11_among_47 : decode cX11_among 47 = .ok (.aload 4, 2) := by decide +kernel
theorem dX11_among_49 : decode cX11_among 49 = .ok (.getfield 193, 3) := by decide +kernel
theorem dX11_among_52 : decode cX11_among 52 = .ok (.invokevirtual 224, 3) := by decide +kernel
theorem dX11_among_55 : decode cX11_among 55 = .ok (.ireturn, 1) := by decide +kernel
theorem dX11_bag_0 : decode cX11_bag 0 = .ok (.aload_n 0, 1) := by decide +kernel
theorem dX11_bag_1 : decode cX11_bag 1 = .ok (.iload_n 1, 1) := by decide +kernel
theorem dX11_bag_2 : decode cX11_bag 2 = .ok (.invokevirtual 116, 3) := by decide +kernel
theorem dX11_bag_5 : decode cX11_bag 5 = .ok (.astore 4, 2) := by decide +kernel
theorem dX11_bag_7 : decode cX11_bag 7 = .ok (.aload 4, 2) := by decide +kernel
theorem dX11_bag_9 : decode cX11_bag 9 = .ok (.ifnull 12, 3) := by decide +kernel
theorem dX11_bag_12 : decode cX11_bag 12 = .ok (.aload 4, 2) := by decide +kernel
theorem dX11_bag_14 : decode cX11_bag 14 = .ok (.iload_n 3, 1) := by decide +kernel
theorem dX11_bag_15 : decode cX11_bag 15 = .ok (.invokevirtual 141, 3) := by decide +kernel
theorem dX11_bag_18 : decode cX11_bag 18 = .ok (.ifCond .ne 6, 3) := by decide +kernel
theorem dX11_bag_21 : decode cX11_bag 21 = .ok (.bipush (-2), 2) := by decide +kernel
theorem dX11_bag_23 : decode cX11_bag 23 = .ok (.ireturn, 1) := by decide +kernel
theorem dX11_bag_24 : decode cX11_bag 24 = .ok (.iload_n 2, 1) := by decide +kernel
theorem dX11_bag_25 : decode cX11_bag 25 = .ok (.ifCond .ne 10, 3) := by decide +kernel
theorem dX11_bag_28 : decode cX11_bag 28 = .ok (.aload 4, 2) := by decide +kernel
theorem dX11_bag_30 : decode cX11_bag 30 = .ok (.iload_n 3, 1) := by decide +kernel
theorem dX11_bag_31 : decode cX11_bag 31 = .ok (.invokestatic 243, 3) := by decide +kernel
theorem dX11_bag_34 : decode cX11_bag 34 = .ok (.ireturn, 1) := by decide +kernel
theorem dX11_bag_35 : decode cX11_bag 35 = .ok (.iload_n 2, 1) := by decide +kernel
theorem dX11_bag_36 : decode cX11_bag 36 = .ok (.iconst 1, 1) := by decide +kernel
theorem dX11_bag_37 : decode cX11_bag 37 = .ok (.if_icmp .ne 12, 3) := by decide +kernel
theorem dX11_bag_40 : decode cX11_bag 40 = .ok (.aload 4, 2) := by decide +kernel
theorem dX11_bag_42 : decode cX11_bag 42 = .ok (.iload_n 3, 1) := by decide +kernel
theorem dX11_bag_43 : decode cX11_bag 43 = .ok (.invokestatic 246, 3) := by decide +kernel
theorem dX11_bag_46 : decode cX11_bag 46 = .ok (.goto 5, 3) := by decide +kernel
theorem dX11_bag_49 : decode cX11_bag 49 = .ok (.bipush (-2), 2) := by decide +kernel
theorem dX11_bag_51 : decode cX11_bag 51 = .ok (.ireturn, 1) := by decide +kernel
theorem dX11_best_0 : decode cX11_best 0 = .ok (.aload_n 0, 1) := by decide +kernel
theorem dX11_best_1 : decode cX11_best 1 = .ok (.iload_n 1, 1) := by decide +kernel
theorem dX11_best_2 : decode cX11_best 2 = .ok (.iload_n 2, 1) := by decide +kernel
theorem dX11_best_3 : decode cX11_best 3 = .ok (.invokevirtual 189, 3) := by decide +kernel
theorem dX11_best_6 : decode cX11_best 6 = .ok (.astore 4, 2) := by decide +kernel
theorem dX11_best_8 : decode cX11_best 8 = .ok (.aload 4, 2) := by decide +kernel
theorem dX11_best_10 : decode cX11_best 10 = .ok (.ifnull 16, 3) := by decide +kernel
theorem dX11_best_13 : decode cX11_best 13 = .ok (.aload_n 0, 1) := by decide +kernel
theorem dX11_best_14 : decode cX11_best 14 = .ok (.getfield 32, 3) := by decide +kernel
theorem dX11_best_17 : decode cX11_best 17 = .ok (.iload_n 1, 1) := by decide +kernel
theorem dX11_best_18 : decode cX11_best 18 = .ok (.aaload, 1) := by decide +kernel
theorem dX11_best_19 : decode cX11_best 19 = .ok (.iload_n 3, 1) := by decide +kernel
theorem dX11_best_20 : decode cX11_best 20 = .ok (.invokevirtual 141, 3) := by decide +kernel
theorem dX11_best_23 : decode cX11_best 23 = .ok (.ifCond .ne 8, 3) := by decide +kernel
theorem dX11_best_26 : decode cX11_best 26 = .ok (.bipush (-2), 2) := by decide +kernel
theorem dX11_best_28 : decode cX11_best 28 = .ok (.goto 10, 3) := by decide +kernel
theorem dX11_best_31 : decode cX11_best 31 = .ok (.aload 4, 2) := by decide +kernel
theorem dX11_best_33 : decode cX11_best 33 = .ok (.getfield 198, 3) := by decide +kernel
theorem dX11_best_36 : decode cX11_best 36 = .ok (.iload_n 3, 1) := by decide +kernel
theorem dX11_best_37 : decode cX11_best 37 = .ok (.iaload, 1) := by decide +kernel
theorem dX11_best_38 : decode cX11_best 38 = .ok (.ireturn, 1) := by decide +kernel
theorem dX11_bound_0 : decode cX11_bound 0 = .ok (.aload_n 0, 1) := by decide +kernel
theorem dX11_bound_1 : decode cX11_bound 1 = .ok (.iload_n 1, 1) := by decide +kernel
theorem dX11_bound_2 : decode cX11_bound 2 = .ok (.invokevirtual 116, 3) := by decide +kernel
theorem dX11_bound_5 : decode cX11_bound 5 = .ok (.astore 4, 2) := by decide +kernel
theorem dX11_bound_7 : decode cX11_bound 7 = .ok (.aload 4, 2) := by decide +kernel
theorem dX11_bound_9 : decode cX11_bound 9 = .ok (.ifnull 10, 3) := by decide +kernel
theorem dX11_bound_12 : decode cX11_bound 12 = .ok (.iload_n 2, 1) := by decide +kernel
theorem dX11_bound_13 : decode cX11_bound 13 = .ok (.invokestatic 204, 3) := by decide +kernel
theorem dX11_bound_16 : decode cX11_bound 16 = .ok (.ifCond .ne 6, 3) := by decide +kernel
theorem dX11_bound_19 : decode cX11_bound 19 = .ok (.bipush (-2), 2) := by decide +kernel
theorem dX11_bound_21 : decode cX11_bound 21 = .ok (.ireturn, 1) := by decide +kernel
theorem dX11_bound_22 : decode cX11_bound 22 = .ok (.iload_n 3, 1) := by decide +kernel
theorem dX11_bound_23 : decode cX11_bound 23 = .ok (.iconst 1, 1) := by decide +kernel
theorem dX11_bound_24 : decode cX11_bound 24 = .ok (.if_icmp .ne 14, 3) := by decide +kernel
theorem dX11_bound_27 : decode cX11_bound 27 = .ok (.iload_n 2, 1) := by decide +kernel
theorem dX11_bound_28 : decode cX11_bound 28 = .ok (.iconst 2, 1) := by decide +kernel
theorem dX11_bound_29 : decode cX11_bound 29 = .ok (.if_icmp .ne 9, 3) := by decide +kernel
theorem dX11_bound_32 : decode cX11_bound 32 = .ok (.aload 4, 2) := by decide +kernel
theorem dX11_bound_34 : decode cX11_bound 34 = .ok (.invokestatic 215, 3) := by decide +kernel
theorem dX11_bound_37 : decode cX11_bound 37 = .ok (.ireturn, 1) := by decide +kernel
theorem dX11_bound_38 : decode cX11_bound 38 = .ok (.iload_n 3, 1) := by decide +kernel
theorem dX11_bound_39 : decode cX11_bound 39 = .ok (.ifCond .ne 12, 3) := by decide +kernel
theorem dX11_bound_42 : decode cX11_bound 42 = .ok (.aload 4, 2) := by decide +kernel
theorem dX11_bound_44 : decode cX11_bound 44 = .ok (.iload_n 2, 1) := by decide +kernel
theorem dX11_bound_45 : decode cX11_bound 45 = .ok (.invokestatic 218, 3) := by decide +kernel
theorem dX11_bound_48 : decode cX11_bound 48 = .ok (.goto 5, 3) := by decide +kernel
theorem dX11_bound_51 : decode cX11_bound 51 = .ok (.bipush (-2), 2) := by decide +kernel
theorem dX11_bound_53 : decode cX11_bound 53 = .ok (.ireturn, 1) := by decide +kernel
theorem dX11_count_0 : decode cX11_count 0 = .ok (.iload_n 1, 1) := by decide +kernel
theorem dX11_count_1 : decode cX11_count 1 = .ok (.tableswitch 60 0 3 #[31, 36, 44, 52], 31) := by decide +kernel
theorem dX11_count_32 : decode cX11_count 32 = .ok (.aload_n 0, 1) := by decide +kernel
theorem dX11_count_33 : decode cX11_count 33 = .ok (.invokevirtual 109, 3) := by decide +kernel
theorem dX11_count_36 : decode cX11_count 36 = .ok (.ireturn, 1) := by decide +kernel
theorem dX11_count_37 : decode cX11_count 37 = .ok (.aload_n 0, 1) := by decide +kernel
theorem dX11_count_38 : decode cX11_count 38 = .ok (.getfield 61, 3) := by decide +kernel
theorem dX11_count_41 : decode cX11_count 41 = .ok (.getfield 113, 3) := by decide +kernel
theorem dX11_count_44 : decode cX11_count 44 = .ok (.ireturn, 1) := by decide +kernel
theorem dX11_count_45 : decode cX11_count 45 = .ok (.aload_n 0, 1) := by decide +kernel
theorem dX11_count_46 : decode cX11_count 46 = .ok (.getfield 14, 3) := by decide +kernel
theorem dX11_count_49 : decode cX11_count 49 = .ok (.getfield 79, 3) := by decide +kernel
theorem dX11_count_52 : decode cX11_count 52 = .ok (.ireturn, 1) := by decide +kernel
theorem dX11_count_53 : decode cX11_count 53 = .ok (.aload_n 0, 1) := by decide +kernel
theorem dX11_count_54 : decode cX11_count 54 = .ok (.getfield 18, 3) := by decide +kernel
theorem dX11_count_57 : decode cX11_count 57 = .ok (.getfield 79, 3) := by decide +kernel
theorem dX11_count_60 : decode cX11_count 60 = .ok (.ireturn, 1) := by decide +kernel
theorem dX11_count_61 : decode cX11_count 61 = .ok (.iconst (-1), 1) := by decide +kernel
theorem dX11_count_62 : decode cX11_count 62 = .ok (.ireturn, 1) := by decide +kernel
theorem dX11_cuts_0 : decode cX11_cuts 0 = .ok (.aload_n 0, 1) := by decide +kernel
theorem dX11_cuts_1 : decode cX11_cuts 1 = .ok (.iload_n 1, 1) := by decide +kernel
theorem dX11_cuts_2 : decode cX11_cuts 2 = .ok (.invokevirtual 116, 3) := by decide +kernel
theorem dX11_cuts_5 : decode cX11_cuts 5 = .ok (.astore 4, 2) := by decide +kernel
theorem dX11_cuts_7 : decode cX11_cuts 7 = .ok (.aload 4, 2) := by decide +kernel
theorem dX11_cuts_9 : decode cX11_cuts 9 = .ok (.ifnull 13, 3) := by decide +kernel
theorem dX11_cuts_12 : decode cX11_cuts 12 = .ok (.aload 4, 2) := by decide +kernel
theorem dX11_cuts_14 : decode cX11_cuts 14 = .ok (.iload_n 2, 1) := by decide +kernel
theorem dX11_cuts_15 : decode cX11_cuts 15 = .ok (.iload_n 3, 1) := by decide +kernel
theorem dX11_cuts_16 : decode cX11_cuts 16 = .ok (.invokevirtual 281, 3) := by decide +kernel
theorem dX11_cuts_19 : decode cX11_cuts 19 = .ok (.ifCond .ne 6, 3) := by decide +kernel
theorem dX11_cuts_22 : decode cX11_cuts 22 = .ok (.bipush (-2), 2) := by decide +kernel
theorem dX11_cuts_24 : decode cX11_cuts 24 = .ok (.ireturn, 1) := by decide +kernel
theorem dX11_cuts_25 : decode cX11_cuts 25 = .ok (.aload 4, 2) := by decide +kernel
theorem dX11_cuts_27 : decode cX11_cuts 27 = .ok (.iload_n 2, 1) := by decide +kernel
theorem dX11_cuts_28 : decode cX11_cuts 28 = .ok (.iload_n 3, 1) := by decide +kernel
theorem dX11_cuts_29 : decode cX11_cuts 29 = .ok (.invokevirtual 148, 3) := by decide +kernel
theorem dX11_cuts_32 : decode cX11_cuts 32 = .ok (.istore 5, 2) := by decide +kernel
theorem dX11_cuts_34 : decode cX11_cuts 34 = .ok (.iload 5, 2) := by decide +kernel
theorem dX11_cuts_36 : decode cX11_cuts 36 = .ok (.ifCond .ne 6, 3) := by decide +kernel
theorem dX11_cuts_39 : decode cX11_cuts 39 = .ok (.bipush (-6), 2) := by decide +kernel
theorem dX11_cuts_41 : decode cX11_cuts 41 = .ok (.ireturn, 1) := by decide +kernel
theorem dX11_cuts_42 : decode cX11_cuts 42 = .ok (.aload_n 0, 1) := by decide +kernel
theorem dX11_cuts_43 : decode cX11_cuts 43 = .ok (.getfield 65, 3) := by decide +kernel
theorem dX11_cuts_46 : decode cX11_cuts 46 = .ok (.aload 4, 2) := by decide +kernel
theorem dX11_cuts_48 : decode cX11_cuts 48 = .ok (.invokevirtual 90, 3) := by decide +kernel
theorem dX11_cuts_51 : decode cX11_cuts 51 = .ok (.aload 4, 2) := by decide +kernel
theorem dX11_cuts_53 : decode cX11_cuts 53 = .ok (.iload_n 2, 1) := by decide +kernel
theorem dX11_cuts_54 : decode cX11_cuts 54 = .ok (.iload_n 3, 1) := by decide +kernel
theorem dX11_cuts_55 : decode cX11_cuts 55 = .ok (.iconst 0, 1) := by decide +kernel
theorem dX11_cuts_56 : decode cX11_cuts 56 = .ok (.invokevirtual 285, 3) := by decide +kernel
theorem dX11_cuts_59 : decode cX11_cuts 59 = .ok (.aload_n 0, 1) := by decide +kernel
theorem dX11_cuts_60 : decode cX11_cuts 60 = .ok (.iload_n 1, 1) := by decide +kernel
theorem dX11_cuts_61 : decode cX11_cuts 61 = .ok (.invokevirtual 97, 3) := by decide +kernel
theorem dX11_cuts_64 : decode cX11_cuts 64 = .ok (.iload 5, 2) := by decide +kernel
theorem dX11_cuts_66 : decode cX11_cuts 66 = .ok (.ireturn, 1) := by decide +kernel
theorem dX11_drops_0 : decode cX11_drops 0 = .ok (.iload_n 1, 1) := by decide +kernel
theorem dX11_drops_1 : decode cX11_drops 1 = .ok (.invokestatic 83, 3) := by decide +kernel
theorem dX11_drops_4 : decode cX11_drops 4 = .ok (.ifCond .ne 6, 3) := by decide +kernel
theorem dX11_drops_7 : decode cX11_drops 7 = .ok (.bipush (-2), 2) := by decide +kernel
theorem dX11_drops_9 : decode cX11_drops 9 = .ok (.ireturn, 1) := by decide +kernel
theorem dX11_drops_10 : decode cX11_drops 10 = .ok (.aload_n 0, 1) := by decide +kernel
theorem dX11_drops_11 : decode cX11_drops 11 = .ok (.getfield 32, 3) := by decide +kernel
theorem dX11_drops_14 : decode cX11_drops 14 = .ok (.iload_n 1, 1) := by decide +kernel
theorem dX11_drops_15 : decode cX11_drops 15 = .ok (.aaload, 1) := by decide +kernel
theorem dX11_drops_16 : decode cX11_drops 16 = .ok (.astore_n 2, 1) := by decide +kernel
theorem dX11_drops_17 : decode cX11_drops 17 = .ok (.aload_n 2, 1) := by decide +kernel
theorem dX11_drops_18 : decode cX11_drops 18 = .ok (.getfield 120, 3) := by decide +kernel
theorem dX11_drops_21 : decode cX11_drops 21 = .ok (.ifCond .ne 5, 3) := by decide +kernel
theorem dX11_drops_24 : decode cX11_drops 24 = .ok (.iconst 0, 1) := by decide +kernel
theorem dX11_drops_25 : decode cX11_drops 25 = .ok (.ireturn, 1) := by decide +kernel
theorem dX11_drops_26 : decode cX11_drops 26 = .ok (.aload_n 0, 1) := by decide +kernel
theorem dX11_drops_27 : decode cX11_drops 27 = .ok (.getfield 65, 3) := by decide +kernel
theorem dX11_drops_30 : decode cX11_drops 30 = .ok (.aload_n 2, 1) := by decide +kernel
theorem dX11_drops_31 : decode cX11_drops 31 = .ok (.invokevirtual 90, 3) := by decide +kernel
theorem dX11_drops_34 : decode cX11_drops 34 = .ok (.aload_n 2, 1) := by decide +kernel
theorem dX11_drops_35 : decode cX11_drops 35 = .ok (.iconst 0, 1) := by decide +kernel
theorem dX11_drops_36 : decode cX11_drops 36 = .ok (.invokevirtual 292, 3) := by decide +kernel
theorem dX11_drops_39 : decode cX11_drops 39 = .ok (.aload_n 0, 1) := by decide +kernel
theorem dX11_drops_40 : decode cX11_drops 40 = .ok (.iload_n 1, 1) := by decide +kernel
theorem dX11_drops_41 : decode cX11_drops 41 = .ok (.invokevirtual 97, 3) := by decide +kernel
theorem dX11_drops_44 : decode cX11_drops 44 = .ok (.iconst 1, 1) := by decide +kernel
theorem dX11_drops_45 : decode cX11_drops 45 = .ok (.ireturn, 1) := by decide +kernel
theorem dX11_end_0 : decode cX11_end 0 = .ok (.iload_n 1, 1) := by decide +kernel
theorem dX11_end_1 : decode cX11_end 1 = .ok (.ifCond .lt 14, 3) := by decide +kernel
theorem dX11_end_4 : decode cX11_end 4 = .ok (.iload_n 1, 1) := by decide +kernel
theorem dX11_end_5 : decode cX11_end 5 = .ok (.aload_n 0, 1) := by decide +kernel
theorem dX11_end_6 : decode cX11_end 6 = .ok (.getfield 14, 3) := by decide +kernel
theorem dX11_end_9 : decode cX11_end 9 = .ok (.getfield 79, 3) := by decide +kernel
theorem dX11_end_12 : decode cX11_end 12 = .ok (.if_icmp .le 5, 3) := by decide +kernel
theorem dX11_end_15 : decode cX11_end 15 = .ok (.iconst (-1), 1) := by decide +kernel
theorem dX11_end_16 : decode cX11_end 16 = .ok (.ireturn, 1) := by decide +kernel
theorem dX11_end_17 : decode cX11_end 17 = .ok (.aload_n 0, 1) := by decide +kernel
theorem dX11_end_18 : decode cX11_end 18 = .ok (.getfield 14, 3) := by decide +kernel
theorem dX11_end_21 : decode cX11_end 21 = .ok (.iload_n 1, 1) := by decide +kernel
theorem dX11_end_22 : decode cX11_end 22 = .ok (.putfield 79, 3) := by decide +kernel
theorem dX11_end_25 : decode cX11_end 25 = .ok (.iload_n 1, 1) := by decide +kernel
theorem dX11_end_26 : decode cX11_end 26 = .ok (.ireturn, 1) := by decide +kernel
theorem dX11_far_0 : decode cX11_far 0 = .ok (.aload_n 0, 1) := by decide +kernel
theorem dX11_far_1 : decode cX11_far 1 = .ok (.iload_n 1, 1) := by decide +kernel
theorem dX11_far_2 : decode cX11_far 2 = .ok (.invokevirtual 116, 3) := by decide +kernel
theorem dX11_far_5 : decode cX11_far 5 = .ok (.astore 4, 2) := by decide +kernel
theorem dX11_far_7 : decode cX11_far 7 = .ok (.aload 4, 2) := by decide +kernel
theorem dX11_far_9 : decode cX11_far 9 = .ok (.ifnull 21, 3) := by decide +kernel
theorem dX11_far_12 : decode cX11_far 12 = .ok (.aload 4, 2) := by decide +kernel
theorem dX11_far_14 : decode cX11_far 14 = .ok (.iload_n 2, 1) := by decide +kernel
theorem dX11_far_15 : decode cX11_far 15 = .ok (.invokevirtual 141, 3) := by decide +kernel
theorem dX11_far_18 : decode cX11_far 18 = .ok (.ifCond .eq 12, 3) := by decide +kernel
theorem dX11_far_21 : decode cX11_far 21 = .ok (.aload 4, 2) := by decide +kernel
theorem dX11_far_23 : decode cX11_far 23 = .ok (.iload_n 3, 1) := by decide +kernel
theorem dX11_far_24 : decode cX11_far 24 = .ok (.invokevirtual 141, 3) := by decide +kernel
theorem dX11_far_27 : decode cX11_far 27 = .ok (.ifCond .ne 8, 3) := by decide +kernel
theorem dX11_far_30 : decode cX11_far 30 = .ok (.bipush (-2), 2) := by decide +kernel
theorem dX11_far_32 : decode cX11_far 32 = .ok (.goto 10, 3) := by decide +kernel
theorem dX11_far_35 : decode cX11_far 35 = .ok (.aload 4, 2) := by decide +kernel
theorem dX11_far_37 : decode cX11_far 37 = .ok (.iload_n 2, 1) := by decide +kernel
theorem dX11_far_38 : decode cX11_far 38 = .ok (.iload_n 3, 1) := by decide +kernel
theorem dX11_far_39 : decode cX11_far 39 = .ok (.invokestatic 152, 3) := by decide +kernel
theorem dX11_far_42 : decode cX11_far 42 = .ok (.ireturn, 1) := by decide +kernel
theorem dX11_fault_0 : decode cX11_fault 0 = .ok (.iload_n 1, 1) := by decide +kernel
theorem dX11_fault_1 : decode cX11_fault 1 = .ok (.ifCond .ne 11, 3) := by decide +kernel
theorem dX11_fault_4 : decode cX11_fault 4 = .ok (.aload_n 0, 1) := by decide +kernel
theorem dX11_fault_5 : decode cX11_fault 5 = .ok (.getfield 26, 3) := by decide +kernel
theorem dX11_fault_8 : decode cX11_fault 8 = .ok (.getfield 103, 3) := by decide +kernel
theorem dX11_fault_11 : decode cX11_fault 11 = .ok (.ireturn, 1) := by decide +kernel
theorem dX11_fault_12 : decode cX11_fault 12 = .ok (.iload_n 1, 1) := by decide +kernel
theorem dX11_fault_13 : decode cX11_fault 13 = .ok (.iconst 1, 1) := by decide +kernel
theorem dX11_fault_14 : decode cX11_fault 14 = .ok (.if_icmp .ne 13, 3) := by decide +kernel
theorem dX11_fault_17 : decode cX11_fault 17 = .ok (.aload_n 0, 1) := by decide +kernel
theorem dX11_fault_18 : decode cX11_fault 18 = .ok (.getfield 26, 3) := by decide +kernel
theorem dX11_fault_21 : decode cX11_fault 21 = .ok (.getfield 106, 3) := by decide +kernel
theorem dX11_fault_24 : decode cX11_fault 24 = .ok (.goto 4, 3) := by decide +kernel
theorem dX11_fault_27 : decode cX11_fault 27 = .ok (.iconst (-1), 1) := by decide +kernel
theorem dX11_fault_28 : decode cX11_fault 28 = .ok (.ireturn, 1) := by decide +kernel
theorem dX11_feed_0 : decode cX11_feed 0 = .ok (.aload_n 0, 1) := by decide +kernel
theorem dX11_feed_1 : decode cX11_feed 1 = .ok (.getfield 14, 3) := by decide +kernel
theorem dX11_feed_4 : decode cX11_feed 4 = .ok (.bipush 20, 2) := by decide +kernel
theorem dX11_feed_6 : decode cX11_feed 6 = .ok (.invokevirtual 72, 3) := by decide +kernel
theorem dX11_feed_9 : decode cX11_feed 9 = .ok (.ifCond .ne 5, 3) := by decide +kernel
theorem dX11_feed_12 : decode cX11_feed 12 = .ok (.iconst (-1), 1) := by decide +kernel
theorem dX11_feed_13 : decode cX11_feed 13 = .ok (.ireturn, 1) := by decide +kernel
theorem dX11_feed_14 : decode cX11_feed 14 = .ok (.aload_n 0, 1) := by decide +kernel
theorem dX11_feed_15 : decode cX11_feed 15 = .ok (.getfield 14, 3) := by decide +kernel
theorem dX11_feed_18 : decode cX11_feed 18 = .ok (.iload_n 1, 1) := by decide +kernel
theorem dX11_feed_19 : decode cX11_feed 19 = .ok (.invokevirtual 76, 3) := by decide +kernel
theorem dX11_feed_22 : decode cX11_feed 22 = .ok (.aload_n 0, 1) := by decide +kernel
theorem dX11_feed_23 : decode cX11_feed 23 = .ok (.getfield 14, 3) := by decide +kernel
theorem dX11_feed_26 : decode cX11_feed 26 = .ok (.iload_n 2, 1) := by decide +kernel
theorem dX11_feed_27 : decode cX11_feed 27 = .ok (.invokevirtual 76, 3) := by decide +kernel
theorem dX11_feed_30 : decode cX11_feed 30 = .ok (.aload_n 0, 1) := by decide +kernel
theorem dX11_feed_31 : decode cX11_feed 31 = .ok (.getfield 14, 3) := by decide +kernel
theorem dX11_feed_34 : decode cX11_feed 34 = .ok (.iload_n 3, 1) := by decide +kernel
theorem dX11_feed_35 : decode cX11_feed 35 = .ok (.invokevirtual 76, 3) := by decide +kernel
theorem dX11_feed_38 : decode cX11_feed 38 = .ok (.aload_n 0, 1) := by decide +kernel
theorem dX11_feed_39 : decode cX11_feed 39 = .ok (.getfield 14, 3) := by decide +kernel
theorem dX11_feed_42 : decode cX11_feed 42 = .ok (.iload 4, 2) := by decide +kernel
theorem dX11_feed_44 : decode cX11_feed 44 = .ok (.invokevirtual 76, 3) := by decide +kernel
theorem dX11_feed_47 : decode cX11_feed 47 = .ok (.aload_n 0, 1) := by decide +kernel
theorem dX11_feed_48 : decode cX11_feed 48 = .ok (.getfield 14, 3) := by decide +kernel
theorem dX11_feed_51 : decode cX11_feed 51 = .ok (.iload 5, 2) := by decide +kernel
theorem dX11_feed_53 : decode cX11_feed 53 = .ok (.invokevirtual 76, 3) := by decide +kernel
theorem dX11_feed_56 : decode cX11_feed 56 = .ok (.aload_n 0, 1) := by decide +kernel
theorem dX11_feed_57 : decode cX11_feed 57 = .ok (.getfield 14, 3) := by decide +kernel
theorem dX11_feed_60 : decode cX11_feed 60 = .ok (.getfield 79, 3) := by decide +kernel
theorem dX11_feed_63 : decode cX11_feed 63 = .ok (.ireturn, 1) := by decide +kernel
theorem dX11_filled_0 : decode cX11_filled 0 = .ok (.aload_n 0, 1) := by decide +kernel
theorem dX11_filled_1 : decode cX11_filled 1 = .ok (.iload_n 1, 1) := by decide +kernel
theorem dX11_filled_2 : decode cX11_filled 2 = .ok (.invokevirtual 116, 3) := by decide +kernel
theorem dX11_filled_5 : decode cX11_filled 5 = .ok (.astore_n 3, 1) := by decide +kernel
theorem dX11_filled_6 : decode cX11_filled 6 = .ok (.aload_n 3, 1) := by decide +kernel
theorem dX11_filled_7 : decode cX11_filled 7 = .ok (.ifnull 8, 3) := by decide +kernel
theorem dX11_filled_10 : decode cX11_filled 10 = .ok (.iload_n 2, 1) := by decide +kernel
theorem dX11_filled_11 : decode cX11_filled 11 = .ok (.iconst (-1), 1) := by decide +kernel
theorem dX11_filled_12 : decode cX11_filled 12 = .ok (.if_icmp .ge 8, 3) := by decide +kernel
theorem dX11_filled_15 : decode cX11_filled 15 = .ok (.bipush (-2), 2) := by decide +kernel
theorem dX11_filled_17 : decode cX11_filled 17 = .ok (.goto 8, 3) := by decide +kernel
theorem dX11_filled_20 : decode cX11_filled 20 = .ok (.aload_n 3, 1) := by decide +kernel
theorem dX11_filled_21 : decode cX11_filled 21 = .ok (.iload_n 2, 1) := by decide +kernel
theorem dX11_filled_22 : decode cX11_filled 22 = .ok (.invokestatic 249, 3) := by decide +kernel
theorem dX11_filled_25 : decode cX11_filled 25 = .ok (.ireturn, 1) := by decide +kernel
theorem dX11_filledSlots_0 : decode cX11_filledSlots 0 = .ok (.iconst 0, 1) := by decide +kernel
theorem dX11_filledSlots_1 : decode cX11_filledSlots 1 = .ok (.istore_n 1, 1) := by decide +kernel
theorem dX11_filledSlots_2 : decode cX11_filledSlots 2 = .ok (.iconst 0, 1) := by decide +kernel
theorem dX11_filledSlots_3 : decode cX11_filledSlots 3 = .ok (.istore_n 2, 1) := by decide +kernel
theorem dX11_filledSlots_4 : decode cX11_filledSlots 4 = .ok (.iload_n 2, 1) := by decide +kernel
theorem dX11_filledSlots_5 : decode cX11_filledSlots 5 = .ok (.iconst 3, 1) := by decide +kernel
theorem dX11_filledSlots_6 : decode cX11_filledSlots 6 = .ok (.if_icmp .ge 27, 3) := by decide +kernel
theorem dX11_filledSlots_9 : decode cX11_filledSlots 9 = .ok (.aload_n 0, 1) := by decide +kernel
theorem dX11_filledSlots_10 : decode cX11_filledSlots 10 = .ok (.getfield 32, 3) := by decide +kernel
theorem dX11_filledSlots_13 : decode cX11_filledSlots 13 = .ok (.iload_n 2, 1) := by decide +kernel
theorem dX11_filledSlots_14 : decode cX11_filledSlots 14 = .ok (.aaload, 1) := by decide +kernel
theorem dX11_filledSlots_15 : decode cX11_filledSlots 15 = .ok (.getfield 120, 3) := by decide +kernel
theorem dX11_filledSlots_18 : decode cX11_filledSlots 18 = .ok (.ifCond .le 9, 3) := by decide +kernel
theorem dX11_filledSlots_21 : decode cX11_filledSlots 21 = .ok (.iload_n 1, 1) := by decide +kernel
theorem dX11_filledSlots_22 : decode cX11_filledSlots 22 = .ok (.iconst 1, 1) := by decide +kernel
theorem dX11_filledSlots_23 : decode cX11_filledSlots 23 = .ok (.iload_n 2, 1) := by decide +kernel
theorem dX11_filledSlots_24 : decode cX11_filledSlots 24 = .ok (.ishl, 1) := by decide +kernel
theorem dX11_filledSlots_25 : decode cX11_filledSlots 25 = .ok (.ior, 1) := by decide +kernel
theorem dX11_filledSlots_26 : decode cX11_filledSlots 26 = .ok (.istore_n 1, 1) := by decide +kernel
theorem dX11_filledSlots_27 : decode cX11_filledSlots 27 = .ok (.iinc 2 1, 3) := by decide +kernel
theorem dX11_filledSlots_30 : decode cX11_filledSlots 30 = .ok (.goto (-26), 3) := by decide +kernel
theorem dX11_filledSlots_33 : decode cX11_filledSlots 33 = .ok (.iload_n 1, 1) := by decide +kernel
theorem dX11_filledSlots_34 : decode cX11_filledSlots 34 = .ok (.ireturn, 1) := by decide +kernel
theorem dX11_findingOf_0 : decode cX11_findingOf 0 = .ok (.aload_n 0, 1) := by decide +kernel
theorem dX11_findingOf_1 : decode cX11_findingOf 1 = .ok (.iload_n 1, 1) := by decide +kernel
theorem dX11_findingOf_2 : decode cX11_findingOf 2 = .ok (.invokevirtual 116, 3) := by decide +kernel
theorem dX11_findingOf_5 : decode cX11_findingOf 5 = .ok (.astore_n 3, 1) := by decide +kernel
theorem dX11_findingOf_6 : decode cX11_findingOf 6 = .ok (.aload_n 3, 1) := by decide +kernel
theorem dX11_findingOf_7 : decode cX11_findingOf 7 = .ok (.ifnull 10, 3) := by decide +kernel
theorem dX11_findingOf_10 : decode cX11_findingOf 10 = .ok (.iload_n 2, 1) := by decide +kernel
theorem dX11_findingOf_11 : decode cX11_findingOf 11 = .ok (.invokestatic 163, 3) := by decide +kernel
theorem dX11_findingOf_14 : decode cX11_findingOf 14 = .ok (.ifCond .ne 5, 3) := by decide +kernel
theorem dX11_findingOf_17 : decode cX11_findingOf 17 = .ok (.aconst_null, 1) := by decide +kernel
theorem dX11_findingOf_18 : decode cX11_findingOf 18 = .ok (.areturn, 1) := by decide +kernel
theorem dX11_findingOf_19 : decode cX11_findingOf 19 = .ok (.aload_n 0, 1) := by decide +kernel
theorem dX11_findingOf_20 : decode cX11_findingOf 20 = .ok (.getfield 38, 3) := by decide +kernel
theorem dX11_findingOf_23 : decode cX11_findingOf 23 = .ok (.iload_n 1, 1) := by decide +kernel
theorem dX11_findingOf_24 : decode cX11_findingOf 24 = .ok (.aaload, 1) := by decide +kernel
theorem dX11_findingOf_25 : decode cX11_findingOf 25 = .ok (.aload_n 3, 1) := by decide +kernel
theorem dX11_findingOf_26 : decode cX11_findingOf 26 = .ok (.invokevirtual 336, 3) := by decide +kernel
theorem dX11_findingOf_29 : decode cX11_findingOf 29 = .ok (.aload_n 0, 1) := by decide +kernel
theorem dX11_findingOf_30 : decode cX11_findingOf 30 = .ok (.getfield 38, 3) := by decide +kernel
theorem dX11_findingOf_33 : decode cX11_findingOf 33 = .ok (.iload_n 1, 1) := by decide +kernel
theorem dX11_findingOf_34 : decode cX11_findingOf 34 = .ok (.aaload, 1) := by decide +kernel
theorem dX11_findingOf_35 : decode cX11_findingOf 35 = .ok (.getfield 339, 3) := by decide +kernel
theorem dX11_findingOf_38 : decode cX11_findingOf 38 = .ok (.iload_n 2, 1) := by decide +kernel
theorem dX11_findingOf_39 : decode cX11_findingOf 39 = .ok (.aaload, 1) := by decide +kernel
theorem dX11_findingOf_40 : decode cX11_findingOf 40 = .ok (.astore 4, 2) := by decide +kernel
theorem dX11_findingOf_42 : decode cX11_findingOf 42 = .ok (.aload 4, 2) := by decide +kernel
theorem dX11_findingOf_44 : decode cX11_findingOf 44 = .ok (.getfield 343, 3) := by decide +kernel
theorem dX11_findingOf_47 : decode cX11_findingOf 47 = .ok (.ifCond .ne 38, 3) := by decide +kernel
theorem dX11_findingOf_50 : decode cX11_findingOf 50 = .ok (.iload_n 2, 1) := by decide +kernel
theorem dX11_findingOf_51 : decode cX11_findingOf 51 = .ok (.iconst 2, 1) := by decide +kernel
theorem dX11_findingOf_52 : decode cX11_findingOf 52 = .ok (.if_icmp .ne 16, 3) := by decide +kernel
theorem dX11_findingOf_55 : decode cX11_findingOf 55 = .ok (.aload_n 0, 1) := by decide +kernel
theorem dX11_findingOf_56 : decode cX11_findingOf 56 = .ok (.getfield 54, 3) := by decide +kernel
theorem dX11_findingOf_59 : decode cX11_findingOf 59 = .ok (.aload_n 3, 1) := by decide +kernel
theorem dX11_findingOf_60 : decode cX11_findingOf 60 = .ok (.aload 4, 2) := by decide +kernel
theorem dX11_findingOf_62 : decode cX11_findingOf 62 = .ok (.invokevirtual 347, 3) := by decide +kernel
theorem dX11_findingOf_65 : decode cX11_findingOf 65 = .ok (.goto 14, 3) := by decide +kernel
theorem dX11_findingOf_68 : decode cX11_findingOf 68 = .ok (.aload_n 0, 1) := by decide +kernel
theorem dX11_findingOf_69 : decode cX11_findingOf 69 = .ok (.getfield 47, 3) := by decide +kernel
theorem dX11_findingOf_72 : decode cX11_findingOf 72 = .ok (.aload_n 3, 1) := by decide +kernel
theorem dX11_findingOf_73 : decode cX11_findingOf 73 = .ok (.iload_n 2, 1) := by decide +kernel
theorem dX11_findingOf_74 : decode cX11_findingOf 74 = .ok (.aload 4, 2) := by decide +kernel
theorem dX11_findingOf_76 : decode cX11_findingOf 76 = .ok (.invokevirtual 351, 3) := by decide +kernel
theorem dX11_findingOf_79 : decode cX11_findingOf 79 = .ok (.aload 4, 2) := by decide +kernel
theorem dX11_findingOf_81 : decode cX11_findingOf 81 = .ok (.iconst 1, 1) := by decide +kernel
theorem dX11_findingOf_82 : decode cX11_findingOf 82 = .ok (.putfield 343, 3) := by decide +kernel
theorem dX11_findingOf_85 : decode cX11_findingOf 85 = .ok (.aload 4, 2) := by decide +kernel
theorem dX11_findingOf_87 : decode cX11_findingOf 87 = .ok (.areturn, 1) := by decide +kernel
theorem dX11_firsts_0 : decode cX11_firsts 0 = .ok (.aload_n 0, 1) := by decide +kernel
theorem dX11_firsts_1 : decode cX11_firsts 1 = .ok (.iload_n 1, 1) := by decide +kernel
theorem dX11_firsts_2 : decode cX11_firsts 2 = .ok (.iload_n 2, 1) := by decide +kernel
theorem dX11_firsts_3 : decode cX11_firsts 3 = .ok (.invokevirtual 189, 3) := by decide +kernel
theorem dX11_firsts_6 : decode cX11_firsts 6 = .ok (.astore_n 3, 1) := by decide +kernel
theorem dX11_firsts_7 : decode cX11_firsts 7 = .ok (.aload_n 3, 1) := by decide +kernel
theorem dX11_firsts_8 : decode cX11_firsts 8 = .ok (.ifnonnull 8, 3) := by decide +kernel
theorem dX11_firsts_11 : decode cX11_firsts 11 = .ok (.bipush (-2), 2) := by decide +kernel
theorem dX11_firsts_13 : decode cX11_firsts 13 = .ok (.goto 7, 3) := by decide +kernel
theorem dX11_firsts_16 : decode cX11_firsts 16 = .ok (.aload_n 3, 1) := by decide +kernel
theorem dX11_firsts_17 : decode cX11_firsts 17 = .ok (.getfield 212, 3) := by decide +kernel
theorem dX11_firsts_20 : decode cX11_firsts 20 = .ok (.ireturn, 1) := by decide +kernel
theorem dX11_gain_0 : decode cX11_gain 0 = .ok (.aload_n 0, 1) := by decide +kernel
theorem dX11_gain_1 : decode cX11_gain 1 = .ok (.iload_n 1, 1) := by decide +kernel
theorem dX11_gain_2 : decode cX11_gain 2 = .ok (.invokevirtual 116, 3) := by decide +kernel
theorem dX11_gain_5 : decode cX11_gain 5 = .ok (.astore 5, 2) := by decide +kernel
theorem dX11_gain_7 : decode cX11_gain 7 = .ok (.aload 5, 2) := by decide +kernel
theorem dX11_gain_9 : decode cX11_gain 9 = .ok (.ifnull 29, 3) := by decide +kernel
theorem dX11_gain_12 : decode cX11_gain 12 = .ok (.iload_n 2, 1) := by decide +kernel
theorem dX11_gain_13 : decode cX11_gain 13 = .ok (.invokestatic 163, 3) := by decide +kernel
theorem dX11_gain_16 : decode cX11_gain 16 = .ok (.ifCond .eq 22, 3) := by decide +kernel
theorem dX11_gain_19 : decode cX11_gain 19 = .ok (.aload 5, 2) := by decide +kernel
theorem dX11_gain_21 : decode cX11_gain 21 = .ok (.iload_n 3, 1) := by decide +kernel
theorem dX11_gain_22 : decode cX11_gain 22 = .ok (.invokevirtual 141, 3) := by decide +kernel
theorem dX11_gain_25 : decode cX11_gain 25 = .ok (.ifCond .eq 13, 3) := by decide +kernel
theorem dX11_gain_28 : decode cX11_gain 28 = .ok (.aload 5, 2) := by decide +kernel
theorem dX11_gain_30 : decode cX11_gain 30 = .ok (.iload 4, 2) := by decide +kernel
theorem dX11_gain_32 : decode cX11_gain 32 = .ok (.invokevirtual 141, 3) := by decide +kernel
theorem dX11_gain_35 : decode cX11_gain 35 = .ok (.ifCond .ne 7, 3) := by decide +kernel
theorem dX11_gain_38 : decode cX11_gain 38 = .ok (.sipush (-1000), 3) := by decide +kernel
theorem dX11_gain_41 : decode cX11_gain 41 = .ok (.ireturn, 1) := by decide +kernel
theorem dX11_gain_42 : decode cX11_gain 42 = .ok (.aload_n 0, 1) := by decide +kernel
theorem dX11_gain_43 : decode cX11_gain 43 = .ok (.getfield 69, 3) := by decide +kernel
theorem dX11_gain_46 : decode cX11_gain 46 = .ok (.aload 5, 2) := by decide +kernel
theorem dX11_gain_48 : decode cX11_gain 48 = .ok (.invokevirtual 90, 3) := by decide +kernel
theorem dX11_gain_51 : decode cX11_gain 51 = .ok (.aload_n 0, 1) := by decide +kernel
theorem dX11_gain_52 : decode cX11_gain 52 = .ok (.getfield 69, 3) := by decide +kernel
theorem dX11_gain_55 : decode cX11_gain 55 = .ok (.iload_n 3, 1) := by decide +kernel
theorem dX11_gain_56 : decode cX11_gain 56 = .ok (.iload 4, 2) := by decide +kernel
theorem dX11_gain_58 : decode cX11_gain 58 = .ok (.invokevirtual 252, 3) := by decide +kernel
theorem dX11_gain_61 : decode cX11_gain 61 = .ok (.aload_n 0, 1) := by decide +kernel
theorem dX11_gain_62 : decode cX11_gain 62 = .ok (.getfield 69, 3) := by decide +kernel
theorem dX11_gain_65 : decode cX11_gain 65 = .ok (.iload_n 2, 1) := by decide +kernel
theorem dX11_gain_66 : decode cX11_gain 66 = .ok (.invokestatic 166, 3) := by decide +kernel
theorem dX11_gain_69 : decode cX11_gain 69 = .ok (.aload 5, 2) := by decide +kernel
theorem dX11_gain_71 : decode cX11_gain 71 = .ok (.iload_n 2, 1) := by decide +kernel
theorem dX11_gain_72 : decode cX11_gain 72 = .ok (.invokestatic 166, 3) := by decide +kernel
theorem dX11_gain_75 : decode cX11_gain 75 = .ok (.isub, 1) := by decide +kernel
theorem dX11_gain_76 : decode cX11_gain 76 = .ok (.ireturn, 1) := by decide +kernel
theorem dX11_greedy_0 : decode cX11_greedy 0 = .ok (.aload_n 0, 1) := by decide +kernel
theorem dX11_greedy_1 : decode cX11_greedy 1 = .ok (.iload_n 1, 1) := by decide +kernel
theorem dX11_greedy_2 : decode cX11_greedy 2 = .ok (.invokevirtual 116, 3) := by decide +kernel
theorem dX11_greedy_5 : decode cX11_greedy 5 = .ok (.astore_n 3, 1) := by decide +kernel
theorem dX11_greedy_6 : decode cX11_greedy 6 = .ok (.aload_n 3, 1) := by decide +kernel
theorem dX11_greedy_7 : decode cX11_greedy 7 = .ok (.ifnull 10, 3) := by decide +kernel
theorem dX11_greedy_10 : decode cX11_greedy 10 = .ok (.iload_n 2, 1) := by decide +kernel
theorem dX11_greedy_11 : decode cX11_greedy 11 = .ok (.invokestatic 172, 3) := by decide +kernel
theorem dX11_greedy_14 : decode cX11_greedy 14 = .ok (.ifCond .ne 6, 3) := by decide +kernel
theorem dX11_greedy_17 : decode cX11_greedy 17 = .ok (.bipush (-2), 2) := by decide +kernel
theorem dX11_greedy_19 : decode cX11_greedy 19 = .ok (.ireturn, 1) := by decide +kernel
theorem dX11_greedy_20 : decode cX11_greedy 20 = .ok (.aload_n 0, 1) := by decide +kernel
theorem dX11_greedy_21 : decode cX11_greedy 21 = .ok (.getfield 65, 3) := by decide +kernel
theorem dX11_greedy_24 : decode cX11_greedy 24 = .ok (.aload_n 3, 1) := by decide +kernel
theorem dX11_greedy_25 : decode cX11_greedy 25 = .ok (.invokevirtual 90, 3) := by decide +kernel
theorem dX11_greedy_28 : decode cX11_greedy 28 = .ok (.aload_n 3, 1) := by decide +kernel
theorem dX11_greedy_29 : decode cX11_greedy 29 = .ok (.iload_n 2, 1) := by decide +kernel
theorem dX11_greedy_30 : decode cX11_greedy 30 = .ok (.invokestatic 274, 3) := by decide +kernel
theorem dX11_greedy_33 : decode cX11_greedy 33 = .ok (.aload_n 0, 1) := by decide +kernel
theorem dX11_greedy_34 : decode cX11_greedy 34 = .ok (.iload_n 1, 1) := by decide +kernel
theorem dX11_greedy_35 : decode cX11_greedy 35 = .ok (.invokevirtual 97, 3) := by decide +kernel
theorem dX11_greedy_38 : decode cX11_greedy 38 = .ok (.aload_n 3, 1) := by decide +kernel
theorem dX11_greedy_39 : decode cX11_greedy 39 = .ok (.iload_n 2, 1) := by decide +kernel
theorem dX11_greedy_40 : decode cX11_greedy 40 = .ok (.invokestatic 166, 3) := by decide +kernel
theorem dX11_greedy_43 : decode cX11_greedy 43 = .ok (.ireturn, 1) := by decide +kernel
theorem dX11_halve_0 : decode cX11_halve 0 = .ok (.aload_n 0, 1) := by decide +kernel
theorem dX11_halve_1 : decode cX11_halve 1 = .ok (.iload_n 1, 1) := by decide +kernel
theorem dX11_halve_2 : decode cX11_halve 2 = .ok (.invokevirtual 116, 3) := by decide +kernel
theorem dX11_halve_5 : decode cX11_halve 5 = .ok (.astore_n 2, 1) := by decide +kernel
theorem dX11_halve_6 : decode cX11_halve 6 = .ok (.aload_n 2, 1) := by decide +kernel
theorem dX11_halve_7 : decode cX11_halve 7 = .ok (.ifnonnull 8, 3) := by decide +kernel
theorem dX11_halve_10 : decode cX11_halve 10 = .ok (.bipush (-2), 2) := by decide +kernel
theorem dX11_halve_12 : decode cX11_halve 12 = .ok (.goto 7, 3) := by decide +kernel
theorem dX11_halve_15 : decode cX11_halve 15 = .ok (.aload_n 2, 1) := by decide +kernel
theorem dX11_halve_16 : decode cX11_halve 16 = .ok (.invokestatic 240, 3) := by decide +kernel
theorem dX11_halve_19 : decode cX11_halve 19 = .ok (.ireturn, 1) := by decide +kernel
theorem dX11_init_0 : decode cX11_init 0 = .ok (.aload_n 0, 1) := by decide +kernel
theorem dX11_init_1 : decode cX11_init 1 = .ok (.invokespecial 1, 3) := by decide +kernel
theorem dX11_init_4 : decode cX11_init 4 = .ok (.aload_n 0, 1) := by decide +kernel
theorem dX11_init_5 : decode cX11_init 5 = .ok (.new 7, 3) := by decide +kernel
theorem dX11_init_8 : decode cX11_init 8 = .ok (.dup, 1) := by decide +kernel
theorem dX11_init_9 : decode cX11_init 9 = .ok (.sipush 400, 3) := by decide +kernel
theorem dX11_init_12 : decode cX11_init 12 = .ok (.invokespecial 11, 3) := by decide +kernel
theorem dX11_init_15 : decode cX11_init 15 = .ok (.putfield 14, 3) := by decide +kernel
theorem dX11_init_18 : decode cX11_init 18 = .ok (.aload_n 0, 1) := by decide +kernel
theorem dX11_init_19 : decode cX11_init 19 = .ok (.new 7, 3) := by decide +kernel
theorem dX11_init_22 : decode cX11_init 22 = .ok (.dup, 1) := by decide +kernel
theorem dX11_init_23 : decode cX11_init 23 = .ok (.sipush 256, 3) := by decide +kernel
theorem dX11_init_26 : decode cX11_init 26 = .ok (.invokespecial 11, 3) := by decide +kernel
theorem dX11_init_29 : decode cX11_init 29 = .ok (.putfield 18, 3) := by decide +kernel
theorem dX11_init_32 : decode cX11_init 32 = .ok (.aload_n 0, 1) := by decide +kernel
theorem dX11_init_33 : decode cX11_init 33 = .ok (.new 21, 3) := by decide +kernel
theorem dX11_init_36 : decode cX11_init 36 = .ok (.dup, 1) := by decide +kernel
theorem dX11_init_37 : decode cX11_init 37 = .ok (.aload_n 0, 1) := by decide +kernel
theorem dX11_init_38 : decode cX11_init 38 = .ok (.getfield 14, 3) := by decide +kernel
theorem dX11_init_41 : decode cX11_init 41 = .ok (.invokespecial 23, 3) := by decide +kernel
theorem dX11_init_44 : decode cX11_init 44 = .ok (.putfield 26, 3) := by decide +kernel
theorem dX11_init_47 : decode cX11_init 47 = .ok (.aload_n 0, 1) := by decide +kernel
theorem dX11_init_48 : decode cX11_init 48 = .ok (.iconst 3, 1) := by decide +kernel
theorem dX11_init_49 : decode cX11_init 49 = .ok (.anewarray 30, 3) := by decide +kernel
theorem dX11_init_52 : decode cX11_init 52 = .ok (.putfield 32, 3) := by decide +kernel
theorem dX11_init_55 : decode cX11_init 55 = .ok (.aload_n 0, 1) := by decide +kernel
theorem dX11_init_56 : decode cX11_init 56 = .ok (.iconst 3, 1) := by decide +kernel
theorem dX11_init_57 : decode cX11_init 57 = .ok (.anewarray 36, 3) := by decide +kernel
theorem dX11_init_60 : decode cX11_init 60 = .ok (.putfield 38, 3) := by decide +kernel
theorem dX11_init_63 : decode cX11_init 63 = .ok (.iconst 0, 1) := by decide +kernel
theorem dX11_init_64 : decode cX11_init 64 = .ok (.istore_n 1, 1) := by decide +kernel
theorem dX11_init_65 : decode cX11_init 65 = .ok (.iload_n 1, 1) := by decide +kernel
theorem dX11_init_66 : decode cX11_init 66 = .ok (.iconst 3, 1) := by decide +kernel
theorem dX11_init_67 : decode cX11_init 67 = .ok (.if_icmp .ge 35, 3) := by decide +kernel
theorem dX11_init_70 : decode cX11_init 70 = .ok (.aload_n 0, 1) := by decide +kernel
theorem dX11_init_71 : decode cX11_init 71 = .ok (.getfield 32, 3) := by decide +kernel
theorem dX11_init_74 : decode cX11_init 74 = .ok (.iload_n 1, 1) := by decide +kernel
theorem dX11_init_75 : decode cX11_init 75 = .ok (.new 30, 3) := by decide +kernel
theorem dX11_init_78 : decode cX11_init 78 = .ok (.dup, 1) := by decide +kernel
theorem dX11_init_79 : decode cX11_init 79 = .ok (.invokespecial 42, 3) := by decide +kernel
theorem dX11_init_82 : decode cX11_init 82 = .ok (.aastore, 1) := by decide +kernel
theorem dX11_init_83 : decode cX11_init 83 = .ok (.aload_n 0, 1) := by decide +kernel
theorem dX11_init_84 : decode cX11_init 84 = .ok (.getfield 38, 3) := by decide +kernel
theorem dX11_init_87 : decode cX11_init 87 = .ok (.iload_n 1, 1) := by decide +kernel
theorem dX11_init_88 : decode cX11_init 88 = .ok (.new 36, 3) := by decide +kernel
theorem dX11_init_91 : decode cX11_init 91 = .ok (.dup, 1) := by decide +kernel
theorem dX11_init_92 : decode cX11_init 92 = .ok (.invokespecial 43, 3) := by decide +kernel
theorem dX11_init_95 : decode cX11_init 95 = .ok (.aastore, 1) := by decide +kernel
theorem dX11_init_96 : decode cX11_init 96 = .ok (.iinc 1 1, 3) := by decide +kernel
theorem dX11_init_99 : decode cX11_init 99 = .ok (.goto (-34), 3) := by decide +kernel
theorem dX11_init_102 : decode cX11_init 102 = .ok (.aload_n 0, 1) := by decide +kernel
theorem dX11_init_103 : decode cX11_init 103 = .ok (.new 44, 3) := by decide +kernel
theorem dX11_init_106 : decode cX11_init 106 = .ok (.dup, 1) := by decide +kernel
theorem dX11_init_107 : decode cX11_init 107 = .ok (.invokespecial 46, 3) := by decide +kernel
theorem dX11_init_110 : decode cX11_init 110 = .ok (.putfield 47, 3) := by decide +kernel
theorem dX11_init_113 : decode cX11_init 113 = .ok (.aload_n 0, 1) := by decide +kernel
theorem dX11_init_114 : decode cX11_init 114 = .ok (.new 51, 3) := by decide +kernel
theorem dX11_init_117 : decode cX11_init 117 = .ok (.dup, 1) := by decide +kernel
theorem dX11_init_118 : decode cX11_init 118 = .ok (.invokespecial 53, 3) := by decide +kernel
theorem dX11_init_121 : decode cX11_init 121 = .ok (.putfield 54, 3) := by decide +kernel
theorem dX11_init_124 : decode cX11_init 124 = .ok (.aload_n 0, 1) := by decide +kernel
theorem dX11_init_125 : decode cX11_init 125 = .ok (.new 58, 3) := by decide +kernel
theorem dX11_init_128 : decode cX11_init 128 = .ok (.dup, 1) := by decide +kernel
theorem dX11_init_129 : decode cX11_init 129 = .ok (.invokespecial 60, 3) := by decide +kernel
theorem dX11_init_132 : decode cX11_init 132 = .ok (.putfield 61, 3) := by decide +kernel
theorem dX11_init_135 : decode cX11_init 135 = .ok (.aload_n 0, 1) := by decide +kernel
theorem dX11_init_136 : decode cX11_init 136 = .ok (.new 30, 3) := by decide +kernel
theorem dX11_init_139 : decode cX11_init 139 = .ok (.dup, 1) := by decide +kernel
theorem dX11_init_140 : decode cX11_init 140 = .ok (.invokespecial 42, 3) := by decide +kernel
theorem dX11_init_143 : decode cX11_init 143 = .ok (.putfield 65, 3) := by decide +kernel
theorem dX11_init_146 : decode cX11_init 146 = .ok (.aload_n 0, 1) := by decide +kernel
theorem dX11_init_147 : decode cX11_init 147 = .ok (.new 30, 3) := by decide +kernel
theorem dX11_init_150 : decode cX11_init 150 = .ok (.dup, 1) := by decide +kernel
theorem dX11_init_151 : decode cX11_init 151 = .ok (.invokespecial 42, 3) := by decide +kernel
theorem dX11_init_154 : decode cX11_init 154 = .ok (.putfield 69, 3) := by decide +kernel
theorem dX11_init_157 : decode cX11_init 157 = .ok (.return_, 1) := by decide +kernel
theorem dX11_isBounded_0 : decode cX11_isBounded 0 = .ok (.iload_n 0, 1) := by decide +kernel
theorem dX11_isBounded_1 : decode cX11_isBounded 1 = .ok (.ifCond .eq 18, 3) := by decide +kernel
theorem dX11_isBounded_4 : decode cX11_isBounded 4 = .ok (.iload_n 0, 1) := by decide +kernel
theorem dX11_isBounded_5 : decode cX11_isBounded 5 = .ok (.iconst 1, 1) := by decide +kernel
theorem dX11_isBounded_6 : decode cX11_isBounded 6 = .ok (.if_icmp .eq 13, 3) := by decide +kernel
theorem dX11_isBounded_9 : decode cX11_isBounded 9 = .ok (.iload_n 0, 1) := by decide +kernel
theorem dX11_isBounded_10 : decode cX11_isBounded 10 = .ok (.iconst 2, 1) := by decide +kernel
theorem dX11_isBounded_11 : decode cX11_isBounded 11 = .ok (.if_icmp .eq 8, 3) := by decide +kernel
theorem dX11_isBounded_14 : decode cX11_isBounded 14 = .ok (.iload_n 0, 1) := by decide +kernel
theorem dX11_isBounded_15 : decode cX11_isBounded 15 = .ok (.iconst 5, 1) := by decide +kernel
theorem dX11_isBounded_16 : decode cX11_isBounded 16 = .ok (.if_icmp .ne 7, 3) := by decide +kernel
theorem dX11_isBounded_19 : decode cX11_isBounded 19 = .ok (.iconst 1, 1) := by decide +kernel
theorem dX11_isBounded_20 : decode cX11_isBounded 20 = .ok (.goto 4, 3) := by decide +kernel
theorem dX11_isBounded_23 : decode cX11_isBounded 23 = .ok (.iconst 0, 1) := by decide +kernel
theorem dX11_isBounded_24 : decode cX11_isBounded 24 = .ok (.ireturn, 1) := by decide +kernel
theorem dX11_isMeasure_0 : decode cX11_isMeasure 0 = .ok (.iload_n 0, 1) := by decide +kernel
theorem dX11_isMeasure_1 : decode cX11_isMeasure 1 = .ok (.ifCond .lt 13, 3) := by decide +kernel
theorem dX11_isMeasure_4 : decode cX11_isMeasure 4 = .ok (.iload_n 0, 1) := by decide +kernel
theorem dX11_isMeasure_5 : decode cX11_isMeasure 5 = .ok (.bipush 7, 2) := by decide +kernel
theorem dX11_isMeasure_7 : decode cX11_isMeasure 7 = .ok (.if_icmp .ge 7, 3) := by decide +kernel
theorem dX11_isMeasure_10 : decode cX11_isMeasure 10 = .ok (.iconst 1, 1) := by decide +kernel
theorem dX11_isMeasure_11 : decode cX11_isMeasure 11 = .ok (.goto 4, 3) := by decide +kernel
theorem dX11_isMeasure_14 : decode cX11_isMeasure 14 = .ok (.iconst 0, 1) := by decide +kernel
theorem dX11_isMeasure_15 : decode cX11_isMeasure 15 = .ok (.ireturn, 1) := by decide +kernel
theorem dX11_isPriced_0 : decode cX11_isPriced 0 = .ok (.iload_n 0, 1) := by decide +kernel
theorem dX11_isPriced_1 : decode cX11_isPriced 1 = .ok (.invokestatic 163, 3) := by decide +kernel
theorem dX11_isPriced_4 : decode cX11_isPriced 4 = .ok (.ifCond .eq 12, 3) := by decide +kernel
theorem dX11_isPriced_7 : decode cX11_isPriced 7 = .ok (.iload_n 0, 1) := by decide +kernel
theorem dX11_isPriced_8 : decode cX11_isPriced 8 = .ok (.iconst 2, 1) := by decide +kernel
theorem dX11_isPriced_9 : decode cX11_isPriced 9 = .ok (.if_icmp .eq 7, 3) := by decide +kernel
theorem dX11_isPriced_12 : decode cX11_isPriced 12 = .ok (.iconst 1, 1) := by decide +kernel
theorem dX11_isPriced_13 : decode cX11_isPriced 13 = .ok (.goto 4, 3) := by decide +kernel
theorem dX11_isPriced_16 : decode cX11_isPriced 16 = .ok (.iconst 0, 1) := by decide +kernel
theorem dX11_isPriced_17 : decode cX11_isPriced 17 = .ok (.ireturn, 1) := by decide +kernel
theorem dX11_isSlot_0 : decode cX11_isSlot 0 = .ok (.iload_n 0, 1) := by decide +kernel
theorem dX11_isSlot_1 : decode cX11_isSlot 1 = .ok (.ifCond .lt 12, 3) := by decide +kernel
theorem dX11_isSlot_4 : decode cX11_isSlot 4 = .ok (.iload_n 0, 1) := by decide +kernel
theorem dX11_isSlot_5 : decode cX11_isSlot 5 = .ok (.iconst 3, 1) := by decide +kernel
theorem dX11_isSlot_6 : decode cX11_isSlot 6 = .ok (.if_icmp .ge 7, 3) := by decide +kernel
theorem dX11_isSlot_9 : decode cX11_isSlot 9 = .ok (.iconst 1, 1) := by decide +kernel
theorem dX11_isSlot_10 : decode cX11_isSlot 10 = .ok (.goto 4, 3) := by decide +kernel
theorem dX11_isSlot_13 : decode cX11_isSlot 13 = .ok (.iconst 0, 1) := by decide +kernel
theorem dX11_isSlot_14 : decode cX11_isSlot 14 = .ok (.ireturn, 1) := by decide +kernel
theorem dX11_layers_0 : decode cX11_layers 0 = .ok (.aload_n 0, 1) := by decide +kernel
theorem dX11_layers_1 : decode cX11_layers 1 = .ok (.iload_n 1, 1) := by decide +kernel
theorem dX11_layers_2 : decode cX11_layers 2 = .ok (.invokevirtual 116, 3) := by decide +kernel
theorem dX11_layers_5 : decode cX11_layers 5 = .ok (.astore_n 3, 1) := by decide +kernel
theorem dX11_layers_6 : decode cX11_layers 6 = .ok (.aload_n 3, 1) := by decide +kernel
theorem dX11_layers_7 : decode cX11_layers 7 = .ok (.ifnull 11, 3) := by decide +kernel
theorem dX11_layers_10 : decode cX11_layers 10 = .ok (.aload_n 3, 1) := by decide +kernel
theorem dX11_layers_11 : decode cX11_layers 11 = .ok (.iload_n 2, 1) := by decide +kernel
theorem dX11_layers_12 : decode cX11_layers 12 = .ok (.invokevirtual 141, 3) := by decide +kernel
theorem dX11_layers_15 : decode cX11_layers 15 = .ok (.ifCond .ne 6, 3) := by decide +kernel
theorem dX11_layers_18 : decode cX11_layers 18 = .ok (.bipush (-2), 2) := by decide +kernel
theorem dX11_layers_20 : decode cX11_layers 20 = .ok (.ireturn, 1) := by decide +kernel
theorem dX11_layers_21 : decode cX11_layers 21 = .ok (.aload_n 0, 1) := by decide +kernel
theorem dX11_layers_22 : decode cX11_layers 22 = .ok (.getfield 65, 3) := by decide +kernel
theorem dX11_layers_25 : decode cX11_layers 25 = .ok (.aload_n 3, 1) := by decide +kernel
theorem dX11_layers_26 : decode cX11_layers 26 = .ok (.invokevirtual 90, 3) := by decide +kernel
theorem dX11_layers_29 : decode cX11_layers 29 = .ok (.aload_n 3, 1) := by decide +kernel
theorem dX11_layers_30 : decode cX11_layers 30 = .ok (.iload_n 2, 1) := by decide +kernel
theorem dX11_layers_31 : decode cX11_layers 31 = .ok (.invokestatic 278, 3) := by decide +kernel
theorem dX11_layers_34 : decode cX11_layers 34 = .ok (.aload_n 0, 1) := by decide +kernel
theorem dX11_layers_35 : decode cX11_layers 35 = .ok (.iload_n 1, 1) := by decide +kernel
theorem dX11_layers_36 : decode cX11_layers 36 = .ok (.invokevirtual 97, 3) := by decide +kernel
theorem dX11_layers_39 : decode cX11_layers 39 = .ok (.aload_n 3, 1) := by decide +kernel
theorem dX11_layers_40 : decode cX11_layers 40 = .ok (.aload_n 0, 1) := by decide +kernel
theorem dX11_layers_41 : decode cX11_layers 41 = .ok (.getfield 65, 3) := by decide +kernel
theorem dX11_layers_44 : decode cX11_layers 44 = .ok (.invokevirtual 268, 3) := by decide +kernel
theorem dX11_layers_47 : decode cX11_layers 47 = .ok (.ireturn, 1) := by decide +kernel
theorem dX11_least_0 : decode cX11_least 0 = .ok (.aload_n 0, 1) := by decide +kernel
theorem dX11_least_1 : decode cX11_least 1 = .ok (.iload_n 1, 1) := by decide +kernel
theorem dX11_least_2 : decode cX11_least 2 = .ok (.iload_n 2, 1) := by decide +kernel
theorem dX11_least_3 : decode cX11_least 3 = .ok (.invokevirtual 189, 3) := by decide +kernel
theorem dX11_least_6 : decode cX11_least 6 = .ok (.astore_n 3, 1) := by decide +kernel
theorem dX11_least_7 : decode cX11_least 7 = .ok (.aload_n 3, 1) := by decide +kernel
theorem dX11_least_8 : decode cX11_least 8 = .ok (.ifnonnull 8, 3) := by decide +kernel
theorem dX11_least_11 : decode cX11_least 11 = .ok (.bipush (-2), 2) := by decide +kernel
theorem dX11_least_13 : decode cX11_least 13 = .ok (.goto 7, 3) := by decide +kernel
theorem dX11_least_16 : decode cX11_least 16 = .ok (.aload_n 3, 1) := by decide +kernel
theorem dX11_least_17 : decode cX11_least 17 = .ok (.getfield 193, 3) := by decide +kernel
theorem dX11_least_20 : decode cX11_least 20 = .ok (.ireturn, 1) := by decide +kernel
theorem dX11_line_0 : decode cX11_line 0 = .ok (.aload_n 0, 1) := by decide +kernel
theorem dX11_line_1 : decode cX11_line 1 = .ok (.iload_n 1, 1) := by decide +kernel
theorem dX11_line_2 : decode cX11_line 2 = .ok (.invokevirtual 116, 3) := by decide +kernel
theorem dX11_line_5 : decode cX11_line 5 = .ok (.astore 4, 2) := by decide +kernel
theorem dX11_line_7 : decode cX11_line 7 = .ok (.aload 4, 2) := by decide +kernel
theorem dX11_line_9 : decode cX11_line 9 = .ok (.ifnull 21, 3) := by decide +kernel
theorem dX11_line_12 : decode cX11_line 12 = .ok (.aload 4, 2) := by decide +kernel
theorem dX11_line_14 : decode cX11_line 14 = .ok (.iload_n 2, 1) := by decide +kernel
theorem dX11_line_15 : decode cX11_line 15 = .ok (.invokevirtual 141, 3) := by decide +kernel
theorem dX11_line_18 : decode cX11_line 18 = .ok (.ifCond .eq 12, 3) := by decide +kernel
theorem dX11_line_21 : decode cX11_line 21 = .ok (.aload 4, 2) := by decide +kernel
theorem dX11_line_23 : decode cX11_line 23 = .ok (.iload_n 3, 1) := by decide +kernel
theorem dX11_line_24 : decode cX11_line 24 = .ok (.invokevirtual 141, 3) := by decide +kernel
theorem dX11_line_27 : decode cX11_line 27 = .ok (.ifCond .ne 8, 3) := by decide +kernel
theorem dX11_line_30 : decode cX11_line 30 = .ok (.bipush (-2), 2) := by decide +kernel
theorem dX11_line_32 : decode cX11_line 32 = .ok (.goto 10, 3) := by decide +kernel
theorem dX11_line_35 : decode cX11_line 35 = .ok (.aload 4, 2) := by decide +kernel
theorem dX11_line_37 : decode cX11_line 37 = .ok (.iload_n 2, 1) := by decide +kernel
theorem dX11_line_38 : decode cX11_line 38 = .ok (.iload_n 3, 1) := by decide +kernel
theorem dX11_line_39 : decode cX11_line 39 = .ok (.invokevirtual 148, 3) := by decide +kernel
theorem dX11_line_42 : decode cX11_line 42 = .ok (.ireturn, 1) := by decide +kernel
theorem dX11_longest_0 : decode cX11_longest 0 = .ok (.aload_n 0, 1) := by decide +kernel
theorem dX11_longest_1 : decode cX11_longest 1 = .ok (.iload_n 1, 1) := by decide +kernel
theorem dX11_longest_2 : decode cX11_longest 2 = .ok (.invokevirtual 116, 3) := by decide +kernel
theorem dX11_longest_5 : decode cX11_longest 5 = .ok (.astore_n 2, 1) := by decide +kernel
theorem dX11_longest_6 : decode cX11_longest 6 = .ok (.aload_n 2, 1) := by decide +kernel
theorem dX11_longest_7 : decode cX11_longest 7 = .ok (.ifnonnull 8, 3) := by decide +kernel
theorem dX11_longest_10 : decode cX11_longest 10 = .ok (.bipush (-2), 2) := by decide +kernel
theorem dX11_longest_12 : decode cX11_longest 12 = .ok (.goto 7, 3) := by decide +kernel
theorem dX11_longest_15 : decode cX11_longest 15 = .ok (.aload_n 2, 1) := by decide +kernel
theorem dX11_longest_16 : decode cX11_longest 16 = .ok (.invokestatic 186, 3) := by decide +kernel
theorem dX11_longest_19 : decode cX11_longest 19 = .ok (.ireturn, 1) := by decide +kernel
theorem dX11_look_0 : decode cX11_look 0 = .ok (.aload_n 0, 1) := by decide +kernel
theorem dX11_look_1 : decode cX11_look 1 = .ok (.iload_n 1, 1) := by decide +kernel
theorem dX11_look_2 : decode cX11_look 2 = .ok (.invokevirtual 116, 3) := by decide +kernel
theorem dX11_look_5 : decode cX11_look 5 = .ok (.astore_n 3, 1) := by decide +kernel
theorem dX11_look_6 : decode cX11_look 6 = .ok (.aload_n 3, 1) := by decide +kernel
theorem dX11_look_7 : decode cX11_look 7 = .ok (.ifnonnull 6, 3) := by decide +kernel
theorem dX11_look_10 : decode cX11_look 10 = .ok (.bipush (-2), 2) := by decide +kernel
theorem dX11_look_12 : decode cX11_look 12 = .ok (.ireturn, 1) := by decide +kernel
theorem dX11_look_13 : decode cX11_look 13 = .ok (.iload_n 2, 1) := by decide +kernel
theorem dX11_look_14 : decode cX11_look 14 = .ok (.tableswitch 77 0 6 #[42, 47, 52, 57, 62, 67, 72], 42) := by decide +kernel
theorem dX11_look_56 : decode cX11_look 56 = .ok (.aload_n 3, 1) := by decide +kernel
theorem dX11_look_57 : decode cX11_look 57 = .ok (.getfield 120, 3) := by decide +kernel
theorem dX11_look_60 : decode cX11_look 60 = .ok (.ireturn, 1) := by decide +kernel
theorem dX11_look_61 : decode cX11_look 61 = .ok (.aload_n 3, 1) := by decide +kernel
theorem dX11_look_62 : decode cX11_look 62 = .ok (.getfield 100, 3) := by decide +kernel
theorem dX11_look_65 : decode cX11_look 65 = .ok (.ireturn, 1) := by decide +kernel
theorem dX11_look_66 : decode cX11_look 66 = .ok (.aload_n 3, 1) := by decide +kernel
theorem dX11_look_67 : decode cX11_look 67 = .ok (.invokestatic 123, 3) := by decide +kernel
theorem dX11_look_70 : decode cX11_look 70 = .ok (.ireturn, 1) := by decide +kernel
theorem dX11_look_71 : decode cX11_look 71 = .ok (.aload_n 3, 1) := by decide +kernel
theorem dX11_look_72 : decode cX11_look 72 = .ok (.invokestatic 129, 3) := by decide +kernel
theorem dX11_look_75 : decode cX11_look 75 = .ok (.ireturn, 1) := by decide +kernel
theorem dX11_look_76 : decode cX11_look 76 = .ok (.aload_n 3, 1) := by decide +kernel
theorem dX11_look_77 : decode cX11_look 77 = .ok (.invokestatic 132, 3) := by decide +kernel
theorem dX11_look_80 : decode cX11_look 80 = .ok (.ireturn, 1) := by decide +kernel
theorem dX11_look_81 : decode cX11_look 81 = .ok (.aload_n 3, 1) := by decide +kernel
theorem dX11_look_82 : decode cX11_look 82 = .ok (.invokestatic 135, 3) := by decide +kernel
theorem dX11_look_85 : decode cX11_look 85 = .ok (.ireturn, 1) := by decide +kernel
theorem dX11_look_86 : decode cX11_look 86 = .ok (.aload_n 3, 1) := by decide +kernel
theorem dX11_look_87 : decode cX11_look 87 = .ok (.invokestatic 138, 3) := by decide +kernel
theorem dX11_look_90 : decode cX11_look 90 = .ok (.ireturn, 1) := by decide +kernel
theorem dX11_look_91 : decode cX11_look 91 = .ok (.bipush (-2), 2) := by decide +kernel
theorem dX11_look_93 : decode cX11_look 93 = .ok (.ireturn, 1) := by decide +kernel
theorem dX11_merges_0 : decode cX11_merges 0 = .ok (.aload_n 0, 1) := by decide +kernel
theorem dX11_merges_1 : decode cX11_merges 1 = .ok (.iload_n 1, 1) := by decide +kernel
theorem dX11_merges_2 : decode cX11_merges 2 = .ok (.invokevirtual 116, 3) := by decide +kernel
theorem dX11_merges_5 : decode cX11_merges 5 = .ok (.astore 4, 2) := by decide +kernel
theorem dX11_merges_7 : decode cX11_merges 7 = .ok (.aload 4, 2) := by decide +kernel
theorem dX11_merges_9 : decode cX11_merges 9 = .ok (.ifnull 13, 3) := by decide +kernel
theorem dX11_merges_12 : decode cX11_merges 12 = .ok (.aload 4, 2) := by decide +kernel
theorem dX11_merges_14 : decode cX11_merges 14 = .ok (.iload_n 2, 1) := by decide +kernel
theorem dX11_merges_15 : decode cX11_merges 15 = .ok (.iload_n 3, 1) := by decide +kernel
theorem dX11_merges_16 : decode cX11_merges 16 = .ok (.invokevirtual 281, 3) := by decide +kernel
theorem dX11_merges_19 : decode cX11_merges 19 = .ok (.ifCond .ne 6, 3) := by decide +kernel
theorem dX11_merges_22 : decode cX11_merges 22 = .ok (.bipush (-2), 2) := by decide +kernel
theorem dX11_merges_24 : decode cX11_merges 24 = .ok (.ireturn, 1) := by decide +kernel
theorem dX11_merges_25 : decode cX11_merges 25 = .ok (.aload 4, 2) := by decide +kernel
theorem dX11_merges_27 : decode cX11_merges 27 = .ok (.iload_n 2, 1) := by decide +kernel
theorem dX11_merges_28 : decode cX11_merges 28 = .ok (.iload_n 3, 1) := by decide +kernel
theorem dX11_merges_29 : decode cX11_merges 29 = .ok (.invokevirtual 148, 3) := by decide +kernel
theorem dX11_merges_32 : decode cX11_merges 32 = .ok (.ifCond .ne 6, 3) := by decide +kernel
theorem dX11_merges_35 : decode cX11_merges 35 = .ok (.bipush (-6), 2) := by decide +kernel
theorem dX11_merges_37 : decode cX11_merges 37 = .ok (.ireturn, 1) := by decide +kernel
theorem dX11_merges_38 : decode cX11_merges 38 = .ok (.aload_n 0, 1) := by decide +kernel
theorem dX11_merges_39 : decode cX11_merges 39 = .ok (.getfield 65, 3) := by decide +kernel
theorem dX11_merges_42 : decode cX11_merges 42 = .ok (.aload 4, 2) := by decide +kernel
theorem dX11_merges_44 : decode cX11_merges 44 = .ok (.invokevirtual 90, 3) := by decide +kernel
theorem dX11_merges_47 : decode cX11_merges 47 = .ok (.aload 4, 2) := by decide +kernel
theorem dX11_merges_49 : decode cX11_merges 49 = .ok (.iload_n 2, 1) := by decide +kernel
theorem dX11_merges_50 : decode cX11_merges 50 = .ok (.iload_n 3, 1) := by decide +kernel
theorem dX11_merges_51 : decode cX11_merges 51 = .ok (.invokevirtual 289, 3) := by decide +kernel
theorem dX11_merges_54 : decode cX11_merges 54 = .ok (.aload_n 0, 1) := by decide +kernel
theorem dX11_merges_55 : decode cX11_merges 55 = .ok (.iload_n 1, 1) := by decide +kernel
theorem dX11_merges_56 : decode cX11_merges 56 = .ok (.invokevirtual 97, 3) := by decide +kernel
theorem dX11_merges_59 : decode cX11_merges 59 = .ok (.aload 4, 2) := by decide +kernel
theorem dX11_merges_61 : decode cX11_merges 61 = .ok (.getfield 120, 3) := by decide +kernel
theorem dX11_merges_64 : decode cX11_merges 64 = .ok (.ireturn, 1) := by decide +kernel
theorem dX11_minor_0 : decode cX11_minor 0 = .ok (.aload_n 0, 1) := by decide +kernel
theorem dX11_minor_1 : decode cX11_minor 1 = .ok (.iload_n 1, 1) := by decide +kernel
theorem dX11_minor_2 : decode cX11_minor 2 = .ok (.invokevirtual 116, 3) := by decide +kernel
theorem dX11_minor_5 : decode cX11_minor 5 = .ok (.astore_n 2, 1) := by decide +kernel
theorem dX11_minor_6 : decode cX11_minor 6 = .ok (.aload_n 2, 1) := by decide +kernel
theorem dX11_minor_7 : decode cX11_minor 7 = .ok (.ifnonnull 6, 3) := by decide +kernel
theorem dX11_minor_10 : decode cX11_minor 10 = .ok (.bipush (-2), 2) := by decide +kernel
theorem dX11_minor_12 : decode cX11_minor 12 = .ok (.ireturn, 1) := by decide +kernel
theorem dX11_minor_13 : decode cX11_minor 13 = .ok (.aload_n 0, 1) := by decide +kernel
theorem dX11_minor_14 : decode cX11_minor 14 = .ok (.getfield 69, 3) := by decide +kernel
theorem dX11_minor_17 : decode cX11_minor 17 = .ok (.aload_n 2, 1) := by decide +kernel
theorem dX11_minor_18 : decode cX11_minor 18 = .ok (.invokevirtual 90, 3) := by decide +kernel
theorem dX11_minor_21 : decode cX11_minor 21 = .ok (.aload_n 0, 1) := by decide +kernel
theorem dX11_minor_22 : decode cX11_minor 22 = .ok (.getfield 69, 3) := by decide +kernel
theorem dX11_minor_25 : decode cX11_minor 25 = .ok (.invokestatic 221, 3) := by decide +kernel
theorem dX11_minor_28 : decode cX11_minor 28 = .ok (.ireturn, 1) := by decide +kernel
theorem dX11_moves_0 : decode cX11_moves 0 = .ok (.aload_n 0, 1) := by decide +kernel
theorem dX11_moves_1 : decode cX11_moves 1 = .ok (.iload_n 1, 1) := by decide +kernel
theorem dX11_moves_2 : decode cX11_moves 2 = .ok (.invokevirtual 116, 3) := by decide +kernel
theorem dX11_moves_5 : decode cX11_moves 5 = .ok (.astore 4, 2) := by decide +kernel
theorem dX11_moves_7 : decode cX11_moves 7 = .ok (.aload 4, 2) := by decide +kernel
theorem dX11_moves_9 : decode cX11_moves 9 = .ok (.ifnull 21, 3) := by decide +kernel
theorem dX11_moves_12 : decode cX11_moves 12 = .ok (.aload 4, 2) := by decide +kernel
theorem dX11_moves_14 : decode cX11_moves 14 = .ok (.iload_n 2, 1) := by decide +kernel
theorem dX11_moves_15 : decode cX11_moves 15 = .ok (.invokevirtual 141, 3) := by decide +kernel
theorem dX11_moves_18 : decode cX11_moves 18 = .ok (.ifCond .eq 12, 3) := by decide +kernel
theorem dX11_moves_21 : decode cX11_moves 21 = .ok (.aload 4, 2) := by decide +kernel
theorem dX11_moves_23 : decode cX11_moves 23 = .ok (.iload_n 3, 1) := by decide +kernel
theorem dX11_moves_24 : decode cX11_moves 24 = .ok (.invokevirtual 141, 3) := by decide +kernel
theorem dX11_moves_27 : decode cX11_moves 27 = .ok (.ifCond .ne 6, 3) := by decide +kernel
theorem dX11_moves_30 : decode cX11_moves 30 = .ok (.bipush (-2), 2) := by decide +kernel
theorem dX11_moves_32 : decode cX11_moves 32 = .ok (.ireturn, 1) := by decide +kernel
theorem dX11_moves_33 : decode cX11_moves 33 = .ok (.aload_n 0, 1) := by decide +kernel
theorem dX11_moves_34 : decode cX11_moves 34 = .ok (.getfield 65, 3) := by decide +kernel
theorem dX11_moves_37 : decode cX11_moves 37 = .ok (.aload 4, 2) := by decide +kernel
theorem dX11_moves_39 : decode cX11_moves 39 = .ok (.invokevirtual 90, 3) := by decide +kernel
theorem dX11_moves_42 : decode cX11_moves 42 = .ok (.aload 4, 2) := by decide +kernel
theorem dX11_moves_44 : decode cX11_moves 44 = .ok (.iload_n 2, 1) := by decide +kernel
theorem dX11_moves_45 : decode cX11_moves 45 = .ok (.iload_n 3, 1) := by decide +kernel
theorem dX11_moves_46 : decode cX11_moves 46 = .ok (.invokevirtual 256, 3) := by decide +kernel
theorem dX11_moves_49 : decode cX11_moves 49 = .ok (.aload_n 0, 1) := by decide +kernel
theorem dX11_moves_50 : decode cX11_moves 50 = .ok (.iload_n 1, 1) := by decide +kernel
theorem dX11_moves_51 : decode cX11_moves 51 = .ok (.invokevirtual 97, 3) := by decide +kernel
theorem dX11_moves_54 : decode cX11_moves 54 = .ok (.aload_n 0, 1) := by decide +kernel
theorem dX11_moves_55 : decode cX11_moves 55 = .ok (.getfield 65, 3) := by decide +kernel
theorem dX11_moves_58 : decode cX11_moves 58 = .ok (.getfield 156, 3) := by decide +kernel
theorem dX11_moves_61 : decode cX11_moves 61 = .ok (.iload_n 2, 1) := by decide +kernel
theorem dX11_moves_62 : decode cX11_moves 62 = .ok (.iaload, 1) := by decide +kernel
theorem dX11_moves_63 : decode cX11_moves 63 = .ok (.ireturn, 1) := by decide +kernel
theorem dX11_near_0 : decode cX11_near 0 = .ok (.aload_n 0, 1) := by decide +kernel
theorem dX11_near_1 : decode cX11_near 1 = .ok (.iload_n 1, 1) := by decide +kernel
theorem dX11_near_2 : decode cX11_near 2 = .ok (.invokevirtual 116, 3) := by decide +kernel
theorem dX11_near_5 : decode cX11_near 5 = .ok (.astore_n 3, 1) := by decide +kernel
theorem dX11_near_6 : decode cX11_near 6 = .ok (.aload_n 3, 1) := by decide +kernel
theorem dX11_near_7 : decode cX11_near 7 = .ok (.ifnull 11, 3) := by decide +kernel
theorem dX11_near_10 : decode cX11_near 10 = .ok (.aload_n 3, 1) := by decide +kernel
theorem dX11_near_11 : decode cX11_near 11 = .ok (.iload_n 2, 1) := by decide +kernel
theorem dX11_near_12 : decode cX11_near 12 = .ok (.invokevirtual 141, 3) := by decide +kernel
theorem dX11_near_15 : decode cX11_near 15 = .ok (.ifCond .ne 8, 3) := by decide +kernel
theorem dX11_near_18 : decode cX11_near 18 = .ok (.bipush (-2), 2) := by decide +kernel
theorem dX11_near_20 : decode cX11_near 20 = .ok (.goto 9, 3) := by decide +kernel
theorem dX11_near_23 : decode cX11_near 23 = .ok (.aload_n 3, 1) := by decide +kernel
theorem dX11_near_24 : decode cX11_near 24 = .ok (.getfield 144, 3) := by decide +kernel
theorem dX11_near_27 : decode cX11_near 27 = .ok (.iload_n 2, 1) := by decide +kernel
theorem dX11_near_28 : decode cX11_near 28 = .ok (.iaload, 1) := by decide +kernel
theorem dX11_near_29 : decode cX11_near 29 = .ok (.ireturn, 1) := by decide +kernel
theorem dX11_netIn_0 : decode cX11_netIn 0 = .ok (.iload_n 1, 1) := by decide +kernel
theorem dX11_netIn_1 : decode cX11_netIn 1 = .ok (.invokestatic 83, 3) := by decide +kernel
theorem dX11_netIn_4 : decode cX11_netIn 4 = .ok (.ifCond .eq 24, 3) := by decide +kernel
theorem dX11_netIn_7 : decode cX11_netIn 7 = .ok (.aload_n 0, 1) := by decide +kernel
theorem dX11_netIn_8 : decode cX11_netIn 8 = .ok (.getfield 32, 3) := by decide +kernel
theorem dX11_netIn_11 : decode cX11_netIn 11 = .ok (.iload_n 1, 1) := by decide +kernel
theorem dX11_netIn_12 : decode cX11_netIn 12 = .ok (.aaload, 1) := by decide +kernel
theorem dX11_netIn_13 : decode cX11_netIn 13 = .ok (.getfield 120, 3) := by decide +kernel
theorem dX11_netIn_16 : decode cX11_netIn 16 = .ok (.ifCond .le 12, 3) := by decide +kernel
theorem dX11_netIn_19 : decode cX11_netIn 19 = .ok (.aload_n 0, 1) := by decide +kernel
theorem dX11_netIn_20 : decode cX11_netIn 20 = .ok (.getfield 32, 3) := by decide +kernel
theorem dX11_netIn_23 : decode cX11_netIn 23 = .ok (.iload_n 1, 1) := by decide +kernel
theorem dX11_netIn_24 : decode cX11_netIn 24 = .ok (.aaload, 1) := by decide +kernel
theorem dX11_netIn_25 : decode cX11_netIn 25 = .ok (.goto 4, 3) := by decide +kernel
theorem dX11_netIn_28 : decode cX11_netIn 28 = .ok (.aconst_null, 1) := by decide +kernel
theorem dX11_netIn_29 : decode cX11_netIn 29 = .ok (.areturn, 1) := by decide +kernel
theorem dX11_noteAct_0 : decode cX11_noteAct 0 = .ok (.aload_n 0, 1) := by decide +kernel
theorem dX11_noteAct_1 : decode cX11_noteAct 1 = .ok (.getfield 65, 3) := by decide +kernel
theorem dX11_noteAct_4 : decode cX11_noteAct 4 = .ok (.aload_n 0, 1) := by decide +kernel
theorem dX11_noteAct_5 : decode cX11_noteAct 5 = .ok (.getfield 32, 3) := by decide +kernel
theorem dX11_noteAct_8 : decode cX11_noteAct 8 = .ok (.iload_n 1, 1) := by decide +kernel
theorem dX11_noteAct_9 : decode cX11_noteAct 9 = .ok (.aaload, 1) := by decide +kernel
theorem dX11_noteAct_10 : decode cX11_noteAct 10 = .ok (.invokevirtual 328, 3) := by decide +kernel
theorem dX11_noteAct_13 : decode cX11_noteAct 13 = .ok (.ifCond .ne 15, 3) := by decide +kernel
theorem dX11_noteAct_16 : decode cX11_noteAct 16 = .ok (.aload_n 0, 1) := by decide +kernel
theorem dX11_noteAct_17 : decode cX11_noteAct 17 = .ok (.getfield 61, 3) := by decide +kernel
theorem dX11_noteAct_20 : decode cX11_noteAct 20 = .ok (.iload_n 1, 1) := by decide +kernel
theorem dX11_noteAct_21 : decode cX11_noteAct 21 = .ok (.aload_n 0, 1) := by decide +kernel
theorem dX11_noteAct_22 : decode cX11_noteAct 22 = .ok (.getfield 65, 3) := by decide +kernel
theorem dX11_noteAct_25 : decode cX11_noteAct 25 = .ok (.invokevirtual 332, 3) := by decide +kernel
theorem dX11_noteAct_28 : decode cX11_noteAct 28 = .ok (.return_, 1) := by decide +kernel
theorem dX11_octet_0 : decode cX11_octet 0 = .ok (.aload_n 0, 1) := by decide +kernel
theorem dX11_octet_1 : decode cX11_octet 1 = .ok (.getfield 18, 3) := by decide +kernel
theorem dX11_octet_4 : decode cX11_octet 4 = .ok (.iload_n 1, 1) := by decide +kernel
theorem dX11_octet_5 : decode cX11_octet 5 = .ok (.invokevirtual 308, 3) := by decide +kernel
theorem dX11_octet_8 : decode cX11_octet 8 = .ok (.ireturn, 1) := by decide +kernel
theorem dX11_place_0 : decode cX11_place 0 = .ok (.aload_n 0, 1) := by decide +kernel
theorem dX11_place_1 : decode cX11_place 1 = .ok (.iload_n 1, 1) := by decide +kernel
theorem dX11_place_2 : decode cX11_place 2 = .ok (.invokevirtual 116, 3) := by decide +kernel
theorem dX11_place_5 : decode cX11_place 5 = .ok (.astore_n 3, 1) := by decide +kernel
theorem dX11_place_6 : decode cX11_place 6 = .ok (.aload_n 3, 1) := by decide +kernel
theorem dX11_place_7 : decode cX11_place 7 = .ok (.ifnull 11, 3) := by decide +kernel
theorem dX11_place_10 : decode cX11_place 10 = .ok (.aload_n 3, 1) := by decide +kernel
theorem dX11_place_11 : decode cX11_place 11 = .ok (.iload_n 2, 1) := by decide +kernel
theorem dX11_place_12 : decode cX11_place 12 = .ok (.invokevirtual 141, 3) := by decide +kernel
theorem dX11_place_15 : decode cX11_place 15 = .ok (.ifCond .ne 8, 3) := by decide +kernel
theorem dX11_place_18 : decode cX11_place 18 = .ok (.bipush (-2), 2) := by decide +kernel
theorem dX11_place_20 : decode cX11_place 20 = .ok (.goto 8, 3) := by decide +kernel
theorem dX11_place_23 : decode cX11_place 23 = .ok (.aload_n 3, 1) := by decide +kernel
theorem dX11_place_24 : decode cX11_place 24 = .ok (.iload_n 2, 1) := by decide +kernel
theorem dX11_place_25 : decode cX11_place 25 = .ok (.invokevirtual 159, 3) := by decide +kernel
theorem dX11_place_28 : decode cX11_place 28 = .ok (.ireturn, 1) := by decide +kernel
theorem dX11_polish_0 : decode cX11_polish 0 = .ok (.aload_n 0, 1) := by decide +kernel
theorem dX11_polish_1 : decode cX11_polish 1 = .ok (.iload_n 1, 1) := by decide +kernel
theorem dX11_polish_2 : decode cX11_polish 2 = .ok (.invokevirtual 116, 3) := by decide +kernel
theorem dX11_polish_5 : decode cX11_polish 5 = .ok (.astore_n 3, 1) := by decide +kernel
theorem dX11_polish_6 : decode cX11_polish 6 = .ok (.aload_n 3, 1) := by decide +kernel
theorem dX11_polish_7 : decode cX11_polish 7 = .ok (.ifnull 10, 3) := by decide +kernel
theorem dX11_polish_10 : decode cX11_polish 10 = .ok (.iload_n 2, 1) := by decide +kernel
theorem dX11_polish_11 : decode cX11_polish 11 = .ok (.invokestatic 163, 3) := by decide +kernel
theorem dX11_polish_14 : decode cX11_polish 14 = .ok (.ifCond .ne 6, 3) := by decide +kernel
theorem dX11_polish_17 : decode cX11_polish 17 = .ok (.bipush (-2), 2) := by decide +kernel
theorem dX11_polish_19 : decode cX11_polish 19 = .ok (.ireturn, 1) := by decide +kernel
theorem dX11_polish_20 : decode cX11_polish 20 = .ok (.aload_n 0, 1) := by decide +kernel
theorem dX11_polish_21 : decode cX11_polish 21 = .ok (.getfield 65, 3) := by decide +kernel
theorem dX11_polish_24 : decode cX11_polish 24 = .ok (.aload_n 3, 1) := by decide +kernel
theorem dX11_polish_25 : decode cX11_polish 25 = .ok (.invokevirtual 90, 3) := by decide +kernel
theorem dX11_polish_28 : decode cX11_polish 28 = .ok (.aload_n 3, 1) := by decide +kernel
theorem dX11_polish_29 : decode cX11_polish 29 = .ok (.iload_n 2, 1) := by decide +kernel
theorem dX11_polish_30 : decode cX11_polish 30 = .ok (.invokestatic 271, 3) := by decide +kernel
theorem dX11_polish_33 : decode cX11_polish 33 = .ok (.istore 4, 2) := by decide +kernel
theorem dX11_polish_35 : decode cX11_polish 35 = .ok (.aload_n 0, 1) := by decide +kernel
theorem dX11_polish_36 : decode cX11_polish 36 = .ok (.iload_n 1, 1) := by decide +kernel
theorem dX11_polish_37 : decode cX11_polish 37 = .ok (.invokevirtual 97, 3) := by decide +kernel
theorem dX11_polish_40 : decode cX11_polish 40 = .ok (.iload 4, 2) := by decide +kernel
theorem dX11_polish_42 : decode cX11_polish 42 = .ok (.ireturn, 1) := by decide +kernel
theorem dX11_polished_0 : decode cX11_polished 0 = .ok (.aload_n 0, 1) := by decide +kernel
theorem dX11_polished_1 : decode cX11_polished 1 = .ok (.iload_n 1, 1) := by decide +kernel
theorem dX11_polished_2 : decode cX11_polished 2 = .ok (.invokevirtual 116, 3) := by decide +kernel
theorem dX11_polished_5 : decode cX11_polished 5 = .ok (.astore_n 3, 1) := by decide +kernel
theorem dX11_polished_6 : decode cX11_polished 6 = .ok (.aload_n 3, 1) := by decide +kernel
theorem dX11_polished_7 : decode cX11_polished 7 = .ok (.ifnull 10, 3) := by decide +kernel
theorem dX11_polished_10 : decode cX11_polished 10 = .ok (.iload_n 2, 1) := by decide +kernel
theorem dX11_polished_11 : decode cX11_polished 11 = .ok (.invokestatic 163, 3) := by decide +kernel
theorem dX11_polished_14 : decode cX11_polished 14 = .ok (.ifCond .ne 6, 3) := by decide +kernel
theorem dX11_polished_17 : decode cX11_polished 17 = .ok (.bipush (-2), 2) := by decide +kernel
theorem dX11_polished_19 : decode cX11_polished 19 = .ok (.ireturn, 1) := by decide +kernel
theorem dX11_polished_20 : decode cX11_polished 20 = .ok (.aload_n 0, 1) := by decide +kernel
theorem dX11_polished_21 : decode cX11_polished 21 = .ok (.getfield 69, 3) := by decide +kernel
theorem dX11_polished_24 : decode cX11_polished 24 = .ok (.aload_n 3, 1) := by decide +kernel
theorem dX11_polished_25 : decode cX11_polished 25 = .ok (.invokevirtual 90, 3) := by decide +kernel
theorem dX11_polished_28 : decode cX11_polished 28 = .ok (.aload_n 0, 1) := by decide +kernel
theorem dX11_polished_29 : decode cX11_polished 29 = .ok (.getfield 69, 3) := by decide +kernel
theorem dX11_polished_32 : decode cX11_polished 32 = .ok (.iload_n 2, 1) := by decide +kernel
theorem dX11_polished_33 : decode cX11_polished 33 = .ok (.invokestatic 271, 3) := by decide +kernel
theorem dX11_polished_36 : decode cX11_polished 36 = .ok (.pop, 1) := by decide +kernel
theorem dX11_polished_37 : decode cX11_polished 37 = .ok (.aload_n 0, 1) := by decide +kernel
theorem dX11_polished_38 : decode cX11_polished 38 = .ok (.getfield 69, 3) := by decide +kernel
theorem dX11_polished_41 : decode cX11_polished 41 = .ok (.iload_n 2, 1) := by decide +kernel
theorem dX11_polished_42 : decode cX11_polished 42 = .ok (.invokestatic 166, 3) := by decide +kernel
theorem dX11_polished_45 : decode cX11_polished 45 = .ok (.ireturn, 1) := by decide +kernel
theorem dX11_price_0 : decode cX11_price 0 = .ok (.aload_n 0, 1) := by decide +kernel
theorem dX11_price_1 : decode cX11_price 1 = .ok (.iload_n 1, 1) := by decide +kernel
theorem dX11_price_2 : decode cX11_price 2 = .ok (.invokevirtual 116, 3) := by decide +kernel
theorem dX11_price_5 : decode cX11_price 5 = .ok (.astore 4, 2) := by decide +kernel
theorem dX11_price_7 : decode cX11_price 7 = .ok (.aload 4, 2) := by decide +kernel
theorem dX11_price_9 : decode cX11_price 9 = .ok (.ifnull 10, 3) := by decide +kernel
theorem dX11_price_12 : decode cX11_price 12 = .ok (.iload_n 2, 1) := by decide +kernel
theorem dX11_price_13 : decode cX11_price 13 = .ok (.invokestatic 172, 3) := by decide +kernel
theorem dX11_price_16 : decode cX11_price 16 = .ok (.ifCond .ne 6, 3) := by decide +kernel
theorem dX11_price_19 : decode cX11_price 19 = .ok (.bipush (-2), 2) := by decide +kernel
theorem dX11_price_21 : decode cX11_price 21 = .ok (.ireturn, 1) := by decide +kernel
theorem dX11_price_22 : decode cX11_price 22 = .ok (.aload 4, 2) := by decide +kernel
theorem dX11_price_24 : decode cX11_price 24 = .ok (.iload_n 3, 1) := by decide +kernel
theorem dX11_price_25 : decode cX11_price 25 = .ok (.invokevirtual 141, 3) := by decide +kernel
theorem dX11_price_28 : decode cX11_price 28 = .ok (.ifCond .eq 11, 3) := by decide +kernel
theorem dX11_price_31 : decode cX11_price 31 = .ok (.iload_n 3, 1) := by decide +kernel
theorem dX11_price_32 : decode cX11_price 32 = .ok (.iload_n 2, 1) := by decide +kernel
theorem dX11_price_33 : decode cX11_price 33 = .ok (.invokestatic 175, 3) := by decide +kernel
theorem dX11_price_36 : decode cX11_price 36 = .ok (.if_icmp .ge 6, 3) := by decide +kernel
theorem dX11_price_39 : decode cX11_price 39 = .ok (.bipush (-2), 2) := by decide +kernel
theorem dX11_price_41 : decode cX11_price 41 = .ok (.ireturn, 1) := by decide +kernel
theorem dX11_price_42 : decode cX11_price 42 = .ok (.aload 4, 2) := by decide +kernel
theorem dX11_price_44 : decode cX11_price 44 = .ok (.iload_n 2, 1) := by decide +kernel
theorem dX11_price_45 : decode cX11_price 45 = .ok (.iload_n 3, 1) := by decide +kernel
theorem dX11_price_46 : decode cX11_price 46 = .ok (.invokestatic 180, 3) := by decide +kernel
theorem dX11_price_49 : decode cX11_price 49 = .ok (.ireturn, 1) := by decide +kernel
theorem dX11_reverse_0 : decode cX11_reverse 0 = .ok (.aload_n 0, 1) := by decide +kernel
theorem dX11_reverse_1 : decode cX11_reverse 1 = .ok (.iload_n 1, 1) := by decide +kernel
theorem dX11_reverse_2 : decode cX11_reverse 2 = .ok (.invokevirtual 116, 3) := by decide +kernel
theorem dX11_reverse_5 : decode cX11_reverse 5 = .ok (.astore_n 2, 1) := by decide +kernel
theorem dX11_reverse_6 : decode cX11_reverse 6 = .ok (.aload_n 2, 1) := by decide +kernel
theorem dX11_reverse_7 : decode cX11_reverse 7 = .ok (.ifnonnull 6, 3) := by decide +kernel
theorem dX11_reverse_10 : decode cX11_reverse 10 = .ok (.bipush (-2), 2) := by decide +kernel
theorem dX11_reverse_12 : decode cX11_reverse 12 = .ok (.ireturn, 1) := by decide +kernel
theorem dX11_reverse_13 : decode cX11_reverse 13 = .ok (.aload_n 0, 1) := by decide +kernel
theorem dX11_reverse_14 : decode cX11_reverse 14 = .ok (.getfield 65, 3) := by decide +kernel
theorem dX11_reverse_17 : decode cX11_reverse 17 = .ok (.aload_n 2, 1) := by decide +kernel
theorem dX11_reverse_18 : decode cX11_reverse 18 = .ok (.invokevirtual 90, 3) := by decide +kernel
theorem dX11_reverse_21 : decode cX11_reverse 21 = .ok (.aload_n 2, 1) := by decide +kernel
theorem dX11_reverse_22 : decode cX11_reverse 22 = .ok (.invokevirtual 259, 3) := by decide +kernel
theorem dX11_reverse_25 : decode cX11_reverse 25 = .ok (.aload_n 0, 1) := by decide +kernel
theorem dX11_reverse_26 : decode cX11_reverse 26 = .ok (.iload_n 1, 1) := by decide +kernel
theorem dX11_reverse_27 : decode cX11_reverse 27 = .ok (.invokevirtual 97, 3) := by decide +kernel
theorem dX11_reverse_30 : decode cX11_reverse 30 = .ok (.aload_n 2, 1) := by decide +kernel
theorem dX11_reverse_31 : decode cX11_reverse 31 = .ok (.getfield 156, 3) := by decide +kernel
theorem dX11_reverse_34 : decode cX11_reverse 34 = .ok (.iconst 0, 1) := by decide +kernel
theorem dX11_reverse_35 : decode cX11_reverse 35 = .ok (.iaload, 1) := by decide +kernel
theorem dX11_reverse_36 : decode cX11_reverse 36 = .ok (.ireturn, 1) := by decide +kernel
theorem dX11_row_0 : decode cX11_row 0 = .ok (.aload_n 0, 1) := by decide +kernel
theorem dX11_row_1 : decode cX11_row 1 = .ok (.iload_n 1, 1) := by decide +kernel
theorem dX11_row_2 : decode cX11_row 2 = .ok (.invokevirtual 116, 3) := by decide +kernel
theorem dX11_row_5 : decode cX11_row 5 = .ok (.astore_n 3, 1) := by decide +kernel
theorem dX11_row_6 : decode cX11_row 6 = .ok (.aload_n 3, 1) := by decide +kernel
theorem dX11_row_7 : decode cX11_row 7 = .ok (.ifnull 11, 3) := by decide +kernel
theorem dX11_row_10 : decode cX11_row 10 = .ok (.aload_n 3, 1) := by decide +kernel
theorem dX11_row_11 : decode cX11_row 11 = .ok (.iload_n 2, 1) := by decide +kernel
theorem dX11_row_12 : decode cX11_row 12 = .ok (.invokevirtual 141, 3) := by decide +kernel
theorem dX11_row_15 : decode cX11_row 15 = .ok (.ifCond .ne 8, 3) := by decide +kernel
theorem dX11_row_18 : decode cX11_row 18 = .ok (.bipush (-2), 2) := by decide +kernel
theorem dX11_row_20 : decode cX11_row 20 = .ok (.goto 9, 3) := by decide +kernel
theorem dX11_row_23 : decode cX11_row 23 = .ok (.aload_n 3, 1) := by decide +kernel
theorem dX11_row_24 : decode cX11_row 24 = .ok (.getfield 156, 3) := by decide +kernel
theorem dX11_row_27 : decode cX11_row 27 = .ok (.iload_n 2, 1) := by decide +kernel
theorem dX11_row_28 : decode cX11_row 28 = .ok (.iaload, 1) := by decide +kernel
theorem dX11_row_29 : decode cX11_row 29 = .ok (.ireturn, 1) := by decide +kernel
theorem dX11_split_0 : decode cX11_split 0 = .ok (.aload_n 0, 1) := by decide +kernel
theorem dX11_split_1 : decode cX11_split 1 = .ok (.iload_n 1, 1) := by decide +kernel
theorem dX11_split_2 : decode cX11_split 2 = .ok (.invokevirtual 116, 3) := by decide +kernel
theorem dX11_split_5 : decode cX11_split 5 = .ok (.astore 4, 2) := by decide +kernel
theorem dX11_split_7 : decode cX11_split 7 = .ok (.aload 4, 2) := by decide +kernel
theorem dX11_split_9 : decode cX11_split 9 = .ok (.ifnull 16, 3) := by decide +kernel
theorem dX11_split_12 : decode cX11_split 12 = .ok (.iload_n 2, 1) := by decide +kernel
theorem dX11_split_13 : decode cX11_split 13 = .ok (.ifCond .lt 12, 3) := by decide +kernel
theorem dX11_split_16 : decode cX11_split 16 = .ok (.iload_n 2, 1) := by decide +kernel
theorem dX11_split_17 : decode cX11_split 17 = .ok (.aload 4, 2) := by decide +kernel
theorem dX11_split_19 : decode cX11_split 19 = .ok (.invokevirtual 228, 3) := by decide +kernel
theorem dX11_split_22 : decode cX11_split 22 = .ok (.if_icmp .le 6, 3) := by decide +kernel
theorem dX11_split_25 : decode cX11_split 25 = .ok (.bipush (-2), 2) := by decide +kernel
theorem dX11_split_27 : decode cX11_split 27 = .ok (.ireturn, 1) := by decide +kernel
theorem dX11_split_28 : decode cX11_split 28 = .ok (.iload_n 3, 1) := by decide +kernel
theorem dX11_split_29 : decode cX11_split 29 = .ok (.tableswitch 48 0 2 #[27, 34, 41], 27) := by decide +kernel
theorem dX11_split_56 : decode cX11_split 56 = .ok (.aload 4, 2) := by decide +kernel
theorem dX11_split_58 : decode cX11_split 58 = .ok (.iload_n 2, 1) := by decide +kernel
theorem dX11_split_59 : decode cX11_split 59 = .ok (.invokestatic 231, 3) := by decide +kernel
theorem dX11_split_62 : decode cX11_split 62 = .ok (.ireturn, 1) := by decide +kernel
theorem dX11_split_63 : decode cX11_split 63 = .ok (.aload 4, 2) := by decide +kernel
theorem dX11_split_65 : decode cX11_split 65 = .ok (.iload_n 2, 1) := by decide +kernel
theorem dX11_split_66 : decode cX11_split 66 = .ok (.invokestatic 234, 3) := by decide +kernel
theorem dX11_split_69 : decode cX11_split 69 = .ok (.ireturn, 1) := by decide +kernel
theorem dX11_split_70 : decode cX11_split 70 = .ok (.aload 4, 2) := by decide +kernel
theorem dX11_split_72 : decode cX11_split 72 = .ok (.iload_n 2, 1) := by decide +kernel
theorem dX11_split_73 : decode cX11_split 73 = .ok (.invokestatic 237, 3) := by decide +kernel
theorem dX11_split_76 : decode cX11_split 76 = .ok (.ireturn, 1) := by decide +kernel
theorem dX11_split_77 : decode cX11_split 77 = .ok (.bipush (-2), 2) := by decide +kernel
theorem dX11_split_79 : decode cX11_split 79 = .ok (.ireturn, 1) := by decide +kernel
theorem dX11_swaps_0 : decode cX11_swaps 0 = .ok (.aload_n 0, 1) := by decide +kernel
theorem dX11_swaps_1 : decode cX11_swaps 1 = .ok (.iload_n 1, 1) := by decide +kernel
theorem dX11_swaps_2 : decode cX11_swaps 2 = .ok (.invokevirtual 116, 3) := by decide +kernel
theorem dX11_swaps_5 : decode cX11_swaps 5 = .ok (.astore 4, 2) := by decide +kernel
theorem dX11_swaps_7 : decode cX11_swaps 7 = .ok (.aload 4, 2) := by decide +kernel
theorem dX11_swaps_9 : decode cX11_swaps 9 = .ok (.ifnull 21, 3) := by decide +kernel
theorem dX11_swaps_12 : decode cX11_swaps 12 = .ok (.aload 4, 2) := by decide +kernel
theorem dX11_swaps_14 : decode cX11_swaps 14 = .ok (.iload_n 2, 1) := by decide +kernel
theorem dX11_swaps_15 : decode cX11_swaps 15 = .ok (.invokevirtual 141, 3) := by decide +kernel
theorem dX11_swaps_18 : decode cX11_swaps 18 = .ok (.ifCond .eq 12, 3) := by decide +kernel
theorem dX11_swaps_21 : decode cX11_swaps 21 = .ok (.aload 4, 2) := by decide +kernel
theorem dX11_swaps_23 : decode cX11_swaps 23 = .ok (.iload_n 3, 1) := by decide +kernel
theorem dX11_swaps_24 : decode cX11_swaps 24 = .ok (.invokevirtual 141, 3) := by decide +kernel
theorem dX11_swaps_27 : decode cX11_swaps 27 = .ok (.ifCond .ne 6, 3) := by decide +kernel
theorem dX11_swaps_30 : decode cX11_swaps 30 = .ok (.bipush (-2), 2) := by decide +kernel
theorem dX11_swaps_32 : decode cX11_swaps 32 = .ok (.ireturn, 1) := by decide +kernel
theorem dX11_swaps_33 : decode cX11_swaps 33 = .ok (.aload_n 0, 1) := by decide +kernel
theorem dX11_swaps_34 : decode cX11_swaps 34 = .ok (.getfield 65, 3) := by decide +kernel
theorem dX11_swaps_37 : decode cX11_swaps 37 = .ok (.aload 4, 2) := by decide +kernel
theorem dX11_swaps_39 : decode cX11_swaps 39 = .ok (.invokevirtual 90, 3) := by decide +kernel
theorem dX11_swaps_42 : decode cX11_swaps 42 = .ok (.aload 4, 2) := by decide +kernel
theorem dX11_swaps_44 : decode cX11_swaps 44 = .ok (.iload_n 2, 1) := by decide +kernel
theorem dX11_swaps_45 : decode cX11_swaps 45 = .ok (.iload_n 3, 1) := by decide +kernel
theorem dX11_swaps_46 : decode cX11_swaps 46 = .ok (.invokevirtual 252, 3) := by decide +kernel
theorem dX11_swaps_49 : decode cX11_swaps 49 = .ok (.aload_n 0, 1) := by decide +kernel
theorem dX11_swaps_50 : decode cX11_swaps 50 = .ok (.iload_n 1, 1) := by decide +kernel
theorem dX11_swaps_51 : decode cX11_swaps 51 = .ok (.invokevirtual 97, 3) := by decide +kernel
theorem dX11_swaps_54 : decode cX11_swaps 54 = .ok (.aload_n 0, 1) := by decide +kernel
theorem dX11_swaps_55 : decode cX11_swaps 55 = .ok (.getfield 65, 3) := by decide +kernel
theorem dX11_swaps_58 : decode cX11_swaps 58 = .ok (.getfield 156, 3) := by decide +kernel
theorem dX11_swaps_61 : decode cX11_swaps 61 = .ok (.iload_n 2, 1) := by decide +kernel
theorem dX11_swaps_62 : decode cX11_swaps 62 = .ok (.iaload, 1) := by decide +kernel
theorem dX11_swaps_63 : decode cX11_swaps 63 = .ok (.ireturn, 1) := by decide +kernel
theorem dX11_takes_0 : decode cX11_takes 0 = .ok (.aload_n 0, 1) := by decide +kernel
theorem dX11_takes_1 : decode cX11_takes 1 = .ok (.iload_n 1, 1) := by decide +kernel
theorem dX11_takes_2 : decode cX11_takes 2 = .ok (.iload_n 2, 1) := by decide +kernel
theorem dX11_takes_3 : decode cX11_takes 3 = .ok (.invokevirtual 189, 3) := by decide +kernel
theorem dX11_takes_6 : decode cX11_takes 6 = .ok (.astore_n 3, 1) := by decide +kernel
theorem dX11_takes_7 : decode cX11_takes 7 = .ok (.aload_n 3, 1) := by decide +kernel
theorem dX11_takes_8 : decode cX11_takes 8 = .ok (.ifnonnull 6, 3) := by decide +kernel
theorem dX11_takes_11 : decode cX11_takes 11 = .ok (.bipush (-2), 2) := by decide +kernel
theorem dX11_takes_13 : decode cX11_takes 13 = .ok (.ireturn, 1) := by decide +kernel
theorem dX11_takes_14 : decode cX11_takes 14 = .ok (.aload_n 0, 1) := by decide +kernel
theorem dX11_takes_15 : decode cX11_takes 15 = .ok (.getfield 32, 3) := by decide +kernel
theorem dX11_takes_18 : decode cX11_takes 18 = .ok (.iload_n 1, 1) := by decide +kernel
theorem dX11_takes_19 : decode cX11_takes 19 = .ok (.aaload, 1) := by decide +kernel
theorem dX11_takes_20 : decode cX11_takes 20 = .ok (.astore 4, 2) := by decide +kernel
theorem dX11_takes_22 : decode cX11_takes 22 = .ok (.aload_n 0, 1) := by decide +kernel
theorem dX11_takes_23 : decode cX11_takes 23 = .ok (.getfield 65, 3) := by decide +kernel
theorem dX11_takes_26 : decode cX11_takes 26 = .ok (.aload 4, 2) := by decide +kernel
theorem dX11_takes_28 : decode cX11_takes 28 = .ok (.invokevirtual 90, 3) := by decide +kernel
theorem dX11_takes_31 : decode cX11_takes 31 = .ok (.aload_n 3, 1) := by decide +kernel
theorem dX11_takes_32 : decode cX11_takes 32 = .ok (.getfield 198, 3) := by decide +kernel
theorem dX11_takes_35 : decode cX11_takes 35 = .ok (.iconst 0, 1) := by decide +kernel
theorem dX11_takes_36 : decode cX11_takes 36 = .ok (.aload 4, 2) := by decide +kernel
theorem dX11_takes_38 : decode cX11_takes 38 = .ok (.getfield 156, 3) := by decide +kernel
theorem dX11_takes_41 : decode cX11_takes 41 = .ok (.iconst 0, 1) := by decide +kernel
theorem dX11_takes_42 : decode cX11_takes 42 = .ok (.bipush 9, 2) := by decide +kernel
theorem dX11_takes_44 : decode cX11_takes 44 = .ok (.invokestatic 262, 3) := by decide +kernel
theorem dX11_takes_47 : decode cX11_takes 47 = .ok (.aload_n 0, 1) := by decide +kernel
theorem dX11_takes_48 : decode cX11_takes 48 = .ok (.iload_n 1, 1) := by decide +kernel
theorem dX11_takes_49 : decode cX11_takes 49 = .ok (.invokevirtual 97, 3) := by decide +kernel
theorem dX11_takes_52 : decode cX11_takes 52 = .ok (.aload 4, 2) := by decide +kernel
theorem dX11_takes_54 : decode cX11_takes 54 = .ok (.aload_n 0, 1) := by decide +kernel
theorem dX11_takes_55 : decode cX11_takes 55 = .ok (.getfield 65, 3) := by decide +kernel
theorem dX11_takes_58 : decode cX11_takes 58 = .ok (.invokevirtual 268, 3) := by decide +kernel
theorem dX11_takes_61 : decode cX11_takes 61 = .ok (.ireturn, 1) := by decide +kernel
theorem dX11_tell_0 : decode cX11_tell 0 = .ok (.aload_n 0, 1) := by decide +kernel
theorem dX11_tell_1 : decode cX11_tell 1 = .ok (.iload_n 1, 1) := by decide +kernel
theorem dX11_tell_2 : decode cX11_tell 2 = .ok (.invokevirtual 116, 3) := by decide +kernel
theorem dX11_tell_5 : decode cX11_tell 5 = .ok (.astore_n 3, 1) := by decide +kernel
theorem dX11_tell_6 : decode cX11_tell 6 = .ok (.aload_n 3, 1) := by decide +kernel
theorem dX11_tell_7 : decode cX11_tell 7 = .ok (.ifnull 12, 3) := by decide +kernel
theorem dX11_tell_10 : decode cX11_tell 10 = .ok (.iload_n 2, 1) := by decide +kernel
theorem dX11_tell_11 : decode cX11_tell 11 = .ok (.ifCond .lt 8, 3) := by decide +kernel
theorem dX11_tell_14 : decode cX11_tell 14 = .ok (.iload_n 2, 1) := by decide +kernel
theorem dX11_tell_15 : decode cX11_tell 15 = .ok (.iconst 1, 1) := by decide +kernel
theorem dX11_tell_16 : decode cX11_tell 16 = .ok (.if_icmp .le 6, 3) := by decide +kernel
theorem dX11_tell_19 : decode cX11_tell 19 = .ok (.bipush (-2), 2) := by decide +kernel
theorem dX11_tell_21 : decode cX11_tell 21 = .ok (.ireturn, 1) := by decide +kernel
theorem dX11_tell_22 : decode cX11_tell 22 = .ok (.aload_n 0, 1) := by decide +kernel
theorem dX11_tell_23 : decode cX11_tell 23 = .ok (.getfield 18, 3) := by decide +kernel
theorem dX11_tell_26 : decode cX11_tell 26 = .ok (.iconst 0, 1) := by decide +kernel
theorem dX11_tell_27 : decode cX11_tell 27 = .ok (.putfield 79, 3) := by decide +kernel
theorem dX11_tell_30 : decode cX11_tell 30 = .ok (.iload_n 2, 1) := by decide +kernel
theorem dX11_tell_31 : decode cX11_tell 31 = .ok (.ifCond .ne 16, 3) := by decide +kernel
theorem dX11_tell_34 : decode cX11_tell 34 = .ok (.aload_n 0, 1) := by decide +kernel
theorem dX11_tell_35 : decode cX11_tell 35 = .ok (.aload_n 3, 1) := by decide +kernel
theorem dX11_tell_36 : decode cX11_tell 36 = .ok (.invokevirtual 299, 3) := by decide +kernel
theorem dX11_tell_39 : decode cX11_tell 39 = .ok (.aload_n 0, 1) := by decide +kernel
theorem dX11_tell_40 : decode cX11_tell 40 = .ok (.aload_n 3, 1) := by decide +kernel
theorem dX11_tell_41 : decode cX11_tell 41 = .ok (.invokevirtual 302, 3) := by decide +kernel
theorem dX11_tell_44 : decode cX11_tell 44 = .ok (.goto 8, 3) := by decide +kernel
theorem dX11_tell_47 : decode cX11_tell 47 = .ok (.aload_n 0, 1) := by decide +kernel
theorem dX11_tell_48 : decode cX11_tell 48 = .ok (.aload_n 3, 1) := by decide +kernel
theorem dX11_tell_49 : decode cX11_tell 49 = .ok (.invokevirtual 305, 3) := by decide +kernel
theorem dX11_tell_52 : decode cX11_tell 52 = .ok (.aload_n 0, 1) := by decide +kernel
theorem dX11_tell_53 : decode cX11_tell 53 = .ok (.getfield 18, 3) := by decide +kernel
theorem dX11_tell_56 : decode cX11_tell 56 = .ok (.getfield 79, 3) := by decide +kernel
theorem dX11_tell_59 : decode cX11_tell 59 = .ok (.ireturn, 1) := by decide +kernel
theorem dX11_tellCuts_0 : decode cX11_tellCuts 0 = .ok (.iconst 1, 1) := by decide +kernel
theorem dX11_tellCuts_1 : decode cX11_tellCuts 1 = .ok (.istore_n 2, 1) := by decide +kernel
theorem dX11_tellCuts_2 : decode cX11_tellCuts 2 = .ok (.iload_n 2, 1) := by decide +kernel
theorem dX11_tellCuts_3 : decode cX11_tellCuts 3 = .ok (.aload_n 1, 1) := by decide +kernel
theorem dX11_tellCuts_4 : decode cX11_tellCuts 4 = .ok (.getfield 120, 3) := by decide +kernel
theorem dX11_tellCuts_7 : decode cX11_tellCuts 7 = .ok (.if_icmp .ge 36, 3) := by decide +kernel
theorem dX11_tellCuts_10 : decode cX11_tellCuts 10 = .ok (.iload_n 2, 1) := by decide +kernel
theorem dX11_tellCuts_11 : decode cX11_tellCuts 11 = .ok (.iconst 1, 1) := by decide +kernel
theorem dX11_tellCuts_12 : decode cX11_tellCuts 12 = .ok (.if_icmp .le 12, 3) := by decide +kernel
theorem dX11_tellCuts_15 : decode cX11_tellCuts 15 = .ok (.aload_n 0, 1) := by decide +kernel
theorem dX11_tellCuts_16 : decode cX11_tellCuts 16 = .ok (.getfield 18, 3) := by decide +kernel
theorem dX11_tellCuts_19 : decode cX11_tellCuts 19 = .ok (.bipush 32, 2) := by decide +kernel
theorem dX11_tellCuts_21 : decode cX11_tellCuts 21 = .ok (.invokevirtual 320, 3) := by decide +kernel
theorem dX11_tellCuts_24 : decode cX11_tellCuts 24 = .ok (.aload_n 0, 1) := by decide +kernel
theorem dX11_tellCuts_25 : decode cX11_tellCuts 25 = .ok (.getfield 18, 3) := by decide +kernel
theorem dX11_tellCuts_28 : decode cX11_tellCuts 28 = .ok (.aload_n 1, 1) := by decide +kernel
theorem dX11_tellCuts_29 : decode cX11_tellCuts 29 = .ok (.iconst 0, 1) := by decide +kernel
theorem dX11_tellCuts_30 : decode cX11_tellCuts 30 = .ok (.iload_n 2, 1) := by decide +kernel
theorem dX11_tellCuts_31 : decode cX11_tellCuts 31 = .ok (.invokestatic 180, 3) := by decide +kernel
theorem dX11_tellCuts_34 : decode cX11_tellCuts 34 = .ok (.invokevirtual 317, 3) := by decide +kernel
theorem dX11_tellCuts_37 : decode cX11_tellCuts 37 = .ok (.iinc 2 1, 3) := by decide +kernel
theorem dX11_tellCuts_40 : decode cX11_tellCuts 40 = .ok (.goto (-38), 3) := by decide +kernel
theorem dX11_tellCuts_43 : decode cX11_tellCuts 43 = .ok (.return_, 1) := by decide +kernel
theorem dX11_tellLine_0 : decode cX11_tellLine 0 = .ok (.aload_n 0, 1) := by decide +kernel
theorem dX11_tellLine_1 : decode cX11_tellLine 1 = .ok (.getfield 18, 3) := by decide +kernel
theorem dX11_tellLine_4 : decode cX11_tellLine 4 = .ok (.iload_n 1, 1) := by decide +kernel
theorem dX11_tellLine_5 : decode cX11_tellLine 5 = .ok (.invokevirtual 317, 3) := by decide +kernel
theorem dX11_tellLine_8 : decode cX11_tellLine 8 = .ok (.aload_n 0, 1) := by decide +kernel
theorem dX11_tellLine_9 : decode cX11_tellLine 9 = .ok (.getfield 18, 3) := by decide +kernel
theorem dX11_tellLine_12 : decode cX11_tellLine 12 = .ok (.bipush 45, 2) := by decide +kernel
theorem dX11_tellLine_14 : decode cX11_tellLine 14 = .ok (.invokevirtual 320, 3) := by decide +kernel
theorem dX11_tellLine_17 : decode cX11_tellLine 17 = .ok (.aload_n 0, 1) := by decide +kernel
theorem dX11_tellLine_18 : decode cX11_tellLine 18 = .ok (.getfield 18, 3) := by decide +kernel
theorem dX11_tellLine_21 : decode cX11_tellLine 21 = .ok (.iload_n 2, 1) := by decide +kernel
theorem dX11_tellLine_22 : decode cX11_tellLine 22 = .ok (.invokevirtual 317, 3) := by decide +kernel
theorem dX11_tellLine_25 : decode cX11_tellLine 25 = .ok (.iload_n 3, 1) := by decide +kernel
theorem dX11_tellLine_26 : decode cX11_tellLine 26 = .ok (.iconst 1, 1) := by decide +kernel
theorem dX11_tellLine_27 : decode cX11_tellLine 27 = .ok (.if_icmp .eq 20, 3) := by decide +kernel
theorem dX11_tellLine_30 : decode cX11_tellLine 30 = .ok (.aload_n 0, 1) := by decide +kernel
theorem dX11_tellLine_31 : decode cX11_tellLine 31 = .ok (.getfield 18, 3) := by decide +kernel
theorem dX11_tellLine_34 : decode cX11_tellLine 34 = .ok (.bipush 61, 2) := by decide +kernel
theorem dX11_tellLine_36 : decode cX11_tellLine 36 = .ok (.invokevirtual 320, 3) := by decide +kernel
theorem dX11_tellLine_39 : decode cX11_tellLine 39 = .ok (.aload_n 0, 1) := by decide +kernel
theorem dX11_tellLine_40 : decode cX11_tellLine 40 = .ok (.getfield 18, 3) := by decide +kernel
theorem dX11_tellLine_43 : decode cX11_tellLine 43 = .ok (.iload_n 3, 1) := by decide +kernel
theorem dX11_tellLine_44 : decode cX11_tellLine 44 = .ok (.invokevirtual 317, 3) := by decide +kernel
theorem dX11_tellLine_47 : decode cX11_tellLine 47 = .ok (.return_, 1) := by decide +kernel
theorem dX11_tellNet_0 : decode cX11_tellNet 0 = .ok (.aload_n 0, 1) := by decide +kernel
theorem dX11_tellNet_1 : decode cX11_tellNet 1 = .ok (.getfield 18, 3) := by decide +kernel
theorem dX11_tellNet_4 : decode cX11_tellNet 4 = .ok (.ldc_w 311, 3) := by decide +kernel
theorem dX11_tellNet_7 : decode cX11_tellNet 7 = .ok (.invokevirtual 313, 3) := by decide +kernel
theorem dX11_tellNet_10 : decode cX11_tellNet 10 = .ok (.aload_n 0, 1) := by decide +kernel
theorem dX11_tellNet_11 : decode cX11_tellNet 11 = .ok (.getfield 18, 3) := by decide +kernel
theorem dX11_tellNet_14 : decode cX11_tellNet 14 = .ok (.aload_n 1, 1) := by decide +kernel
theorem dX11_tellNet_15 : decode cX11_tellNet 15 = .ok (.getfield 120, 3) := by decide +kernel
theorem dX11_tellNet_18 : decode cX11_tellNet 18 = .ok (.invokevirtual 317, 3) := by decide +kernel
theorem dX11_tellNet_21 : decode cX11_tellNet 21 = .ok (.bipush 58, 2) := by decide +kernel
theorem dX11_tellNet_23 : decode cX11_tellNet 23 = .ok (.istore_n 2, 1) := by decide +kernel
theorem dX11_tellNet_24 : decode cX11_tellNet 24 = .ok (.iconst 0, 1) := by decide +kernel
theorem dX11_tellNet_25 : decode cX11_tellNet 25 = .ok (.istore_n 3, 1) := by decide +kernel
theorem dX11_tellNet_26 : decode cX11_tellNet 26 = .ok (.iload_n 3, 1) := by decide +kernel
theorem dX11_tellNet_27 : decode cX11_tellNet 27 = .ok (.aload_n 1, 1) := by decide +kernel
theorem dX11_tellNet_28 : decode cX11_tellNet 28 = .ok (.getfield 120, 3) := by decide +kernel
theorem dX11_tellNet_31 : decode cX11_tellNet 31 = .ok (.if_icmp .ge 63, 3) := by decide +kernel
theorem dX11_tellNet_34 : decode cX11_tellNet 34 = .ok (.iload_n 3, 1) := by decide +kernel
theorem dX11_tellNet_35 : decode cX11_tellNet 35 = .ok (.iconst 1, 1) := by decide +kernel
theorem dX11_tellNet_36 : decode cX11_tellNet 36 = .ok (.iadd, 1) := by decide +kernel
theorem dX11_tellNet_37 : decode cX11_tellNet 37 = .ok (.istore 4, 2) := by decide +kernel
theorem dX11_tellNet_39 : decode cX11_tellNet 39 = .ok (.iload 4, 2) := by decide +kernel
theorem dX11_tellNet_41 : decode cX11_tellNet 41 = .ok (.aload_n 1, 1) := by decide +kernel
theorem dX11_tellNet_42 : decode cX11_tellNet 42 = .ok (.getfield 120, 3) := by decide +kernel
theorem dX11_tellNet_45 : decode cX11_tellNet 45 = .ok (.if_icmp .ge 43, 3) := by decide +kernel
theorem dX11_tellNet_48 : decode cX11_tellNet 48 = .ok (.aload_n 1, 1) := by decide +kernel
theorem dX11_tellNet_49 : decode cX11_tellNet 49 = .ok (.iload_n 3, 1) := by decide +kernel
theorem dX11_tellNet_50 : decode cX11_tellNet 50 = .ok (.iload 4, 2) := by decide +kernel
theorem dX11_tellNet_52 : decode cX11_tellNet 52 = .ok (.invokevirtual 148, 3) := by decide +kernel
theorem dX11_tellNet_55 : decode cX11_tellNet 55 = .ok (.istore 5, 2) := by decide +kernel
theorem dX11_tellNet_57 : decode cX11_tellNet 57 = .ok (.iload 5, 2) := by decide +kernel
theorem dX11_tellNet_59 : decode cX11_tellNet 59 = .ok (.ifCond .le 23, 3) := by decide +kernel
theorem dX11_tellNet_62 : decode cX11_tellNet 62 = .ok (.aload_n 0, 1) := by decide +kernel
theorem dX11_tellNet_63 : decode cX11_tellNet 63 = .ok (.getfield 18, 3) := by decide +kernel
theorem dX11_tellNet_66 : decode cX11_tellNet 66 = .ok (.iload_n 2, 1) := by decide +kernel
theorem dX11_tellNet_67 : decode cX11_tellNet 67 = .ok (.invokevirtual 320, 3) := by decide +kernel
theorem dX11_tellNet_70 : decode cX11_tellNet 70 = .ok (.aload_n 0, 1) := by decide +kernel
theorem dX11_tellNet_71 : decode cX11_tellNet 71 = .ok (.iload_n 3, 1) := by decide +kernel
theorem dX11_tellNet_72 : decode cX11_tellNet 72 = .ok (.iload 4, 2) := by decide +kernel
theorem dX11_tellNet_74 : decode cX11_tellNet 74 = .ok (.iload 5, 2) := by decide +kernel
theorem dX11_tellNet_76 : decode cX11_tellNet 76 = .ok (.invokevirtual 323, 3) := by decide +kernel
theorem dX11_tellNet_79 : decode cX11_tellNet 79 = .ok (.bipush 44, 2) := by decide +kernel
theorem dX11_tellNet_81 : decode cX11_tellNet 81 = .ok (.istore_n 2, 1) := by decide +kernel
theorem dX11_tellNet_82 : decode cX11_tellNet 82 = .ok (.iinc 4 1, 3) := by decide +kernel
theorem dX11_tellNet_85 : decode cX11_tellNet 85 = .ok (.goto (-46), 3) := by decide +kernel
theorem dX11_tellNet_88 : decode cX11_tellNet 88 = .ok (.iinc 3 1, 3) := by decide +kernel
theorem dX11_tellNet_91 : decode cX11_tellNet 91 = .ok (.goto (-65), 3) := by decide +kernel
theorem dX11_tellNet_94 : decode cX11_tellNet 94 = .ok (.aload_n 0, 1) := by decide +kernel
theorem dX11_tellNet_95 : decode cX11_tellNet 95 = .ok (.getfield 18, 3) := by decide +kernel
theorem dX11_tellNet_98 : decode cX11_tellNet 98 = .ok (.bipush 59, 2) := by decide +kernel
theorem dX11_tellNet_100 : decode cX11_tellNet 100 = .ok (.invokevirtual 320, 3) := by decide +kernel
theorem dX11_tellNet_103 : decode cX11_tellNet 103 = .ok (.return_, 1) := by decide +kernel
theorem dX11_tellRow_0 : decode cX11_tellRow 0 = .ok (.aload_n 0, 1) := by decide +kernel
theorem dX11_tellRow_1 : decode cX11_tellRow 1 = .ok (.getfield 18, 3) := by decide +kernel
theorem dX11_tellRow_4 : decode cX11_tellRow 4 = .ok (.ldc_w 326, 3) := by decide +kernel
theorem dX11_tellRow_7 : decode cX11_tellRow 7 = .ok (.invokevirtual 313, 3) := by decide +kernel
theorem dX11_tellRow_10 : decode cX11_tellRow 10 = .ok (.iconst 0, 1) := by decide +kernel
theorem dX11_tellRow_11 : decode cX11_tellRow 11 = .ok (.istore_n 2, 1) := by decide +kernel
theorem dX11_tellRow_12 : decode cX11_tellRow 12 = .ok (.iload_n 2, 1) := by decide +kernel
theorem dX11_tellRow_13 : decode cX11_tellRow 13 = .ok (.aload_n 1, 1) := by decide +kernel
theorem dX11_tellRow_14 : decode cX11_tellRow 14 = .ok (.getfield 120, 3) := by decide +kernel
theorem dX11_tellRow_17 : decode cX11_tellRow 17 = .ok (.if_icmp .ge 22, 3) := by decide +kernel
theorem dX11_tellRow_20 : decode cX11_tellRow 20 = .ok (.aload_n 0, 1) := by decide +kernel
theorem dX11_tellRow_21 : decode cX11_tellRow 21 = .ok (.getfield 18, 3) := by decide +kernel
theorem dX11_tellRow_24 : decode cX11_tellRow 24 = .ok (.aload_n 1, 1) := by decide +kernel
theorem dX11_tellRow_25 : decode cX11_tellRow 25 = .ok (.getfield 156, 3) := by decide +kernel
theorem dX11_tellRow_28 : decode cX11_tellRow 28 = .ok (.iload_n 2, 1) := by decide +kernel
theorem dX11_tellRow_29 : decode cX11_tellRow 29 = .ok (.iaload, 1) := by decide +kernel
theorem dX11_tellRow_30 : decode cX11_tellRow 30 = .ok (.invokevirtual 317, 3) := by decide +kernel
theorem dX11_tellRow_33 : decode cX11_tellRow 33 = .ok (.iinc 2 1, 3) := by decide +kernel
theorem dX11_tellRow_36 : decode cX11_tellRow 36 = .ok (.goto (-24), 3) := by decide +kernel
theorem dX11_tellRow_39 : decode cX11_tellRow 39 = .ok (.aload_n 0, 1) := by decide +kernel
theorem dX11_tellRow_40 : decode cX11_tellRow 40 = .ok (.getfield 18, 3) := by decide +kernel
theorem dX11_tellRow_43 : decode cX11_tellRow 43 = .ok (.bipush 59, 2) := by decide +kernel
theorem dX11_tellRow_45 : decode cX11_tellRow 45 = .ok (.invokevirtual 320, 3) := by decide +kernel
theorem dX11_tellRow_48 : decode cX11_tellRow 48 = .ok (.return_, 1) := by decide +kernel
theorem dX11_told_0 : decode cX11_told 0 = .ok (.iload_n 1, 1) := by decide +kernel
theorem dX11_told_1 : decode cX11_told 1 = .ok (.invokestatic 83, 3) := by decide +kernel
theorem dX11_told_4 : decode cX11_told 4 = .ok (.ifCond .ne 6, 3) := by decide +kernel
theorem dX11_told_7 : decode cX11_told 7 = .ok (.bipush (-2), 2) := by decide +kernel
theorem dX11_told_9 : decode cX11_told 9 = .ok (.ireturn, 1) := by decide +kernel
theorem dX11_told_10 : decode cX11_told 10 = .ok (.aload_n 0, 1) := by decide +kernel
theorem dX11_told_11 : decode cX11_told 11 = .ok (.getfield 26, 3) := by decide +kernel
theorem dX11_told_14 : decode cX11_told 14 = .ok (.invokevirtual 86, 3) := by decide +kernel
theorem dX11_told_17 : decode cX11_told 17 = .ok (.istore_n 2, 1) := by decide +kernel
theorem dX11_told_18 : decode cX11_told 18 = .ok (.aload_n 0, 1) := by decide +kernel
theorem dX11_told_19 : decode cX11_told 19 = .ok (.getfield 14, 3) := by decide +kernel
theorem dX11_told_22 : decode cX11_told 22 = .ok (.iconst 0, 1) := by decide +kernel
theorem dX11_told_23 : decode cX11_told 23 = .ok (.putfield 79, 3) := by decide +kernel
theorem dX11_told_26 : decode cX11_told 26 = .ok (.iload_n 2, 1) := by decide +kernel
theorem dX11_told_27 : decode cX11_told 27 = .ok (.ifCond .ne 6, 3) := by decide +kernel
theorem dX11_told_30 : decode cX11_told 30 = .ok (.bipush (-4), 2) := by decide +kernel
theorem dX11_told_32 : decode cX11_told 32 = .ok (.ireturn, 1) := by decide +kernel
theorem dX11_told_33 : decode cX11_told 33 = .ok (.aload_n 0, 1) := by decide +kernel
theorem dX11_told_34 : decode cX11_told 34 = .ok (.getfield 32, 3) := by decide +kernel
theorem dX11_told_37 : decode cX11_told 37 = .ok (.iload_n 1, 1) := by decide +kernel
theorem dX11_told_38 : decode cX11_told 38 = .ok (.aaload, 1) := by decide +kernel
theorem dX11_told_39 : decode cX11_told 39 = .ok (.astore_n 3, 1) := by decide +kernel
theorem dX11_told_40 : decode cX11_told 40 = .ok (.aload_n 0, 1) := by decide +kernel
theorem dX11_told_41 : decode cX11_told 41 = .ok (.getfield 65, 3) := by decide +kernel
theorem dX11_told_44 : decode cX11_told 44 = .ok (.aload_n 3, 1) := by decide +kernel
theorem dX11_told_45 : decode cX11_told 45 = .ok (.invokevirtual 90, 3) := by decide +kernel
theorem dX11_told_48 : decode cX11_told 48 = .ok (.aload_n 3, 1) := by decide +kernel
theorem dX11_told_49 : decode cX11_told 49 = .ok (.aload_n 0, 1) := by decide +kernel
theorem dX11_told_50 : decode cX11_told 50 = .ok (.getfield 26, 3) := by decide +kernel
theorem dX11_told_53 : decode cX11_told 53 = .ok (.getfield 94, 3) := by decide +kernel
theorem dX11_told_56 : decode cX11_told 56 = .ok (.invokevirtual 90, 3) := by decide +kernel
theorem dX11_told_59 : decode cX11_told 59 = .ok (.aload_n 0, 1) := by decide +kernel
theorem dX11_told_60 : decode cX11_told 60 = .ok (.iload_n 1, 1) := by decide +kernel
theorem dX11_told_61 : decode cX11_told 61 = .ok (.invokevirtual 97, 3) := by decide +kernel
theorem dX11_told_64 : decode cX11_told 64 = .ok (.aload_n 3, 1) := by decide +kernel
theorem dX11_told_65 : decode cX11_told 65 = .ok (.getfield 100, 3) := by decide +kernel
theorem dX11_told_68 : decode cX11_told 68 = .ok (.ireturn, 1) := by decide +kernel
theorem dX11_undo_0 : decode cX11_undo 0 = .ok (.aload_n 0, 1) := by decide +kernel
theorem dX11_undo_1 : decode cX11_undo 1 = .ok (.getfield 61, 3) := by decide +kernel
theorem dX11_undo_4 : decode cX11_undo 4 = .ok (.getfield 113, 3) := by decide +kernel
theorem dX11_undo_7 : decode cX11_undo 7 = .ok (.ifCond .ne 5, 3) := by decide +kernel
theorem dX11_undo_10 : decode cX11_undo 10 = .ok (.iconst (-1), 1) := by decide +kernel
theorem dX11_undo_11 : decode cX11_undo 11 = .ok (.ireturn, 1) := by decide +kernel
theorem dX11_undo_12 : decode cX11_undo 12 = .ok (.aload_n 0, 1) := by decide +kernel
theorem dX11_undo_13 : decode cX11_undo 13 = .ok (.getfield 61, 3) := by decide +kernel
theorem dX11_undo_16 : decode cX11_undo 16 = .ok (.aload_n 0, 1) := by decide +kernel
theorem dX11_undo_17 : decode cX11_undo 17 = .ok (.getfield 32, 3) := by decide +kernel
theorem dX11_undo_20 : decode cX11_undo 20 = .ok (.invokevirtual 295, 3) := by decide +kernel
theorem dX11_undo_23 : decode cX11_undo 23 = .ok (.aload_n 0, 1) := by decide +kernel
theorem dX11_undo_24 : decode cX11_undo 24 = .ok (.getfield 61, 3) := by decide +kernel
theorem dX11_undo_27 : decode cX11_undo 27 = .ok (.getfield 113, 3) := by decide +kernel
theorem dX11_undo_30 : decode cX11_undo 30 = .ok (.ireturn, 1) := by decide +kernel
theorem dX11_value_0 : decode cX11_value 0 = .ok (.aload_n 0, 1) := by decide +kernel
theorem dX11_value_1 : decode cX11_value 1 = .ok (.iload_n 1, 1) := by decide +kernel
theorem dX11_value_2 : decode cX11_value 2 = .ok (.invokevirtual 116, 3) := by decide +kernel
theorem dX11_value_5 : decode cX11_value 5 = .ok (.astore_n 3, 1) := by decide +kernel
theorem dX11_value_6 : decode cX11_value 6 = .ok (.aload_n 3, 1) := by decide +kernel
theorem dX11_value_7 : decode cX11_value 7 = .ok (.ifnull 10, 3) := by decide +kernel
theorem dX11_value_10 : decode cX11_value 10 = .ok (.iload_n 2, 1) := by decide +kernel
theorem dX11_value_11 : decode cX11_value 11 = .ok (.invokestatic 163, 3) := by decide +kernel
theorem dX11_value_14 : decode cX11_value 14 = .ok (.ifCond .ne 8, 3) := by decide +kernel
theorem dX11_value_17 : decode cX11_value 17 = .ok (.bipush (-2), 2) := by decide +kernel
theorem dX11_value_19 : decode cX11_value 19 = .ok (.goto 8, 3) := by decide +kernel
theorem dX11_value_22 : decode cX11_value 22 = .ok (.aload_n 3, 1) := by decide +kernel
theorem dX11_value_23 : decode cX11_value 23 = .ok (.iload_n 2, 1) := by decide +kernel
theorem dX11_value_24 : decode cX11_value 24 = .ok (.invokestatic 166, 3) := by decide +kernel
theorem dX11_value_27 : decode cX11_value 27 = .ok (.ireturn, 1) := by decide +kernel
theorem dX11_ways_0 : decode cX11_ways 0 = .ok (.aload_n 0, 1) := by decide +kernel
theorem dX11_ways_1 : decode cX11_ways 1 = .ok (.iload_n 1, 1) := by decide +kernel
theorem dX11_ways_2 : decode cX11_ways 2 = .ok (.iload_n 2, 1) := by decide +kernel
theorem dX11_ways_3 : decode cX11_ways 3 = .ok (.invokevirtual 189, 3) := by decide +kernel
theorem dX11_ways_6 : decode cX11_ways 6 = .ok (.astore_n 3, 1) := by decide +kernel
theorem dX11_ways_7 : decode cX11_ways 7 = .ok (.aload_n 3, 1) := by decide +kernel
theorem dX11_ways_8 : decode cX11_ways 8 = .ok (.ifnonnull 8, 3) := by decide +kernel
theorem dX11_ways_11 : decode cX11_ways 11 = .ok (.bipush (-2), 2) := by decide +kernel
theorem dX11_ways_13 : decode cX11_ways 13 = .ok (.goto 7, 3) := by decide +kernel
theorem dX11_ways_16 : decode cX11_ways 16 = .ok (.aload_n 3, 1) := by decide +kernel
theorem dX11_ways_17 : decode cX11_ways 17 = .ok (.getfield 201, 3) := by decide +kernel
theorem dX11_ways_20 : decode cX11_ways 20 = .ok (.ireturn, 1) := by decide +kernel
theorem dX11_within_0 : decode cX11_within 0 = .ok (.aload_n 0, 1) := by decide +kernel
theorem dX11_within_1 : decode cX11_within 1 = .ok (.iload_n 1, 1) := by decide +kernel
theorem dX11_within_2 : decode cX11_within 2 = .ok (.invokevirtual 116, 3) := by decide +kernel
theorem dX11_within_5 : decode cX11_within 5 = .ok (.astore 4, 2) := by decide +kernel
theorem dX11_within_7 : decode cX11_within 7 = .ok (.aload 4, 2) := by decide +kernel
theorem dX11_within_9 : decode cX11_within 9 = .ok (.ifnull 14, 3) := by decide +kernel
theorem dX11_within_12 : decode cX11_within 12 = .ok (.iload_n 2, 1) := by decide +kernel
theorem dX11_within_13 : decode cX11_within 13 = .ok (.invokestatic 204, 3) := by decide +kernel
theorem dX11_within_16 : decode cX11_within 16 = .ok (.ifCond .eq 7, 3) := by decide +kernel
theorem dX11_within_19 : decode cX11_within 19 = .ok (.iload_n 3, 1) := by decide +kernel
theorem dX11_within_20 : decode cX11_within 20 = .ok (.ifCond .ge 6, 3) := by decide +kernel
theorem dX11_within_23 : decode cX11_within 23 = .ok (.bipush (-2), 2) := by decide +kernel
theorem dX11_within_25 : decode cX11_within 25 = .ok (.ireturn, 1) := by decide +kernel
theorem dX11_within_26 : decode cX11_within 26 = .ok (.iload_n 2, 1) := by decide +kernel
theorem dX11_within_27 : decode cX11_within 27 = .ok (.iconst 2, 1) := by decide +kernel
theorem dX11_within_28 : decode cX11_within 28 = .ok (.if_icmp .ne 16, 3) := by decide +kernel
theorem dX11_within_31 : decode cX11_within 31 = .ok (.aload_n 0, 1) := by decide +kernel
theorem dX11_within_32 : decode cX11_within 32 = .ok (.getfield 54, 3) := by decide +kernel
theorem dX11_within_35 : decode cX11_within 35 = .ok (.aload 4, 2) := by decide +kernel
theorem dX11_within_37 : decode cX11_within 37 = .ok (.iload_n 3, 1) := by decide +kernel
theorem dX11_within_38 : decode cX11_within 38 = .ok (.invokevirtual 207, 3) := by decide +kernel
theorem dX11_within_41 : decode cX11_within 41 = .ok (.goto 14, 3) := by decide +kernel
theorem dX11_within_44 : decode cX11_within 44 = .ok (.aload_n 0, 1) := by decide +kernel
theorem dX11_within_45 : decode cX11_within 45 = .ok (.getfield 47, 3) := by decide +kernel
theorem dX11_within_48 : decode cX11_within 48 = .ok (.aload 4, 2) := by decide +kernel
theorem dX11_within_50 : decode cX11_within 50 = .ok (.iload_n 2, 1) := by decide +kernel
theorem dX11_within_51 : decode cX11_within 51 = .ok (.iload_n 3, 1) := by decide +kernel
theorem dX11_within_52 : decode cX11_within 52 = .ok (.invokevirtual 210, 3) := by decide +kernel
theorem dX11_within_55 : decode cX11_within 55 = .ok (.ireturn, 1) := by decide +kernel
theorem dX11_worst_0 : decode cX11_worst 0 = .ok (.aload_n 0, 1) := by decide +kernel
theorem dX11_worst_1 : decode cX11_worst 1 = .ok (.iload_n 1, 1) := by decide +kernel
theorem dX11_worst_2 : decode cX11_worst 2 = .ok (.invokevirtual 116, 3) := by decide +kernel
theorem dX11_worst_5 : decode cX11_worst 5 = .ok (.astore_n 3, 1) := by decide +kernel
theorem dX11_worst_6 : decode cX11_worst 6 = .ok (.aload_n 3, 1) := by decide +kernel
theorem dX11_worst_7 : decode cX11_worst 7 = .ok (.ifnull 10, 3) := by decide +kernel
theorem dX11_worst_10 : decode cX11_worst 10 = .ok (.iload_n 2, 1) := by decide +kernel
theorem dX11_worst_11 : decode cX11_worst 11 = .ok (.invokestatic 172, 3) := by decide +kernel
theorem dX11_worst_14 : decode cX11_worst 14 = .ok (.ifCond .ne 6, 3) := by decide +kernel
theorem dX11_worst_17 : decode cX11_worst 17 = .ok (.bipush (-2), 2) := by decide +kernel
theorem dX11_worst_19 : decode cX11_worst 19 = .ok (.ireturn, 1) := by decide +kernel
theorem dX11_worst_20 : decode cX11_worst 20 = .ok (.aload_n 3, 1) := by decide +kernel
theorem dX11_worst_21 : decode cX11_worst 21 = .ok (.iload_n 2, 1) := by decide +kernel
theorem dX11_worst_22 : decode cX11_worst 22 = .ok (.invokestatic 175, 3) := by decide +kernel
theorem dX11_worst_25 : decode cX11_worst 25 = .ok (.invokevirtual 141, 3) := by decide +kernel
theorem dX11_worst_28 : decode cX11_worst 28 = .ok (.ifCond .eq 11, 3) := by decide +kernel
theorem dX11_worst_31 : decode cX11_worst 31 = .ok (.aload_n 3, 1) := by decide +kernel
theorem dX11_worst_32 : decode cX11_worst 32 = .ok (.iload_n 2, 1) := by decide +kernel
theorem dX11_worst_33 : decode cX11_worst 33 = .ok (.invokestatic 183, 3) := by decide +kernel
theorem dX11_worst_36 : decode cX11_worst 36 = .ok (.goto 5, 3) := by decide +kernel
theorem dX11_worst_39 : decode cX11_worst 39 = .ok (.bipush (-2), 2) := by decide +kernel
theorem dX11_worst_41 : decode cX11_worst 41 = .ok (.ireturn, 1) := by decide +kernel
theorem dX12_adds_0 : decode cX12_adds 0 = .ok (.aload_n 0, 1) := by decide +kernel
theorem dX12_adds_1 : decode cX12_adds 1 = .ok (.iload_n 1, 1) := by decide +kernel
theorem dX12_adds_2 : decode cX12_adds 2 = .ok (.iload_n 2, 1) := by decide +kernel
theorem dX12_adds_3 : decode cX12_adds 3 = .ok (.iload_n 3, 1) := by decide +kernel
theorem dX12_adds_4 : decode cX12_adds 4 = .ok (.invokevirtual 326, 3) := by decide +kernel
theorem dX12_adds_7 : decode cX12_adds 7 = .ok (.ifCond .eq 16, 3) := by decide +kernel
theorem dX12_adds_10 : decode cX12_adds 10 = .ok (.iload 4, 2) := by decide +kernel
theorem dX12_adds_12 : decode cX12_adds 12 = .ok (.i2l, 1) := by decide +kernel
theorem dX12_adds_13 : decode cX12_adds 13 = .ok (.lconst 1, 1) := by decide +kernel
theorem dX12_adds_14 : decode cX12_adds 14 = .ok (.ldc2_w 330, 3) := by decide +kernel
theorem dX12_adds_17 : decode cX12_adds 17 = .ok (.invokestatic 55, 3) := by decide +kernel
theorem dX12_adds_20 : decode cX12_adds 20 = .ok (.ifCond .ne 6, 3) := by decide +kernel
theorem dX12_adds_23 : decode cX12_adds 23 = .ok (.bipush (-2), 2) := by decide +kernel
theorem dX12_adds_25 : decode cX12_adds 25 = .ok (.ireturn, 1) := by decide +kernel
theorem dX12_adds_26 : decode cX12_adds 26 = .ok (.aload_n 0, 1) := by decide +kernel
theorem dX12_adds_27 : decode cX12_adds 27 = .ok (.iload_n 1, 1) := by decide +kernel
theorem dX12_adds_28 : decode cX12_adds 28 = .ok (.iload_n 2, 1) := by decide +kernel
theorem dX12_adds_29 : decode cX12_adds 29 = .ok (.iload_n 3, 1) := by decide +kernel
theorem dX12_adds_30 : decode cX12_adds 30 = .ok (.invokevirtual 76, 3) := by decide +kernel
theorem dX12_adds_33 : decode cX12_adds 33 = .ok (.istore 5, 2) := by decide +kernel
theorem dX12_adds_35 : decode cX12_adds 35 = .ok (.iload 5, 2) := by decide +kernel
theorem dX12_adds_37 : decode cX12_adds 37 = .ok (.ifCond .ne 16, 3) := by decide +kernel
theorem dX12_adds_40 : decode cX12_adds 40 = .ok (.aload_n 0, 1) := by decide +kernel
theorem dX12_adds_41 : decode cX12_adds 41 = .ok (.iload_n 1, 1) := by decide +kernel
theorem dX12_adds_42 : decode cX12_adds 42 = .ok (.invokevirtual 152, 3) := by decide +kernel
theorem dX12_adds_45 : decode cX12_adds 45 = .ok (.bipush 30, 2) := by decide +kernel
theorem dX12_adds_47 : decode cX12_adds 47 = .ok (.if_icmp .ne 6, 3) := by decide +kernel
theorem dX12_adds_50 : decode cX12_adds 50 = .ok (.bipush (-5), 2) := by decide +kernel
theorem dX12_adds_52 : decode cX12_adds 52 = .ok (.ireturn, 1) := by decide +kernel
theorem dX12_adds_53 : decode cX12_adds 53 = .ok (.aload_n 0, 1) := by decide +kernel
theorem dX12_adds_54 : decode cX12_adds 54 = .ok (.invokevirtual 93, 3) := by decide +kernel
theorem dX12_adds_57 : decode cX12_adds 57 = .ok (.aload_n 0, 1) := by decide +kernel
theorem dX12_adds_58 : decode cX12_adds 58 = .ok (.iload_n 1, 1) := by decide +kernel
theorem dX12_adds_59 : decode cX12_adds 59 = .ok (.iload_n 2, 1) := by decide +kernel
theorem dX12_adds_60 : decode cX12_adds 60 = .ok (.iload_n 3, 1) := by decide +kernel
theorem dX12_adds_61 : decode cX12_adds 61 = .ok (.iload 4, 2) := by decide +kernel
theorem dX12_adds_63 : decode cX12_adds 63 = .ok (.invokevirtual 162, 3) := by decide +kernel
theorem dX12_adds_66 : decode cX12_adds 66 = .ok (.aload_n 0, 1) := by decide +kernel
theorem dX12_adds_67 : decode cX12_adds 67 = .ok (.iload 5, 2) := by decide +kernel
theorem dX12_adds_69 : decode cX12_adds 69 = .ok (.invokevirtual 190, 3) := by decide +kernel
theorem dX12_adds_72 : decode cX12_adds 72 = .ok (.ireturn, 1) := by decide +kernel
theorem dX12_aheadOf_0 : decode cX12_aheadOf 0 = .ok (.iconst 0, 1) := by decide +kernel
theorem dX12_aheadOf_1 : decode cX12_aheadOf 1 = .ok (.istore_n 3, 1) := by decide +kernel
theorem dX12_aheadOf_2 : decode cX12_aheadOf 2 = .ok (.iconst 0, 1) := by decide +kernel
theorem dX12_aheadOf_3 : decode cX12_aheadOf 3 = .ok (.istore 4, 2) := by decide +kernel
theorem dX12_aheadOf_5 : decode cX12_aheadOf 5 = .ok (.iload 4, 2) := by decide +kernel
theorem dX12_aheadOf_7 : decode cX12_aheadOf 7 = .ok (.iload_n 2, 1) := by decide +kernel
theorem dX12_aheadOf_8 : decode cX12_aheadOf 8 = .ok (.if_icmp .ge 21, 3) := by decide +kernel
theorem dX12_aheadOf_11 : decode cX12_aheadOf 11 = .ok (.iload_n 3, 1) := by decide +kernel
theorem dX12_aheadOf_12 : decode cX12_aheadOf 12 = .ok (.iconst 1, 1) := by decide +kernel
theorem dX12_aheadOf_13 : decode cX12_aheadOf 13 = .ok (.aload_n 0, 1) := by decide +kernel
theorem dX12_aheadOf_14 : decode cX12_aheadOf 14 = .ok (.iload_n 1, 1) := by decide +kernel
theorem dX12_aheadOf_15 : decode cX12_aheadOf 15 = .ok (.iload 4, 2) := by decide +kernel
theorem dX12_aheadOf_17 : decode cX12_aheadOf 17 = .ok (.invokevirtual 217, 3) := by decide +kernel
theorem dX12_aheadOf_20 : decode cX12_aheadOf 20 = .ok (.ishl, 1) := by decide +kernel
theorem dX12_aheadOf_21 : decode cX12_aheadOf 21 = .ok (.ior, 1) := by decide +kernel
theorem dX12_aheadOf_22 : decode cX12_aheadOf 22 = .ok (.istore_n 3, 1) := by decide +kernel
theorem dX12_aheadOf_23 : decode cX12_aheadOf 23 = .ok (.iinc 4 1, 3) := by decide +kernel
theorem dX12_aheadOf_26 : decode cX12_aheadOf 26 = .ok (.goto (-21), 3) := by decide +kernel
theorem dX12_aheadOf_29 : decode cX12_aheadOf 29 = .ok (.iload_n 3, 1) := by decide +kernel
theorem dX12_aheadOf_30 : decode cX12_aheadOf 30 = .ok (.ireturn, 1) := by decide +kernel
theorem dX12_among_0 : decode cX12_among 0 = .ok (.aload_n 0, 1) := by decide +kernel
theorem dX12_among_1 : decode cX12_among 1 = .ok (.iload_n 1, 1) := by decide +kernel
theorem dX12_among_2 : decode cX12_among 2 = .ok (.invokevirtual 67, 3) := by decide +kernel
theorem dX12_among_5 : decode cX12_among 5 = .ok (.ifCond .eq 29, 3) := by decide +kernel
theorem dX12_among_8 : decode cX12_among 8 = .ok (.iload_n 2, 1) := by decide +kernel
theorem dX12_among_9 : decode cX12_among 9 = .ok (.invokestatic 245, 3) := by decide +kernel
theorem dX12_among_12 : decode cX12_among 12 = .ok (.ifCond .eq 22, 3) := by decide +kernel
theorem dX12_among_15 : decode cX12_among 15 = .ok (.iload_n 2, 1) := by decide +kernel
theorem dX12_among_16 : decode cX12_among 16 = .ok (.invokestatic 232, 3) := by decide +kernel
theorem dX12_among_19 : decode cX12_among 19 = .ok (.ifCond .eq 15, 3) := by decide +kernel
theorem dX12_among_22 : decode cX12_among 22 = .ok (.iload_n 3, 1) := by decide +kernel
theorem dX12_among_23 : decode cX12_among 23 = .ok (.invokestatic 245, 3) := by decide +kernel
theorem dX12_among_26 : decode cX12_among 26 = .ok (.ifCond .eq 8, 3) := by decide +kernel
theorem dX12_among_29 : decode cX12_among 29 = .ok (.iload_n 3, 1) := by decide +kernel
theorem dX12_among_30 : decode cX12_among 30 = .ok (.iconst 2, 1) := by decide +kernel
theorem dX12_among_31 : decode cX12_among 31 = .ok (.if_icmp .ne 6, 3) := by decide +kernel
theorem dX12_among_34 : decode cX12_among 34 = .ok (.bipush (-2), 2) := by decide +kernel
theorem dX12_among_36 : decode cX12_among 36 = .ok (.ireturn, 1) := by decide +kernel
theorem dX12_among_37 : decode cX12_among 37 = .ok (.aload_n 0, 1) := by decide +kernel
theorem dX12_among_38 : decode cX12_among 38 = .ok (.iload_n 1, 1) := by decide +kernel
theorem dX12_among_39 : decode cX12_among 39 = .ok (.iload_n 2, 1) := by decide +kernel
theorem dX12_among_40 : decode cX12_among 40 = .ok (.invokevirtual 280, 3) := by decide +kernel
theorem dX12_among_43 : decode cX12_among 43 = .ok (.aload_n 0, 1) := by decide +kernel
theorem dX12_among_44 : decode cX12_among 44 = .ok (.getfield 29, 3) := by decide +kernel
theorem dX12_among_47 : decode cX12_among 47 = .ok (.iconst 0, 1) := by decide +kernel
theorem dX12_among_48 : decode cX12_among 48 = .ok (.iaload, 1) := by decide +kernel
theorem dX12_among_49 : decode cX12_among 49 = .ok (.istore 4, 2) := by decide +kernel
theorem dX12_among_51 : decode cX12_among 51 = .ok (.iconst 0, 1) := by decide +kernel
theorem dX12_among_52 : decode cX12_among 52 = .ok (.istore 5, 2) := by decide +kernel
theorem dX12_among_54 : decode cX12_among 54 = .ok (.iload 5, 2) := by decide +kernel
theorem dX12_among_56 : decode cX12_among 56 = .ok (.aload_n 0, 1) := by decide +kernel
theorem dX12_among_57 : decode cX12_among 57 = .ok (.getfield 266, 3) := by decide +kernel
theorem dX12_among_60 : decode cX12_among 60 = .ok (.if_icmp .gt 73, 3) := by decide +kernel
theorem dX12_among_63 : decode cX12_among 63 = .ok (.iconst 0, 1) := by decide +kernel
theorem dX12_among_64 : decode cX12_among 64 = .ok (.istore 6, 2) := by decide +kernel
theorem dX12_among_66 : decode cX12_among 66 = .ok (.iload 6, 2) := by decide +kernel
theorem dX12_among_68 : decode cX12_among 68 = .ok (.aload_n 0, 1) := by decide +kernel
theorem dX12_among_69 : decode cX12_among 69 = .ok (.iload_n 1, 1) := by decide +kernel
theorem dX12_among_70 : decode cX12_among 70 = .ok (.invokevirtual 63, 3) := by decide +kernel
theorem dX12_among_73 : decode cX12_among 73 = .ok (.if_icmp .ge 54, 3) := by decide +kernel
theorem dX12_among_76 : decode cX12_among 76 = .ok (.bipush 9, 2) := by decide +kernel
theorem dX12_among_78 : decode cX12_among 78 = .ok (.iload 5, 2) := by decide +kernel
theorem dX12_among_80 : decode cX12_among 80 = .ok (.imul, 1) := by decide +kernel
theorem dX12_among_81 : decode cX12_among 81 = .ok (.iload 6, 2) := by decide +kernel
theorem dX12_among_83 : decode cX12_among 83 = .ok (.iadd, 1) := by decide +kernel
theorem dX12_among_84 : decode cX12_among 84 = .ok (.istore 7, 2) := by decide +kernel
theorem dX12_among_86 : decode cX12_among 86 = .ok (.aload_n 0, 1) := by decide +kernel
theorem dX12_among_87 : decode cX12_among 87 = .ok (.getfield 35, 3) := by decide +kernel
theorem dX12_among_90 : decode cX12_among 90 = .ok (.iload 7, 2) := by decide +kernel
theorem dX12_among_92 : decode cX12_among 92 = .ok (.aload_n 0, 1) := by decide +kernel
theorem dX12_among_93 : decode cX12_among 93 = .ok (.getfield 35, 3) := by decide +kernel
theorem dX12_among_96 : decode cX12_among 96 = .ok (.iload 7, 2) := by decide +kernel
theorem dX12_among_98 : decode cX12_among 98 = .ok (.iaload, 1) := by decide +kernel
theorem dX12_among_99 : decode cX12_among 99 = .ok (.iload 4, 2) := by decide +kernel
theorem dX12_among_101 : decode cX12_among 101 = .ok (.if_icmp .le 9, 3) := by decide +kernel
theorem dX12_among_104 : decode cX12_among 104 = .ok (.ldc_w 269, 3) := by decide +kernel
theorem dX12_among_107 : decode cX12_among 107 = .ok (.goto 13, 3) := by decide +kernel
theorem dX12_among_110 : decode cX12_among 110 = .ok (.aload_n 0, 1) := by decide +kernel
theorem dX12_among_111 : decode cX12_among 111 = .ok (.iload_n 1, 1) := by decide +kernel
theorem dX12_among_112 : decode cX12_among 112 = .ok (.iload_n 3, 1) := by decide +kernel
theorem dX12_among_113 : decode cX12_among 113 = .ok (.iload 5, 2) := by decide +kernel
theorem dX12_among_115 : decode cX12_among 115 = .ok (.iload 6, 2) := by decide +kernel
theorem dX12_among_117 : decode cX12_among 117 = .ok (.invokevirtual 238, 3) := by decide +kernel
theorem dX12_among_120 : decode cX12_among 120 = .ok (.iastore, 1) := by decide +kernel
theorem dX12_among_121 : decode cX12_among 121 = .ok (.iinc 6 1, 3) := by decide +kernel
theorem dX12_among_124 : decode cX12_among 124 = .ok (.goto (-58), 3) := by decide +kernel
theorem dX12_among_127 : decode cX12_among 127 = .ok (.iinc 5 1, 3) := by decide +kernel
theorem dX12_among_130 : decode cX12_among 130 = .ok (.goto (-76), 3) := by decide +kernel
theorem dX12_among_133 : decode cX12_among 133 = .ok (.aload_n 0, 1) := by decide +kernel
theorem dX12_among_134 : decode cX12_among 134 = .ok (.iload_n 1, 1) := by decide +kernel
theorem dX12_among_135 : decode cX12_among 135 = .ok (.iload_n 3, 1) := by decide +kernel
theorem dX12_among_136 : decode cX12_among 136 = .ok (.invokevirtual 274, 3) := by decide +kernel
theorem dX12_among_139 : decode cX12_among 139 = .ok (.aload_n 0, 1) := by decide +kernel
theorem dX12_among_140 : decode cX12_among 140 = .ok (.getfield 29, 3) := by decide +kernel
theorem dX12_among_143 : decode cX12_among 143 = .ok (.iconst 0, 1) := by decide +kernel
theorem dX12_among_144 : decode cX12_among 144 = .ok (.iaload, 1) := by decide +kernel
theorem dX12_among_145 : decode cX12_among 145 = .ok (.ireturn, 1) := by decide +kernel
theorem dX12_areTwo_0 : decode cX12_areTwo 0 = .ok (.aload_n 0, 1) := by decide +kernel
theorem dX12_areTwo_1 : decode cX12_areTwo 1 = .ok (.iload_n 1, 1) := by decide +kernel
theorem dX12_areTwo_2 : decode cX12_areTwo 2 = .ok (.iload_n 2, 1) := by decide +kernel
theorem dX12_areTwo_3 : decode cX12_areTwo 3 = .ok (.invokevirtual 70, 3) := by decide +kernel
theorem dX12_areTwo_6 : decode cX12_areTwo 6 = .ok (.ifCond .eq 21, 3) := by decide +kernel
theorem dX12_areTwo_9 : decode cX12_areTwo 9 = .ok (.aload_n 0, 1) := by decide +kernel
theorem dX12_areTwo_10 : decode cX12_areTwo 10 = .ok (.iload_n 1, 1) := by decide +kernel
theorem dX12_areTwo_11 : decode cX12_areTwo 11 = .ok (.iload_n 3, 1) := by decide +kernel
theorem dX12_areTwo_12 : decode cX12_areTwo 12 = .ok (.invokevirtual 70, 3) := by decide +kernel
theorem dX12_areTwo_15 : decode cX12_areTwo 15 = .ok (.ifCond .eq 12, 3) := by decide +kernel
theorem dX12_areTwo_18 : decode cX12_areTwo 18 = .ok (.iload_n 2, 1) := by decide +kernel
theorem dX12_areTwo_19 : decode cX12_areTwo 19 = .ok (.iload_n 3, 1) := by decide +kernel
theorem dX12_areTwo_20 : decode cX12_areTwo 20 = .ok (.if_icmp .eq 7, 3) := by decide +kernel
theorem dX12_areTwo_23 : decode cX12_areTwo 23 = .ok (.iconst 1, 1) := by decide +kernel
theorem dX12_areTwo_24 : decode cX12_areTwo 24 = .ok (.goto 4, 3) := by decide +kernel
theorem dX12_areTwo_27 : decode cX12_areTwo 27 = .ok (.iconst 0, 1) := by decide +kernel
theorem dX12_areTwo_28 : decode cX12_areTwo 28 = .ok (.ireturn, 1) := by decide +kernel
theorem dX12_at_0 : decode cX12_at 0 = .ok (.aload_n 0, 1) := by decide +kernel
theorem dX12_at_1 : decode cX12_at 1 = .ok (.getfield 7, 3) := by decide +kernel
theorem dX12_at_4 : decode cX12_at 4 = .ok (.bipush 91, 2) := by decide +kernel
theorem dX12_at_6 : decode cX12_at 6 = .ok (.iload_n 1, 1) := by decide +kernel
theorem dX12_at_7 : decode cX12_at 7 = .ok (.imul, 1) := by decide +kernel
theorem dX12_at_8 : decode cX12_at 8 = .ok (.bipush 82, 2) := by decide +kernel
theorem dX12_at_10 : decode cX12_at 10 = .ok (.iadd, 1) := by decide +kernel
theorem dX12_at_11 : decode cX12_at 11 = .ok (.iload_n 2, 1) := by decide +kernel
theorem dX12_at_12 : decode cX12_at 12 = .ok (.iadd, 1) := by decide +kernel
theorem dX12_at_13 : decode cX12_at 13 = .ok (.iaload, 1) := by decide +kernel
theorem dX12_at_14 : decode cX12_at 14 = .ok (.ireturn, 1) := by decide +kernel
theorem dX12_bag_0 : decode cX12_bag 0 = .ok (.aload_n 0, 1) := by decide +kernel
theorem dX12_bag_1 : decode cX12_bag 1 = .ok (.iload_n 1, 1) := by decide +kernel
theorem dX12_bag_2 : decode cX12_bag 2 = .ok (.iload_n 3, 1) := by decide +kernel
theorem dX12_bag_3 : decode cX12_bag 3 = .ok (.invokevirtual 70, 3) := by decide +kernel
theorem dX12_bag_6 : decode cX12_bag 6 = .ok (.ifCond .eq 13, 3) := by decide +kernel
theorem dX12_bag_9 : decode cX12_bag 9 = .ok (.iload_n 2, 1) := by decide +kernel
theorem dX12_bag_10 : decode cX12_bag 10 = .ok (.i2l, 1) := by decide +kernel
theorem dX12_bag_11 : decode cX12_bag 11 = .ok (.lconst 0, 1) := by decide +kernel
theorem dX12_bag_12 : decode cX12_bag 12 = .ok (.lconst 1, 1) := by decide +kernel
theorem dX12_bag_13 : decode cX12_bag 13 = .ok (.invokestatic 55, 3) := by decide +kernel
theorem dX12_bag_16 : decode cX12_bag 16 = .ok (.ifCond .ne 6, 3) := by decide +kernel
theorem dX12_bag_19 : decode cX12_bag 19 = .ok (.bipush (-2), 2) := by decide +kernel
theorem dX12_bag_21 : decode cX12_bag 21 = .ok (.ireturn, 1) := by decide +kernel
theorem dX12_bag_22 : decode cX12_bag 22 = .ok (.aload_n 0, 1) := by decide +kernel
theorem dX12_bag_23 : decode cX12_bag 23 = .ok (.iload_n 1, 1) := by decide +kernel
theorem dX12_bag_24 : decode cX12_bag 24 = .ok (.iload_n 3, 1) := by decide +kernel
theorem dX12_bag_25 : decode cX12_bag 25 = .ok (.invokevirtual 217, 3) := by decide +kernel
theorem dX12_bag_28 : decode cX12_bag 28 = .ok (.istore 4, 2) := by decide +kernel
theorem dX12_bag_30 : decode cX12_bag 30 = .ok (.aload_n 0, 1) := by decide +kernel
theorem dX12_bag_31 : decode cX12_bag 31 = .ok (.iload_n 1, 1) := by decide +kernel
theorem dX12_bag_32 : decode cX12_bag 32 = .ok (.iload_n 3, 1) := by decide +kernel
theorem dX12_bag_33 : decode cX12_bag 33 = .ok (.invokevirtual 257, 3) := by decide +kernel
theorem dX12_bag_36 : decode cX12_bag 36 = .ok (.istore 5, 2) := by decide +kernel
theorem dX12_bag_38 : decode cX12_bag 38 = .ok (.iload_n 2, 1) := by decide +kernel
theorem dX12_bag_39 : decode cX12_bag 39 = .ok (.iconst 1, 1) := by decide +kernel
theorem dX12_bag_40 : decode cX12_bag 40 = .ok (.if_icmp .ne 18, 3) := by decide +kernel
theorem dX12_bag_43 : decode cX12_bag 43 = .ok (.aload_n 0, 1) := by decide +kernel
theorem dX12_bag_44 : decode cX12_bag 44 = .ok (.iload_n 1, 1) := by decide +kernel
theorem dX12_bag_45 : decode cX12_bag 45 = .ok (.iload 5, 2) := by decide +kernel
theorem dX12_bag_47 : decode cX12_bag 47 = .ok (.iload 4, 2) := by decide +kernel
theorem dX12_bag_49 : decode cX12_bag 49 = .ok (.invokevirtual 223, 3) := by decide +kernel
theorem dX12_bag_52 : decode cX12_bag 52 = .ok (.iconst 1, 1) := by decide +kernel
theorem dX12_bag_53 : decode cX12_bag 53 = .ok (.iload 4, 2) := by decide +kernel
theorem dX12_bag_55 : decode cX12_bag 55 = .ok (.ishl, 1) := by decide +kernel
theorem dX12_bag_56 : decode cX12_bag 56 = .ok (.ior, 1) := by decide +kernel
theorem dX12_bag_57 : decode cX12_bag 57 = .ok (.ireturn, 1) := by decide +kernel
theorem dX12_bag_58 : decode cX12_bag 58 = .ok (.iconst 1, 1) := by decide +kernel
theorem dX12_bag_59 : decode cX12_bag 59 = .ok (.iload 4, 2) := by decide +kernel
theorem dX12_bag_61 : decode cX12_bag 61 = .ok (.ishl, 1) := by decide +kernel
theorem dX12_bag_62 : decode cX12_bag 62 = .ok (.istore 6, 2) := by decide +kernel
theorem dX12_bag_64 : decode cX12_bag 64 = .ok (.iconst 0, 1) := by decide +kernel
theorem dX12_bag_65 : decode cX12_bag 65 = .ok (.istore 7, 2) := by decide +kernel
theorem dX12_bag_67 : decode cX12_bag 67 = .ok (.iload 7, 2) := by decide +kernel
theorem dX12_bag_69 : decode cX12_bag 69 = .ok (.aload_n 0, 1) := by decide +kernel
theorem dX12_bag_70 : decode cX12_bag 70 = .ok (.iload_n 1, 1) := by decide +kernel
theorem dX12_bag_71 : decode cX12_bag 71 = .ok (.invokevirtual 63, 3) := by decide +kernel
theorem dX12_bag_74 : decode cX12_bag 74 = .ok (.if_icmp .ge 47, 3) := by decide +kernel
theorem dX12_bag_77 : decode cX12_bag 77 = .ok (.iload 6, 2) := by decide +kernel
theorem dX12_bag_79 : decode cX12_bag 79 = .ok (.iload 5, 2) := by decide +kernel
theorem dX12_bag_81 : decode cX12_bag 81 = .ok (.iload 7, 2) := by decide +kernel
theorem dX12_bag_83 : decode cX12_bag 83 = .ok (.invokestatic 166, 3) := by decide +kernel
theorem dX12_bag_86 : decode cX12_bag 86 = .ok (.ifCond .eq 25, 3) := by decide +kernel
theorem dX12_bag_89 : decode cX12_bag 89 = .ok (.aload_n 0, 1) := by decide +kernel
theorem dX12_bag_90 : decode cX12_bag 90 = .ok (.iload_n 1, 1) := by decide +kernel
theorem dX12_bag_91 : decode cX12_bag 91 = .ok (.iload 7, 2) := by decide +kernel
theorem dX12_bag_93 : decode cX12_bag 93 = .ok (.invokevirtual 80, 3) := by decide +kernel
theorem dX12_bag_96 : decode cX12_bag 96 = .ok (.iload 5, 2) := by decide +kernel
theorem dX12_bag_98 : decode cX12_bag 98 = .ok (.iconst (-1), 1) := by decide +kernel
theorem dX12_bag_99 : decode cX12_bag 99 = .ok (.ixor, 1) := by decide +kernel
theorem dX12_bag_100 : decode cX12_bag 100 = .ok (.iand, 1) := by decide +kernel
theorem dX12_bag_101 : decode cX12_bag 101 = .ok (.ifCond .eq 10, 3) := by decide +kernel
theorem dX12_bag_104 : decode cX12_bag 104 = .ok (.iconst 1, 1) := by decide +kernel
theorem dX12_bag_105 : decode cX12_bag 105 = .ok (.iload 7, 2) := by decide +kernel
theorem dX12_bag_107 : decode cX12_bag 107 = .ok (.ishl, 1) := by decide +kernel
theorem dX12_bag_108 : decode cX12_bag 108 = .ok (.goto 4, 3) := by decide +kernel
theorem dX12_bag_111 : decode cX12_bag 111 = .ok (.iconst 0, 1) := by decide +kernel
theorem dX12_bag_112 : decode cX12_bag 112 = .ok (.ior, 1) := by decide +kernel
theorem dX12_bag_113 : decode cX12_bag 113 = .ok (.istore 6, 2) := by decide +kernel
theorem dX12_bag_115 : decode cX12_bag 115 = .ok (.iinc 7 1, 3) := by decide +kernel
theorem dX12_bag_118 : decode cX12_bag 118 = .ok (.goto (-51), 3) := by decide +kernel
theorem dX12_bag_121 : decode cX12_bag 121 = .ok (.iload 6, 2) := by decide +kernel
theorem dX12_bag_123 : decode cX12_bag 123 = .ok (.ireturn, 1) := by decide +kernel
theorem dX12_balls_0 : decode cX12_balls 0 = .ok (.iconst 0, 1) := by decide +kernel
theorem dX12_balls_1 : decode cX12_balls 1 = .ok (.istore_n 2, 1) := by decide +kernel
theorem dX12_balls_2 : decode cX12_balls 2 = .ok (.iconst 0, 1) := by decide +kernel
theorem dX12_balls_3 : decode cX12_balls 3 = .ok (.istore_n 3, 1) := by decide +kernel
theorem dX12_balls_4 : decode cX12_balls 4 = .ok (.iload_n 3, 1) := by decide +kernel
theorem dX12_balls_5 : decode cX12_balls 5 = .ok (.aload_n 0, 1) := by decide +kernel
theorem dX12_balls_6 : decode cX12_balls 6 = .ok (.iload_n 1, 1) := by decide +kernel
theorem dX12_balls_7 : decode cX12_balls 7 = .ok (.invokevirtual 63, 3) := by decide +kernel
theorem dX12_balls_10 : decode cX12_balls 10 = .ok (.if_icmp .ge 104, 3) := by decide +kernel
theorem dX12_balls_13 : decode cX12_balls 13 = .ok (.iconst 1, 1) := by decide +kernel
theorem dX12_balls_14 : decode cX12_balls 14 = .ok (.istore 4, 2) := by decide +kernel
theorem dX12_balls_16 : decode cX12_balls 16 = .ok (.iload 4, 2) := by decide +kernel
theorem dX12_balls_18 : decode cX12_balls 18 = .ok (.aload_n 0, 1) := by decide +kernel
theorem dX12_balls_19 : decode cX12_balls 19 = .ok (.iload_n 1, 1) := by decide +kernel
theorem dX12_balls_20 : decode cX12_balls 20 = .ok (.invokevirtual 63, 3) := by decide +kernel
theorem dX12_balls_23 : decode cX12_balls 23 = .ok (.if_icmp .ge 85, 3) := by decide +kernel
theorem dX12_balls_26 : decode cX12_balls 26 = .ok (.iconst 0, 1) := by decide +kernel
theorem dX12_balls_27 : decode cX12_balls 27 = .ok (.istore 5, 2) := by decide +kernel
theorem dX12_balls_29 : decode cX12_balls 29 = .ok (.iconst 0, 1) := by decide +kernel
theorem dX12_balls_30 : decode cX12_balls 30 = .ok (.istore 6, 2) := by decide +kernel
theorem dX12_balls_32 : decode cX12_balls 32 = .ok (.iload 6, 2) := by decide +kernel
theorem dX12_balls_34 : decode cX12_balls 34 = .ok (.aload_n 0, 1) := by decide +kernel
theorem dX12_balls_35 : decode cX12_balls 35 = .ok (.iload_n 1, 1) := by decide +kernel
theorem dX12_balls_36 : decode cX12_balls 36 = .ok (.invokevirtual 63, 3) := by decide +kernel
theorem dX12_balls_39 : decode cX12_balls 39 = .ok (.if_icmp .ge 44, 3) := by decide +kernel
theorem dX12_balls_42 : decode cX12_balls 42 = .ok (.iload 5, 2) := by decide +kernel
theorem dX12_balls_44 : decode cX12_balls 44 = .ok (.iload 6, 2) := by decide +kernel
theorem dX12_balls_46 : decode cX12_balls 46 = .ok (.iload_n 3, 1) := by decide +kernel
theorem dX12_balls_47 : decode cX12_balls 47 = .ok (.if_icmp .eq 26, 3) := by decide +kernel
theorem dX12_balls_50 : decode cX12_balls 50 = .ok (.aload_n 0, 1) := by decide +kernel
theorem dX12_balls_51 : decode cX12_balls 51 = .ok (.iload_n 1, 1) := by decide +kernel
theorem dX12_balls_52 : decode cX12_balls 52 = .ok (.iload_n 3, 1) := by decide +kernel
theorem dX12_balls_53 : decode cX12_balls 53 = .ok (.iload 6, 2) := by decide +kernel
theorem dX12_balls_55 : decode cX12_balls 55 = .ok (.invokevirtual 196, 3) := by decide +kernel
theorem dX12_balls_58 : decode cX12_balls 58 = .ok (.i2l, 1) := by decide +kernel
theorem dX12_balls_59 : decode cX12_balls 59 = .ok (.lconst 1, 1) := by decide +kernel
theorem dX12_balls_60 : decode cX12_balls 60 = .ok (.iload 4, 2) := by decide +kernel
theorem dX12_balls_62 : decode cX12_balls 62 = .ok (.i2l, 1) := by decide +kernel
theorem dX12_balls_63 : decode cX12_balls 63 = .ok (.invokestatic 55, 3) := by decide +kernel
theorem dX12_balls_66 : decode cX12_balls 66 = .ok (.ifCond .eq 7, 3) := by decide +kernel
theorem dX12_balls_69 : decode cX12_balls 69 = .ok (.iconst 1, 1) := by decide +kernel
theorem dX12_balls_70 : decode cX12_balls 70 = .ok (.goto 4, 3) := by decide +kernel
theorem dX12_balls_73 : decode cX12_balls 73 = .ok (.iconst 0, 1) := by decide +kernel
theorem dX12_balls_74 : decode cX12_balls 74 = .ok (.iadd, 1) := by decide +kernel
theorem dX12_balls_75 : decode cX12_balls 75 = .ok (.istore 5, 2) := by decide +kernel
theorem dX12_balls_77 : decode cX12_balls 77 = .ok (.iinc 6 1, 3) := by decide +kernel
theorem dX12_balls_80 : decode cX12_balls 80 = .ok (.goto (-48), 3) := by decide +kernel
theorem dX12_balls_83 : decode cX12_balls 83 = .ok (.iload_n 2, 1) := by decide +kernel
theorem dX12_balls_84 : decode cX12_balls 84 = .ok (.iload 5, 2) := by decide +kernel
theorem dX12_balls_86 : decode cX12_balls 86 = .ok (.iconst 2, 1) := by decide +kernel
theorem dX12_balls_87 : decode cX12_balls 87 = .ok (.iload 4, 2) := by decide +kernel
theorem dX12_balls_89 : decode cX12_balls 89 = .ok (.imul, 1) := by decide +kernel
theorem dX12_balls_90 : decode cX12_balls 90 = .ok (.iadd, 1) := by decide +kernel
theorem dX12_balls_91 : decode cX12_balls 91 = .ok (.iconst 1, 1) := by decide +kernel
theorem dX12_balls_92 : decode cX12_balls 92 = .ok (.isub, 1) := by decide +kernel
theorem dX12_balls_93 : decode cX12_balls 93 = .ok (.iconst 2, 1) := by decide +kernel
theorem dX12_balls_94 : decode cX12_balls 94 = .ok (.iload 4, 2) := by decide +kernel
theorem dX12_balls_96 : decode cX12_balls 96 = .ok (.imul, 1) := by decide +kernel
theorem dX12_balls_97 : decode cX12_balls 97 = .ok (.idiv, 1) := by decide +kernel
theorem dX12_balls_98 : decode cX12_balls 98 = .ok (.invokestatic 199, 3) := by decide +kernel
theorem dX12_balls_101 : decode cX12_balls 101 = .ok (.istore_n 2, 1) := by decide +kernel
theorem dX12_balls_102 : decode cX12_balls 102 = .ok (.iinc 4 1, 3) := by decide +kernel
theorem dX12_balls_105 : decode cX12_balls 105 = .ok (.goto (-89), 3) := by decide +kernel
theorem dX12_balls_108 : decode cX12_balls 108 = .ok (.iinc 3 1, 3) := by decide +kernel
theorem dX12_balls_111 : decode cX12_balls 111 = .ok (.goto (-107), 3) := by decide +kernel
theorem dX12_balls_114 : decode cX12_balls 114 = .ok (.iload_n 2, 1) := by decide +kernel
theorem dX12_balls_115 : decode cX12_balls 115 = .ok (.ireturn, 1) := by decide +kernel
theorem dX12_bandOf_0 : decode cX12_bandOf 0 = .ok (.iconst 0, 1) := by decide +kernel
theorem dX12_bandOf_1 : decode cX12_bandOf 1 = .ok (.istore_n 2, 1) := by decide +kernel
theorem dX12_bandOf_2 : decode cX12_bandOf 2 = .ok (.iconst 0, 1) := by decide +kernel
theorem dX12_bandOf_3 : decode cX12_bandOf 3 = .ok (.istore_n 3, 1) := by decide +kernel
theorem dX12_bandOf_4 : decode cX12_bandOf 4 = .ok (.iload_n 3, 1) := by decide +kernel
theorem dX12_bandOf_5 : decode cX12_bandOf 5 = .ok (.aload_n 0, 1) := by decide +kernel
theorem dX12_bandOf_6 : decode cX12_bandOf 6 = .ok (.iload_n 1, 1) := by decide +kernel
theorem dX12_bandOf_7 : decode cX12_bandOf 7 = .ok (.invokevirtual 63, 3) := by decide +kernel
theorem dX12_bandOf_10 : decode cX12_bandOf 10 = .ok (.if_icmp .ge 58, 3) := by decide +kernel
theorem dX12_bandOf_13 : decode cX12_bandOf 13 = .ok (.iconst 0, 1) := by decide +kernel
theorem dX12_bandOf_14 : decode cX12_bandOf 14 = .ok (.istore 4, 2) := by decide +kernel
theorem dX12_bandOf_16 : decode cX12_bandOf 16 = .ok (.iload 4, 2) := by decide +kernel
theorem dX12_bandOf_18 : decode cX12_bandOf 18 = .ok (.iload_n 3, 1) := by decide +kernel
theorem dX12_bandOf_19 : decode cX12_bandOf 19 = .ok (.if_icmp .ge 43, 3) := by decide +kernel
theorem dX12_bandOf_22 : decode cX12_bandOf 22 = .ok (.aload_n 0, 1) := by decide +kernel
theorem dX12_bandOf_23 : decode cX12_bandOf 23 = .ok (.iload_n 1, 1) := by decide +kernel
theorem dX12_bandOf_24 : decode cX12_bandOf 24 = .ok (.aload_n 0, 1) := by decide +kernel
theorem dX12_bandOf_25 : decode cX12_bandOf 25 = .ok (.getfield 26, 3) := by decide +kernel
theorem dX12_bandOf_28 : decode cX12_bandOf 28 = .ok (.iload_n 3, 1) := by decide +kernel
theorem dX12_bandOf_29 : decode cX12_bandOf 29 = .ok (.iaload, 1) := by decide +kernel
theorem dX12_bandOf_30 : decode cX12_bandOf 30 = .ok (.aload_n 0, 1) := by decide +kernel
theorem dX12_bandOf_31 : decode cX12_bandOf 31 = .ok (.getfield 26, 3) := by decide +kernel
theorem dX12_bandOf_34 : decode cX12_bandOf 34 = .ok (.iload 4, 2) := by decide +kernel
theorem dX12_bandOf_36 : decode cX12_bandOf 36 = .ok (.iaload, 1) := by decide +kernel
theorem dX12_bandOf_37 : decode cX12_bandOf 37 = .ok (.invokevirtual 76, 3) := by decide +kernel
theorem dX12_bandOf_40 : decode cX12_bandOf 40 = .ok (.ifCond .le 14, 3) := by decide +kernel
theorem dX12_bandOf_43 : decode cX12_bandOf 43 = .ok (.iload_n 2, 1) := by decide +kernel
theorem dX12_bandOf_44 : decode cX12_bandOf 44 = .ok (.iload_n 3, 1) := by decide +kernel
theorem dX12_bandOf_45 : decode cX12_bandOf 45 = .ok (.iload 4, 2) := by decide +kernel
theorem dX12_bandOf_47 : decode cX12_bandOf 47 = .ok (.isub, 1) := by decide +kernel
theorem dX12_bandOf_48 : decode cX12_bandOf 48 = .ok (.invokestatic 199, 3) := by decide +kernel
theorem dX12_bandOf_51 : decode cX12_bandOf 51 = .ok (.goto 4, 3) := by decide +kernel
theorem dX12_bandOf_54 : decode cX12_bandOf 54 = .ok (.iload_n 2, 1) := by decide +kernel
theorem dX12_bandOf_55 : decode cX12_bandOf 55 = .ok (.istore_n 2, 1) := by decide +kernel
theorem dX12_bandOf_56 : decode cX12_bandOf 56 = .ok (.iinc 4 1, 3) := by decide +kernel
theorem dX12_bandOf_59 : decode cX12_bandOf 59 = .ok (.goto (-43), 3) := by decide +kernel
theorem dX12_bandOf_62 : decode cX12_bandOf 62 = .ok (.iinc 3 1, 3) := by decide +kernel
theorem dX12_bandOf_65 : decode cX12_bandOf 65 = .ok (.goto (-61), 3) := by decide +kernel
theorem dX12_bandOf_68 : decode cX12_bandOf 68 = .ok (.iload_n 2, 1) := by decide +kernel
theorem dX12_bandOf_69 : decode cX12_bandOf 69 = .ok (.ireturn, 1) := by decide +kernel
theorem dX12_best_0 : decode cX12_best 0 = .ok (.aload_n 0, 1) := by decide +kernel
theorem dX12_best_1 : decode cX12_best 1 = .ok (.iload_n 1, 1) := by decide +kernel
theorem dX12_best_2 : decode cX12_best 2 = .ok (.iload_n 3, 1) := by decide +kernel
theorem dX12_best_3 : decode cX12_best 3 = .ok (.invokevirtual 70, 3) := by decide +kernel
theorem dX12_best_6 : decode cX12_best 6 = .ok (.ifCond .eq 10, 3) := by decide +kernel
theorem dX12_best_9 : decode cX12_best 9 = .ok (.iload_n 2, 1) := by decide +kernel
theorem dX12_best_10 : decode cX12_best 10 = .ok (.invokestatic 245, 3) := by decide +kernel
theorem dX12_best_13 : decode cX12_best 13 = .ok (.ifCond .ne 6, 3) := by decide +kernel
theorem dX12_best_16 : decode cX12_best 16 = .ok (.bipush (-2), 2) := by decide +kernel
theorem dX12_best_18 : decode cX12_best 18 = .ok (.ireturn, 1) := by decide +kernel
theorem dX12_best_19 : decode cX12_best 19 = .ok (.aload_n 0, 1) := by decide +kernel
theorem dX12_best_20 : decode cX12_best 20 = .ok (.iload_n 1, 1) := by decide +kernel
theorem dX12_best_21 : decode cX12_best 21 = .ok (.iload_n 2, 1) := by decide +kernel
theorem dX12_best_22 : decode cX12_best 22 = .ok (.invokevirtual 301, 3) := by decide +kernel
theorem dX12_best_25 : decode cX12_best 25 = .ok (.aload_n 0, 1) := by decide +kernel
theorem dX12_best_26 : decode cX12_best 26 = .ok (.getfield 41, 3) := by decide +kernel
theorem dX12_best_29 : decode cX12_best 29 = .ok (.iload_n 3, 1) := by decide +kernel
theorem dX12_best_30 : decode cX12_best 30 = .ok (.iaload, 1) := by decide +kernel
theorem dX12_best_31 : decode cX12_best 31 = .ok (.ireturn, 1) := by decide +kernel
theorem dX12_both_0 : decode cX12_both 0 = .ok (.iload_n 0, 1) := by decide +kernel
theorem dX12_both_1 : decode cX12_both 1 = .ok (.invokestatic 232, 3) := by decide +kernel
theorem dX12_both_4 : decode cX12_both 4 = .ok (.ifCond .eq 11, 3) := by decide +kernel
theorem dX12_both_7 : decode cX12_both 7 = .ok (.iload_n 1, 1) := by decide +kernel
theorem dX12_both_8 : decode cX12_both 8 = .ok (.iload_n 2, 1) := by decide +kernel
theorem dX12_both_9 : decode cX12_both 9 = .ok (.invokestatic 199, 3) := by decide +kernel
theorem dX12_both_12 : decode cX12_both 12 = .ok (.goto 6, 3) := by decide +kernel
theorem dX12_both_15 : decode cX12_both 15 = .ok (.iload_n 1, 1) := by decide +kernel
theorem dX12_both_16 : decode cX12_both 16 = .ok (.iload_n 2, 1) := by decide +kernel
theorem dX12_both_17 : decode cX12_both 17 = .ok (.iadd, 1) := by decide +kernel
theorem dX12_both_18 : decode cX12_both 18 = .ok (.ireturn, 1) := by decide +kernel
theorem dX12_bound_0 : decode cX12_bound 0 = .ok (.aload_n 0, 1) := by decide +kernel
theorem dX12_bound_1 : decode cX12_bound 1 = .ok (.iload_n 1, 1) := by decide +kernel
theorem dX12_bound_2 : decode cX12_bound 2 = .ok (.invokevirtual 67, 3) := by decide +kernel
theorem dX12_bound_5 : decode cX12_bound 5 = .ok (.ifCond .eq 41, 3) := by decide +kernel
theorem dX12_bound_8 : decode cX12_bound 8 = .ok (.iload_n 2, 1) := by decide +kernel
theorem dX12_bound_9 : decode cX12_bound 9 = .ok (.invokestatic 245, 3) := by decide +kernel
theorem dX12_bound_12 : decode cX12_bound 12 = .ok (.ifCond .eq 34, 3) := by decide +kernel
theorem dX12_bound_15 : decode cX12_bound 15 = .ok (.iload_n 2, 1) := by decide +kernel
theorem dX12_bound_16 : decode cX12_bound 16 = .ok (.iconst 2, 1) := by decide +kernel
theorem dX12_bound_17 : decode cX12_bound 17 = .ok (.if_icmp .eq 10, 3) := by decide +kernel
theorem dX12_bound_20 : decode cX12_bound 20 = .ok (.iload_n 2, 1) := by decide +kernel
theorem dX12_bound_21 : decode cX12_bound 21 = .ok (.invokestatic 232, 3) := by decide +kernel
theorem dX12_bound_24 : decode cX12_bound 24 = .ok (.ifCond .eq 22, 3) := by decide +kernel
theorem dX12_bound_27 : decode cX12_bound 27 = .ok (.iload_n 3, 1) := by decide +kernel
theorem dX12_bound_28 : decode cX12_bound 28 = .ok (.i2l, 1) := by decide +kernel
theorem dX12_bound_29 : decode cX12_bound 29 = .ok (.lconst 0, 1) := by decide +kernel
theorem dX12_bound_30 : decode cX12_bound 30 = .ok (.iload_n 2, 1) := by decide +kernel
theorem dX12_bound_31 : decode cX12_bound 31 = .ok (.iconst 2, 1) := by decide +kernel
theorem dX12_bound_32 : decode cX12_bound 32 = .ok (.if_icmp .ne 7, 3) := by decide +kernel
theorem dX12_bound_35 : decode cX12_bound 35 = .ok (.lconst 1, 1) := by decide +kernel
theorem dX12_bound_36 : decode cX12_bound 36 = .ok (.goto 4, 3) := by decide +kernel
theorem dX12_bound_39 : decode cX12_bound 39 = .ok (.lconst 0, 1) := by decide +kernel
theorem dX12_bound_40 : decode cX12_bound 40 = .ok (.invokestatic 55, 3) := by decide +kernel
theorem dX12_bound_43 : decode cX12_bound 43 = .ok (.ifCond .ne 6, 3) := by decide +kernel
theorem dX12_bound_46 : decode cX12_bound 46 = .ok (.bipush (-2), 2) := by decide +kernel
theorem dX12_bound_48 : decode cX12_bound 48 = .ok (.ireturn, 1) := by decide +kernel
theorem dX12_bound_49 : decode cX12_bound 49 = .ok (.iload_n 3, 1) := by decide +kernel
theorem dX12_bound_50 : decode cX12_bound 50 = .ok (.iconst 1, 1) := by decide +kernel
theorem dX12_bound_51 : decode cX12_bound 51 = .ok (.if_icmp .ne 9, 3) := by decide +kernel
theorem dX12_bound_54 : decode cX12_bound 54 = .ok (.aload_n 0, 1) := by decide +kernel
theorem dX12_bound_55 : decode cX12_bound 55 = .ok (.iload_n 1, 1) := by decide +kernel
theorem dX12_bound_56 : decode cX12_bound 56 = .ok (.invokevirtual 311, 3) := by decide +kernel
theorem dX12_bound_59 : decode cX12_bound 59 = .ok (.ireturn, 1) := by decide +kernel
theorem dX12_bound_60 : decode cX12_bound 60 = .ok (.iconst 0, 1) := by decide +kernel
theorem dX12_bound_61 : decode cX12_bound 61 = .ok (.istore 4, 2) := by decide +kernel
theorem dX12_bound_63 : decode cX12_bound 63 = .ok (.iconst 0, 1) := by decide +kernel
theorem dX12_bound_64 : decode cX12_bound 64 = .ok (.istore 5, 2) := by decide +kernel
theorem dX12_bound_66 : decode cX12_bound 66 = .ok (.iload 5, 2) := by decide +kernel
theorem dX12_bound_68 : decode cX12_bound 68 = .ok (.aload_n 0, 1) := by decide +kernel
theorem dX12_bound_69 : decode cX12_bound 69 = .ok (.iload_n 1, 1) := by decide +kernel
theorem dX12_bound_70 : decode cX12_bound 70 = .ok (.invokevirtual 63, 3) := by decide +kernel
theorem dX12_bound_73 : decode cX12_bound 73 = .ok (.if_icmp .ge 23, 3) := by decide +kernel
theorem dX12_bound_76 : decode cX12_bound 76 = .ok (.iload 4, 2) := by decide +kernel
theorem dX12_bound_78 : decode cX12_bound 78 = .ok (.aload_n 0, 1) := by decide +kernel
theorem dX12_bound_79 : decode cX12_bound 79 = .ok (.iload_n 1, 1) := by decide +kernel
theorem dX12_bound_80 : decode cX12_bound 80 = .ok (.iload 5, 2) := by decide +kernel
theorem dX12_bound_82 : decode cX12_bound 82 = .ok (.invokevirtual 202, 3) := by decide +kernel
theorem dX12_bound_85 : decode cX12_bound 85 = .ok (.invokestatic 199, 3) := by decide +kernel
theorem dX12_bound_88 : decode cX12_bound 88 = .ok (.istore 4, 2) := by decide +kernel
theorem dX12_bound_90 : decode cX12_bound 90 = .ok (.iinc 5 1, 3) := by decide +kernel
theorem dX12_bound_93 : decode cX12_bound 93 = .ok (.goto (-27), 3) := by decide +kernel
theorem dX12_bound_96 : decode cX12_bound 96 = .ok (.iload_n 2, 1) := by decide +kernel
theorem dX12_bound_97 : decode cX12_bound 97 = .ok (.ifCond .ne 12, 3) := by decide +kernel
theorem dX12_bound_100 : decode cX12_bound 100 = .ok (.iload 4, 2) := by decide +kernel
theorem dX12_bound_102 : decode cX12_bound 102 = .ok (.iconst 1, 1) := by decide +kernel
theorem dX12_bound_103 : decode cX12_bound 103 = .ok (.iadd, 1) := by decide +kernel
theorem dX12_bound_104 : decode cX12_bound 104 = .ok (.iconst 2, 1) := by decide +kernel
theorem dX12_bound_105 : decode cX12_bound 105 = .ok (.idiv, 1) := by decide +kernel
theorem dX12_bound_106 : decode cX12_bound 106 = .ok (.goto 25, 3) := by decide +kernel
theorem dX12_bound_109 : decode cX12_bound 109 = .ok (.iload_n 2, 1) := by decide +kernel
theorem dX12_bound_110 : decode cX12_bound 110 = .ok (.iconst 2, 1) := by decide +kernel
theorem dX12_bound_111 : decode cX12_bound 111 = .ok (.if_icmp .ne 15, 3) := by decide +kernel
theorem dX12_bound_114 : decode cX12_bound 114 = .ok (.aload_n 0, 1) := by decide +kernel
theorem dX12_bound_115 : decode cX12_bound 115 = .ok (.iload_n 1, 1) := by decide +kernel
theorem dX12_bound_116 : decode cX12_bound 116 = .ok (.invokevirtual 205, 3) := by decide +kernel
theorem dX12_bound_119 : decode cX12_bound 119 = .ok (.iconst 1, 1) := by decide +kernel
theorem dX12_bound_120 : decode cX12_bound 120 = .ok (.iadd, 1) := by decide +kernel
theorem dX12_bound_121 : decode cX12_bound 121 = .ok (.iconst 2, 1) := by decide +kernel
theorem dX12_bound_122 : decode cX12_bound 122 = .ok (.idiv, 1) := by decide +kernel
theorem dX12_bound_123 : decode cX12_bound 123 = .ok (.goto 8, 3) := by decide +kernel
theorem dX12_bound_126 : decode cX12_bound 126 = .ok (.aload_n 0, 1) := by decide +kernel
theorem dX12_bound_127 : decode cX12_bound 127 = .ok (.iload_n 1, 1) := by decide +kernel
theorem dX12_bound_128 : decode cX12_bound 128 = .ok (.invokevirtual 214, 3) := by decide +kernel
theorem dX12_bound_131 : decode cX12_bound 131 = .ok (.ireturn, 1) := by decide +kernel
theorem dX12_core_0 : decode cX12_core 0 = .ok (.iconst 0, 1) := by decide +kernel
theorem dX12_core_1 : decode cX12_core 1 = .ok (.istore_n 2, 1) := by decide +kernel
theorem dX12_core_2 : decode cX12_core 2 = .ok (.iconst 1, 1) := by decide +kernel
theorem dX12_core_3 : decode cX12_core 3 = .ok (.istore_n 3, 1) := by decide +kernel
theorem dX12_core_4 : decode cX12_core 4 = .ok (.iload_n 3, 1) := by decide +kernel
theorem dX12_core_5 : decode cX12_core 5 = .ok (.iconst 1, 1) := by decide +kernel
theorem dX12_core_6 : decode cX12_core 6 = .ok (.aload_n 0, 1) := by decide +kernel
theorem dX12_core_7 : decode cX12_core 7 = .ok (.iload_n 1, 1) := by decide +kernel
theorem dX12_core_8 : decode cX12_core 8 = .ok (.invokevirtual 63, 3) := by decide +kernel
theorem dX12_core_11 : decode cX12_core 11 = .ok (.ishl, 1) := by decide +kernel
theorem dX12_core_12 : decode cX12_core 12 = .ok (.if_icmp .ge 72, 3) := by decide +kernel
theorem dX12_core_15 : decode cX12_core 15 = .ok (.bipush 9, 2) := by decide +kernel
theorem dX12_core_17 : decode cX12_core 17 = .ok (.istore 4, 2) := by decide +kernel
theorem dX12_core_19 : decode cX12_core 19 = .ok (.iconst 0, 1) := by decide +kernel
theorem dX12_core_20 : decode cX12_core 20 = .ok (.istore 5, 2) := by decide +kernel
theorem dX12_core_22 : decode cX12_core 22 = .ok (.iload 5, 2) := by decide +kernel
theorem dX12_core_24 : decode cX12_core 24 = .ok (.aload_n 0, 1) := by decide +kernel
theorem dX12_core_25 : decode cX12_core 25 = .ok (.iload_n 1, 1) := by decide +kernel
theorem dX12_core_26 : decode cX12_core 26 = .ok (.invokevirtual 63, 3) := by decide +kernel
theorem dX12_core_29 : decode cX12_core 29 = .ok (.if_icmp .ge 42, 3) := by decide +kernel
theorem dX12_core_32 : decode cX12_core 32 = .ok (.iload_n 3, 1) := by decide +kernel
theorem dX12_core_33 : decode cX12_core 33 = .ok (.iload 5, 2) := by decide +kernel
theorem dX12_core_35 : decode cX12_core 35 = .ok (.invokestatic 166, 3) := by decide +kernel
theorem dX12_core_38 : decode cX12_core 38 = .ok (.ifCond .eq 23, 3) := by decide +kernel
theorem dX12_core_41 : decode cX12_core 41 = .ok (.iload 4, 2) := by decide +kernel
theorem dX12_core_43 : decode cX12_core 43 = .ok (.aload_n 0, 1) := by decide +kernel
theorem dX12_core_44 : decode cX12_core 44 = .ok (.iload_n 1, 1) := by decide +kernel
theorem dX12_core_45 : decode cX12_core 45 = .ok (.iload 5, 2) := by decide +kernel
theorem dX12_core_47 : decode cX12_core 47 = .ok (.invokevirtual 80, 3) := by decide +kernel
theorem dX12_core_50 : decode cX12_core 50 = .ok (.iload_n 3, 1) := by decide +kernel
theorem dX12_core_51 : decode cX12_core 51 = .ok (.iand, 1) := by decide +kernel
theorem dX12_core_52 : decode cX12_core 52 = .ok (.invokestatic 84, 3) := by decide +kernel
theorem dX12_core_55 : decode cX12_core 55 = .ok (.invokestatic 118, 3) := by decide +kernel
theorem dX12_core_58 : decode cX12_core 58 = .ok (.goto 5, 3) := by decide +kernel
theorem dX12_core_61 : decode cX12_core 61 = .ok (.iload 4, 2) := by decide +kernel
theorem dX12_core_63 : decode cX12_core 63 = .ok (.istore 4, 2) := by decide +kernel
theorem dX12_core_65 : decode cX12_core 65 = .ok (.iinc 5 1, 3) := by decide +kernel
theorem dX12_core_68 : decode cX12_core 68 = .ok (.goto (-46), 3) := by decide +kernel
theorem dX12_core_71 : decode cX12_core 71 = .ok (.iload_n 2, 1) := by decide +kernel
theorem dX12_core_72 : decode cX12_core 72 = .ok (.iload 4, 2) := by decide +kernel
theorem dX12_core_74 : decode cX12_core 74 = .ok (.invokestatic 199, 3) := by decide +kernel
theorem dX12_core_77 : decode cX12_core 77 = .ok (.istore_n 2, 1) := by decide +kernel
theorem dX12_core_78 : decode cX12_core 78 = .ok (.iinc 3 1, 3) := by decide +kernel
theorem dX12_core_81 : decode cX12_core 81 = .ok (.goto (-77), 3) := by decide +kernel
theorem dX12_core_84 : decode cX12_core 84 = .ok (.iload_n 2, 1) := by decide +kernel
theorem dX12_core_85 : decode cX12_core 85 = .ok (.ireturn, 1) := by decide +kernel
theorem dX12_cost_0 : decode cX12_cost 0 = .ok (.iload_n 2, 1) := by decide +kernel
theorem dX12_cost_1 : decode cX12_cost 1 = .ok (.iconst 5, 1) := by decide +kernel
theorem dX12_cost_2 : decode cX12_cost 2 = .ok (.if_icmp .ne 15, 3) := by decide +kernel
theorem dX12_cost_5 : decode cX12_cost 5 = .ok (.aload_n 0, 1) := by decide +kernel
theorem dX12_cost_6 : decode cX12_cost 6 = .ok (.iload_n 1, 1) := by decide +kernel
theorem dX12_cost_7 : decode cX12_cost 7 = .ok (.iload_n 3, 1) := by decide +kernel
theorem dX12_cost_8 : decode cX12_cost 8 = .ok (.iload 4, 2) := by decide +kernel
theorem dX12_cost_10 : decode cX12_cost 10 = .ok (.invokevirtual 223, 3) := by decide +kernel
theorem dX12_cost_13 : decode cX12_cost 13 = .ok (.invokestatic 84, 3) := by decide +kernel
theorem dX12_cost_16 : decode cX12_cost 16 = .ok (.ireturn, 1) := by decide +kernel
theorem dX12_cost_17 : decode cX12_cost 17 = .ok (.iload_n 2, 1) := by decide +kernel
theorem dX12_cost_18 : decode cX12_cost 18 = .ok (.bipush 6, 2) := by decide +kernel
theorem dX12_cost_20 : decode cX12_cost 20 = .ok (.if_icmp .ne 12, 3) := by decide +kernel
theorem dX12_cost_23 : decode cX12_cost 23 = .ok (.aload_n 0, 1) := by decide +kernel
theorem dX12_cost_24 : decode cX12_cost 24 = .ok (.iload_n 1, 1) := by decide +kernel
theorem dX12_cost_25 : decode cX12_cost 25 = .ok (.iload_n 3, 1) := by decide +kernel
theorem dX12_cost_26 : decode cX12_cost 26 = .ok (.iload 4, 2) := by decide +kernel
theorem dX12_cost_28 : decode cX12_cost 28 = .ok (.invokevirtual 226, 3) := by decide +kernel
theorem dX12_cost_31 : decode cX12_cost 31 = .ok (.ireturn, 1) := by decide +kernel
theorem dX12_cost_32 : decode cX12_cost 32 = .ok (.iload_n 3, 1) := by decide +kernel
theorem dX12_cost_33 : decode cX12_cost 33 = .ok (.iconst 1, 1) := by decide +kernel
theorem dX12_cost_34 : decode cX12_cost 34 = .ok (.iload 4, 2) := by decide +kernel
theorem dX12_cost_36 : decode cX12_cost 36 = .ok (.ishl, 1) := by decide +kernel
theorem dX12_cost_37 : decode cX12_cost 37 = .ok (.ior, 1) := by decide +kernel
theorem dX12_cost_38 : decode cX12_cost 38 = .ok (.istore 5, 2) := by decide +kernel
theorem dX12_cost_40 : decode cX12_cost 40 = .ok (.iload 5, 2) := by decide +kernel
theorem dX12_cost_42 : decode cX12_cost 42 = .ok (.iconst 1, 1) := by decide +kernel
theorem dX12_cost_43 : decode cX12_cost 43 = .ok (.aload_n 0, 1) := by decide +kernel
theorem dX12_cost_44 : decode cX12_cost 44 = .ok (.iload_n 1, 1) := by decide +kernel
theorem dX12_cost_45 : decode cX12_cost 45 = .ok (.invokevirtual 63, 3) := by decide +kernel
theorem dX12_cost_48 : decode cX12_cost 48 = .ok (.ishl, 1) := by decide +kernel
theorem dX12_cost_49 : decode cX12_cost 49 = .ok (.iconst 1, 1) := by decide +kernel
theorem dX12_cost_50 : decode cX12_cost 50 = .ok (.isub, 1) := by decide +kernel
theorem dX12_cost_51 : decode cX12_cost 51 = .ok (.if_icmp .ne 7, 3) := by decide +kernel
theorem dX12_cost_54 : decode cX12_cost 54 = .ok (.iconst 0, 1) := by decide +kernel
theorem dX12_cost_55 : decode cX12_cost 55 = .ok (.goto 29, 3) := by decide +kernel
theorem dX12_cost_58 : decode cX12_cost 58 = .ok (.aload_n 0, 1) := by decide +kernel
theorem dX12_cost_59 : decode cX12_cost 59 = .ok (.iload_n 1, 1) := by decide +kernel
theorem dX12_cost_60 : decode cX12_cost 60 = .ok (.iload 5, 2) := by decide +kernel
theorem dX12_cost_62 : decode cX12_cost 62 = .ok (.iload_n 2, 1) := by decide +kernel
theorem dX12_cost_63 : decode cX12_cost 63 = .ok (.iconst 1, 1) := by decide +kernel
theorem dX12_cost_64 : decode cX12_cost 64 = .ok (.if_icmp .ne 7, 3) := by decide +kernel
theorem dX12_cost_67 : decode cX12_cost 67 = .ok (.iconst 1, 1) := by decide +kernel
theorem dX12_cost_68 : decode cX12_cost 68 = .ok (.goto 13, 3) := by decide +kernel
theorem dX12_cost_71 : decode cX12_cost 71 = .ok (.iload_n 2, 1) := by decide +kernel
theorem dX12_cost_72 : decode cX12_cost 72 = .ok (.iconst 4, 1) := by decide +kernel
theorem dX12_cost_73 : decode cX12_cost 73 = .ok (.if_icmp .ne 7, 3) := by decide +kernel
theorem dX12_cost_76 : decode cX12_cost 76 = .ok (.iconst 2, 1) := by decide +kernel
theorem dX12_cost_77 : decode cX12_cost 77 = .ok (.goto 4, 3) := by decide +kernel
theorem dX12_cost_80 : decode cX12_cost 80 = .ok (.iconst 0, 1) := by decide +kernel
theorem dX12_cost_81 : decode cX12_cost 81 = .ok (.invokevirtual 229, 3) := by decide +kernel
theorem dX12_cost_84 : decode cX12_cost 84 = .ok (.ireturn, 1) := by decide +kernel
theorem dX12_count_0 : decode cX12_count 0 = .ok (.iconst 0, 1) := by decide +kernel
theorem dX12_count_1 : decode cX12_count 1 = .ok (.istore_n 2, 1) := by decide +kernel
theorem dX12_count_2 : decode cX12_count 2 = .ok (.iconst 0, 1) := by decide +kernel
theorem dX12_count_3 : decode cX12_count 3 = .ok (.istore_n 3, 1) := by decide +kernel
theorem dX12_count_4 : decode cX12_count 4 = .ok (.iload_n 3, 1) := by decide +kernel
theorem dX12_count_5 : decode cX12_count 5 = .ok (.iconst 3, 1) := by decide +kernel
theorem dX12_count_6 : decode cX12_count 6 = .ok (.if_icmp .ge 27, 3) := by decide +kernel
theorem dX12_count_9 : decode cX12_count 9 = .ok (.iload_n 2, 1) := by decide +kernel
theorem dX12_count_10 : decode cX12_count 10 = .ok (.aload_n 0, 1) := by decide +kernel
theorem dX12_count_11 : decode cX12_count 11 = .ok (.iload_n 3, 1) := by decide +kernel
theorem dX12_count_12 : decode cX12_count 12 = .ok (.invokevirtual 67, 3) := by decide +kernel
theorem dX12_count_15 : decode cX12_count 15 = .ok (.ifCond .eq 9, 3) := by decide +kernel
theorem dX12_count_18 : decode cX12_count 18 = .ok (.iconst 1, 1) := by decide +kernel
theorem dX12_count_19 : decode cX12_count 19 = .ok (.iload_n 3, 1) := by decide +kernel
theorem dX12_count_20 : decode cX12_count 20 = .ok (.ishl, 1) := by decide +kernel
theorem dX12_count_21 : decode cX12_count 21 = .ok (.goto 4, 3) := by decide +kernel
theorem dX12_count_24 : decode cX12_count 24 = .ok (.iconst 0, 1) := by decide +kernel
theorem dX12_count_25 : decode cX12_count 25 = .ok (.ior, 1) := by decide +kernel
theorem dX12_count_26 : decode cX12_count 26 = .ok (.istore_n 2, 1) := by decide +kernel
theorem dX12_count_27 : decode cX12_count 27 = .ok (.iinc 3 1, 3) := by decide +kernel
theorem dX12_count_30 : decode cX12_count 30 = .ok (.goto (-26), 3) := by decide +kernel
theorem dX12_count_33 : decode cX12_count 33 = .ok (.iload_n 1, 1) := by decide +kernel
theorem dX12_count_34 : decode cX12_count 34 = .ok (.tableswitch 47 0 3 #[30, 32, 37, 42], 30) := by decide +kernel
theorem dX12_count_64 : decode cX12_count 64 = .ok (.iload_n 2, 1) := by decide +kernel
theorem dX12_count_65 : decode cX12_count 65 = .ok (.ireturn, 1) := by decide +kernel
theorem dX12_count_66 : decode cX12_count 66 = .ok (.aload_n 0, 1) := by decide +kernel
theorem dX12_count_67 : decode cX12_count 67 = .ok (.getfield 87, 3) := by decide +kernel
theorem dX12_count_70 : decode cX12_count 70 = .ok (.ireturn, 1) := by decide +kernel
theorem dX12_count_71 : decode cX12_count 71 = .ok (.aload_n 0, 1) := by decide +kernel
theorem dX12_count_72 : decode cX12_count 72 = .ok (.getfield 100, 3) := by decide +kernel
theorem dX12_count_75 : decode cX12_count 75 = .ok (.ireturn, 1) := by decide +kernel
theorem dX12_count_76 : decode cX12_count 76 = .ok (.aload_n 0, 1) := by decide +kernel
theorem dX12_count_77 : decode cX12_count 77 = .ok (.getfield 193, 3) := by decide +kernel
theorem dX12_count_80 : decode cX12_count 80 = .ok (.ireturn, 1) := by decide +kernel
theorem dX12_count_81 : decode cX12_count 81 = .ok (.iconst (-1), 1) := by decide +kernel
theorem dX12_count_82 : decode cX12_count 82 = .ok (.ireturn, 1) := by decide +kernel
theorem dX12_cuts_0 : decode cX12_cuts 0 = .ok (.aload_n 0, 1) := by decide +kernel
theorem dX12_cuts_1 : decode cX12_cuts 1 = .ok (.iload_n 1, 1) := by decide +kernel
theorem dX12_cuts_2 : decode cX12_cuts 2 = .ok (.iload_n 2, 1) := by decide +kernel
theorem dX12_cuts_3 : decode cX12_cuts 3 = .ok (.iload_n 3, 1) := by decide +kernel
theorem dX12_cuts_4 : decode cX12_cuts 4 = .ok (.invokevirtual 326, 3) := by decide +kernel
theorem dX12_cuts_7 : decode cX12_cuts 7 = .ok (.ifCond .ne 6, 3) := by decide +kernel
theorem dX12_cuts_10 : decode cX12_cuts 10 = .ok (.bipush (-2), 2) := by decide +kernel
theorem dX12_cuts_12 : decode cX12_cuts 12 = .ok (.ireturn, 1) := by decide +kernel
theorem dX12_cuts_13 : decode cX12_cuts 13 = .ok (.aload_n 0, 1) := by decide +kernel
theorem dX12_cuts_14 : decode cX12_cuts 14 = .ok (.iload_n 1, 1) := by decide +kernel
theorem dX12_cuts_15 : decode cX12_cuts 15 = .ok (.iload_n 2, 1) := by decide +kernel
theorem dX12_cuts_16 : decode cX12_cuts 16 = .ok (.iload_n 3, 1) := by decide +kernel
theorem dX12_cuts_17 : decode cX12_cuts 17 = .ok (.invokevirtual 76, 3) := by decide +kernel
theorem dX12_cuts_20 : decode cX12_cuts 20 = .ok (.istore 4, 2) := by decide +kernel
theorem dX12_cuts_22 : decode cX12_cuts 22 = .ok (.iload 4, 2) := by decide +kernel
theorem dX12_cuts_24 : decode cX12_cuts 24 = .ok (.ifCond .ne 6, 3) := by decide +kernel
theorem dX12_cuts_27 : decode cX12_cuts 27 = .ok (.bipush (-6), 2) := by decide +kernel
theorem dX12_cuts_29 : decode cX12_cuts 29 = .ok (.ireturn, 1) := by decide +kernel
theorem dX12_cuts_30 : decode cX12_cuts 30 = .ok (.aload_n 0, 1) := by decide +kernel
theorem dX12_cuts_31 : decode cX12_cuts 31 = .ok (.invokevirtual 93, 3) := by decide +kernel
theorem dX12_cuts_34 : decode cX12_cuts 34 = .ok (.aload_n 0, 1) := by decide +kernel
theorem dX12_cuts_35 : decode cX12_cuts 35 = .ok (.iload_n 1, 1) := by decide +kernel
theorem dX12_cuts_36 : decode cX12_cuts 36 = .ok (.iload_n 2, 1) := by decide +kernel
theorem dX12_cuts_37 : decode cX12_cuts 37 = .ok (.iload_n 3, 1) := by decide +kernel
theorem dX12_cuts_38 : decode cX12_cuts 38 = .ok (.iconst 0, 1) := by decide +kernel
theorem dX12_cuts_39 : decode cX12_cuts 39 = .ok (.invokevirtual 162, 3) := by decide +kernel
theorem dX12_cuts_42 : decode cX12_cuts 42 = .ok (.aload_n 0, 1) := by decide +kernel
theorem dX12_cuts_43 : decode cX12_cuts 43 = .ok (.iload 4, 2) := by decide +kernel
theorem dX12_cuts_45 : decode cX12_cuts 45 = .ok (.invokevirtual 90, 3) := by decide +kernel
theorem dX12_cuts_48 : decode cX12_cuts 48 = .ok (.ireturn, 1) := by decide +kernel
theorem dX12_degree_0 : decode cX12_degree 0 = .ok (.iconst 0, 1) := by decide +kernel
theorem dX12_degree_1 : decode cX12_degree 1 = .ok (.istore_n 2, 1) := by decide +kernel
theorem dX12_degree_2 : decode cX12_degree 2 = .ok (.iconst 0, 1) := by decide +kernel
theorem dX12_degree_3 : decode cX12_degree 3 = .ok (.istore_n 3, 1) := by decide +kernel
theorem dX12_degree_4 : decode cX12_degree 4 = .ok (.iload_n 3, 1) := by decide +kernel
theorem dX12_degree_5 : decode cX12_degree 5 = .ok (.aload_n 0, 1) := by decide +kernel
theorem dX12_degree_6 : decode cX12_degree 6 = .ok (.iload_n 1, 1) := by decide +kernel
theorem dX12_degree_7 : decode cX12_degree 7 = .ok (.invokevirtual 63, 3) := by decide +kernel
theorem dX12_degree_10 : decode cX12_degree 10 = .ok (.if_icmp .ge 23, 3) := by decide +kernel
theorem dX12_degree_13 : decode cX12_degree 13 = .ok (.iload_n 2, 1) := by decide +kernel
theorem dX12_degree_14 : decode cX12_degree 14 = .ok (.aload_n 0, 1) := by decide +kernel
theorem dX12_degree_15 : decode cX12_degree 15 = .ok (.iload_n 1, 1) := by decide +kernel
theorem dX12_degree_16 : decode cX12_degree 16 = .ok (.iload_n 3, 1) := by decide +kernel
theorem dX12_degree_17 : decode cX12_degree 17 = .ok (.invokevirtual 80, 3) := by decide +kernel
theorem dX12_degree_20 : decode cX12_degree 20 = .ok (.invokestatic 84, 3) := by decide +kernel
theorem dX12_degree_23 : decode cX12_degree 23 = .ok (.invokestatic 199, 3) := by decide +kernel
theorem dX12_degree_26 : decode cX12_degree 26 = .ok (.istore_n 2, 1) := by decide +kernel
theorem dX12_degree_27 : decode cX12_degree 27 = .ok (.iinc 3 1, 3) := by decide +kernel
theorem dX12_degree_30 : decode cX12_degree 30 = .ok (.goto (-26), 3) := by decide +kernel
theorem dX12_degree_33 : decode cX12_degree 33 = .ok (.iload_n 2, 1) := by decide +kernel
theorem dX12_degree_34 : decode cX12_degree 34 = .ok (.ireturn, 1) := by decide +kernel
theorem dX12_diameter_0 : decode cX12_diameter 0 = .ok (.iconst 0, 1) := by decide +kernel
theorem dX12_diameter_1 : decode cX12_diameter 1 = .ok (.istore_n 2, 1) := by decide +kernel
theorem dX12_diameter_2 : decode cX12_diameter 2 = .ok (.iconst 0, 1) := by decide +kernel
theorem dX12_diameter_3 : decode cX12_diameter 3 = .ok (.istore_n 3, 1) := by decide +kernel
theorem dX12_diameter_4 : decode cX12_diameter 4 = .ok (.iload_n 3, 1) := by decide +kernel
theorem dX12_diameter_5 : decode cX12_diameter 5 = .ok (.aload_n 0, 1) := by decide +kernel
theorem dX12_diameter_6 : decode cX12_diameter 6 = .ok (.iload_n 1, 1) := by decide +kernel
theorem dX12_diameter_7 : decode cX12_diameter 7 = .ok (.invokevirtual 63, 3) := by decide +kernel
theorem dX12_diameter_10 : decode cX12_diameter 10 = .ok (.if_icmp .ge 53, 3) := by decide +kernel
theorem dX12_diameter_13 : decode cX12_diameter 13 = .ok (.iconst 0, 1) := by decide +kernel
theorem dX12_diameter_14 : decode cX12_diameter 14 = .ok (.istore 4, 2) := by decide +kernel
theorem dX12_diameter_16 : decode cX12_diameter 16 = .ok (.iload 4, 2) := by decide +kernel
theorem dX12_diameter_18 : decode cX12_diameter 18 = .ok (.aload_n 0, 1) := by decide +kernel
theorem dX12_diameter_19 : decode cX12_diameter 19 = .ok (.iload_n 1, 1) := by decide +kernel
theorem dX12_diameter_20 : decode cX12_diameter 20 = .ok (.invokevirtual 63, 3) := by decide +kernel
theorem dX12_diameter_23 : decode cX12_diameter 23 = .ok (.if_icmp .ge 34, 3) := by decide +kernel
theorem dX12_diameter_26 : decode cX12_diameter 26 = .ok (.aload_n 0, 1) := by decide +kernel
theorem dX12_diameter_27 : decode cX12_diameter 27 = .ok (.iload_n 1, 1) := by decide +kernel
theorem dX12_diameter_28 : decode cX12_diameter 28 = .ok (.iload_n 3, 1) := by decide +kernel
theorem dX12_diameter_29 : decode cX12_diameter 29 = .ok (.iload 4, 2) := by decide +kernel
theorem dX12_diameter_31 : decode cX12_diameter 31 = .ok (.invokevirtual 196, 3) := by decide +kernel
theorem dX12_diameter_34 : decode cX12_diameter 34 = .ok (.istore 5, 2) := by decide +kernel
theorem dX12_diameter_36 : decode cX12_diameter 36 = .ok (.iload 5, 2) := by decide +kernel
theorem dX12_diameter_38 : decode cX12_diameter 38 = .ok (.iconst (-1), 1) := by decide +kernel
theorem dX12_diameter_39 : decode cX12_diameter 39 = .ok (.if_icmp .ne 5, 3) := by decide +kernel
theorem dX12_diameter_42 : decode cX12_diameter 42 = .ok (.iconst (-1), 1) := by decide +kernel
theorem dX12_diameter_43 : decode cX12_diameter 43 = .ok (.ireturn, 1) := by decide +kernel
theorem dX12_diameter_44 : decode cX12_diameter 44 = .ok (.iload_n 2, 1) := by decide +kernel
theorem dX12_diameter_45 : decode cX12_diameter 45 = .ok (.iload 5, 2) := by decide +kernel
theorem dX12_diameter_47 : decode cX12_diameter 47 = .ok (.invokestatic 199, 3) := by decide +kernel
theorem dX12_diameter_50 : decode cX12_diameter 50 = .ok (.istore_n 2, 1) := by decide +kernel
theorem dX12_diameter_51 : decode cX12_diameter 51 = .ok (.iinc 4 1, 3) := by decide +kernel
theorem dX12_diameter_54 : decode cX12_diameter 54 = .ok (.goto (-38), 3) := by decide +kernel
theorem dX12_diameter_57 : decode cX12_diameter 57 = .ok (.iinc 3 1, 3) := by decide +kernel
theorem dX12_diameter_60 : decode cX12_diameter 60 = .ok (.goto (-56), 3) := by decide +kernel
theorem dX12_diameter_63 : decode cX12_diameter 63 = .ok (.iload_n 2, 1) := by decide +kernel
theorem dX12_diameter_64 : decode cX12_diameter 64 = .ok (.ireturn, 1) := by decide +kernel
theorem dX12_done_0 : decode cX12_done 0 = .ok (.iconst 0, 1) := by decide +kernel
theorem dX12_done_1 : decode cX12_done 1 = .ok (.istore_n 2, 1) := by decide +kernel
theorem dX12_done_2 : decode cX12_done 2 = .ok (.iload_n 2, 1) := by decide +kernel
theorem dX12_done_3 : decode cX12_done 3 = .ok (.sipush 273, 3) := by decide +kernel
theorem dX12_done_6 : decode cX12_done 6 = .ok (.if_icmp .ge 30, 3) := by decide +kernel
theorem dX12_done_9 : decode cX12_done 9 = .ok (.aload_n 0, 1) := by decide +kernel
theorem dX12_done_10 : decode cX12_done 10 = .ok (.getfield 13, 3) := by decide +kernel
theorem dX12_done_13 : decode cX12_done 13 = .ok (.iload_n 2, 1) := by decide +kernel
theorem dX12_done_14 : decode cX12_done 14 = .ok (.iaload, 1) := by decide +kernel
theorem dX12_done_15 : decode cX12_done 15 = .ok (.aload_n 0, 1) := by decide +kernel
theorem dX12_done_16 : decode cX12_done 16 = .ok (.getfield 7, 3) := by decide +kernel
theorem dX12_done_19 : decode cX12_done 19 = .ok (.iload_n 2, 1) := by decide +kernel
theorem dX12_done_20 : decode cX12_done 20 = .ok (.iaload, 1) := by decide +kernel
theorem dX12_done_21 : decode cX12_done 21 = .ok (.if_icmp .eq 9, 3) := by decide +kernel
theorem dX12_done_24 : decode cX12_done 24 = .ok (.aload_n 0, 1) := by decide +kernel
theorem dX12_done_25 : decode cX12_done 25 = .ok (.iload_n 1, 1) := by decide +kernel
theorem dX12_done_26 : decode cX12_done 26 = .ok (.invokevirtual 90, 3) := by decide +kernel
theorem dX12_done_29 : decode cX12_done 29 = .ok (.ireturn, 1) := by decide +kernel
theorem dX12_done_30 : decode cX12_done 30 = .ok (.iinc 2 1, 3) := by decide +kernel
theorem dX12_done_33 : decode cX12_done 33 = .ok (.goto (-31), 3) := by decide +kernel
theorem dX12_done_36 : decode cX12_done 36 = .ok (.iload_n 1, 1) := by decide +kernel
theorem dX12_done_37 : decode cX12_done 37 = .ok (.ireturn, 1) := by decide +kernel
theorem dX12_drops_0 : decode cX12_drops 0 = .ok (.iload_n 1, 1) := by decide +kernel
theorem dX12_drops_1 : decode cX12_drops 1 = .ok (.invokestatic 59, 3) := by decide +kernel
theorem dX12_drops_4 : decode cX12_drops 4 = .ok (.ifCond .ne 6, 3) := by decide +kernel
theorem dX12_drops_7 : decode cX12_drops 7 = .ok (.bipush (-2), 2) := by decide +kernel
theorem dX12_drops_9 : decode cX12_drops 9 = .ok (.ireturn, 1) := by decide +kernel
theorem dX12_drops_10 : decode cX12_drops 10 = .ok (.aload_n 0, 1) := by decide +kernel
theorem dX12_drops_11 : decode cX12_drops 11 = .ok (.iload_n 1, 1) := by decide +kernel
theorem dX12_drops_12 : decode cX12_drops 12 = .ok (.invokevirtual 67, 3) := by decide +kernel
theorem dX12_drops_15 : decode cX12_drops 15 = .ok (.ifCond .ne 5, 3) := by decide +kernel
theorem dX12_drops_18 : decode cX12_drops 18 = .ok (.iconst 0, 1) := by decide +kernel
theorem dX12_drops_19 : decode cX12_drops 19 = .ok (.ireturn, 1) := by decide +kernel
theorem dX12_drops_20 : decode cX12_drops 20 = .ok (.aload_n 0, 1) := by decide +kernel
theorem dX12_drops_21 : decode cX12_drops 21 = .ok (.invokevirtual 93, 3) := by decide +kernel
theorem dX12_drops_24 : decode cX12_drops 24 = .ok (.aload_n 0, 1) := by decide +kernel
theorem dX12_drops_25 : decode cX12_drops 25 = .ok (.iload_n 1, 1) := by decide +kernel
theorem dX12_drops_26 : decode cX12_drops 26 = .ok (.invokevirtual 96, 3) := by decide +kernel
theorem dX12_drops_29 : decode cX12_drops 29 = .ok (.aload_n 0, 1) := by decide +kernel
theorem dX12_drops_30 : decode cX12_drops 30 = .ok (.iconst 1, 1) := by decide +kernel
theorem dX12_drops_31 : decode cX12_drops 31 = .ok (.invokevirtual 90, 3) := by decide +kernel
theorem dX12_drops_34 : decode cX12_drops 34 = .ok (.ireturn, 1) := by decide +kernel
theorem dX12_empties_0 : decode cX12_empties 0 = .ok (.iconst 0, 1) := by decide +kernel
theorem dX12_empties_1 : decode cX12_empties 1 = .ok (.istore_n 2, 1) := by decide +kernel
theorem dX12_empties_2 : decode cX12_empties 2 = .ok (.iload_n 2, 1) := by decide +kernel
theorem dX12_empties_3 : decode cX12_empties 3 = .ok (.bipush 91, 2) := by decide +kernel
theorem dX12_empties_5 : decode cX12_empties 5 = .ok (.if_icmp .ge 21, 3) := by decide +kernel
theorem dX12_empties_8 : decode cX12_empties 8 = .ok (.aload_n 0, 1) := by decide +kernel
theorem dX12_empties_9 : decode cX12_empties 9 = .ok (.getfield 7, 3) := by decide +kernel
theorem dX12_empties_12 : decode cX12_empties 12 = .ok (.bipush 91, 2) := by decide +kernel
theorem dX12_empties_14 : decode cX12_empties 14 = .ok (.iload_n 1, 1) := by decide +kernel
theorem dX12_empties_15 : decode cX12_empties 15 = .ok (.imul, 1) := by decide +kernel
theorem dX12_empties_16 : decode cX12_empties 16 = .ok (.iload_n 2, 1) := by decide +kernel
theorem dX12_empties_17 : decode cX12_empties 17 = .ok (.iadd, 1) := by decide +kernel
theorem dX12_empties_18 : decode cX12_empties 18 = .ok (.iconst 0, 1) := by decide +kernel
theorem dX12_empties_19 : decode cX12_empties 19 = .ok (.iastore, 1) := by decide +kernel
theorem dX12_empties_20 : decode cX12_empties 20 = .ok (.iinc 2 1, 3) := by decide +kernel
theorem dX12_empties_23 : decode cX12_empties 23 = .ok (.goto (-21), 3) := by decide +kernel
theorem dX12_empties_26 : decode cX12_empties 26 = .ok (.return_, 1) := by decide +kernel
theorem dX12_end_0 : decode cX12_end 0 = .ok (.iload_n 1, 1) := by decide +kernel
theorem dX12_end_1 : decode cX12_end 1 = .ok (.i2l, 1) := by decide +kernel
theorem dX12_end_2 : decode cX12_end 2 = .ok (.lconst 0, 1) := by decide +kernel
theorem dX12_end_3 : decode cX12_end 3 = .ok (.aload_n 0, 1) := by decide +kernel
theorem dX12_end_4 : decode cX12_end 4 = .ok (.getfield 100, 3) := by decide +kernel
theorem dX12_end_7 : decode cX12_end 7 = .ok (.i2l, 1) := by decide +kernel
theorem dX12_end_8 : decode cX12_end 8 = .ok (.invokestatic 55, 3) := by decide +kernel
theorem dX12_end_11 : decode cX12_end 11 = .ok (.ifCond .ne 5, 3) := by decide +kernel
theorem dX12_end_14 : decode cX12_end 14 = .ok (.iconst (-1), 1) := by decide +kernel
theorem dX12_end_15 : decode cX12_end 15 = .ok (.ireturn, 1) := by decide +kernel
theorem dX12_end_16 : decode cX12_end 16 = .ok (.aload_n 0, 1) := by decide +kernel
theorem dX12_end_17 : decode cX12_end 17 = .ok (.iload_n 1, 1) := by decide +kernel
theorem dX12_end_18 : decode cX12_end 18 = .ok (.putfield 100, 3) := by decide +kernel
theorem dX12_end_21 : decode cX12_end 21 = .ok (.iload_n 1, 1) := by decide +kernel
theorem dX12_end_22 : decode cX12_end 22 = .ok (.ireturn, 1) := by decide +kernel
theorem dX12_exchanges_0 : decode cX12_exchanges 0 = .ok (.aload_n 0, 1) := by decide +kernel
theorem dX12_exchanges_1 : decode cX12_exchanges 1 = .ok (.getfield 26, 3) := by decide +kernel
theorem dX12_exchanges_4 : decode cX12_exchanges 4 = .ok (.iload_n 1, 1) := by decide +kernel
theorem dX12_exchanges_5 : decode cX12_exchanges 5 = .ok (.iaload, 1) := by decide +kernel
theorem dX12_exchanges_6 : decode cX12_exchanges 6 = .ok (.istore_n 3, 1) := by decide +kernel
theorem dX12_exchanges_7 : decode cX12_exchanges 7 = .ok (.aload_n 0, 1) := by decide +kernel
theorem dX12_exchanges_8 : decode cX12_exchanges 8 = .ok (.getfield 26, 3) := by decide +kernel
theorem dX12_exchanges_11 : decode cX12_exchanges 11 = .ok (.iload_n 1, 1) := by decide +kernel
theorem dX12_exchanges_12 : decode cX12_exchanges 12 = .ok (.aload_n 0, 1) := by decide +kernel
theorem dX12_exchanges_13 : decode cX12_exchanges 13 = .ok (.getfield 26, 3) := by decide +kernel
theorem dX12_exchanges_16 : decode cX12_exchanges 16 = .ok (.iload_n 2, 1) := by decide +kernel
theorem dX12_exchanges_17 : decode cX12_exchanges 17 = .ok (.iaload, 1) := by decide +kernel
theorem dX12_exchanges_18 : decode cX12_exchanges 18 = .ok (.iastore, 1) := by decide +kernel
theorem dX12_exchanges_19 : decode cX12_exchanges 19 = .ok (.aload_n 0, 1) := by decide +kernel
theorem dX12_exchanges_20 : decode cX12_exchanges 20 = .ok (.getfield 26, 3) := by decide +kernel
theorem dX12_exchanges_23 : decode cX12_exchanges 23 = .ok (.iload_n 2, 1) := by decide +kernel
theorem dX12_exchanges_24 : decode cX12_exchanges 24 = .ok (.iload_n 3, 1) := by decide +kernel
theorem dX12_exchanges_25 : decode cX12_exchanges 25 = .ok (.iastore, 1) := by decide +kernel
theorem dX12_exchanges_26 : decode cX12_exchanges 26 = .ok (.return_, 1) := by decide +kernel
theorem dX12_far_0 : decode cX12_far 0 = .ok (.aload_n 0, 1) := by decide +kernel
theorem dX12_far_1 : decode cX12_far 1 = .ok (.iload_n 1, 1) := by decide +kernel
theorem dX12_far_2 : decode cX12_far 2 = .ok (.iload_n 2, 1) := by decide +kernel
theorem dX12_far_3 : decode cX12_far 3 = .ok (.invokevirtual 70, 3) := by decide +kernel
theorem dX12_far_6 : decode cX12_far 6 = .ok (.ifCond .eq 22, 3) := by decide +kernel
theorem dX12_far_9 : decode cX12_far 9 = .ok (.aload_n 0, 1) := by decide +kernel
theorem dX12_far_10 : decode cX12_far 10 = .ok (.iload_n 1, 1) := by decide +kernel
theorem dX12_far_11 : decode cX12_far 11 = .ok (.iload_n 3, 1) := by decide +kernel
theorem dX12_far_12 : decode cX12_far 12 = .ok (.invokevirtual 70, 3) := by decide +kernel
theorem dX12_far_15 : decode cX12_far 15 = .ok (.ifCond .eq 13, 3) := by decide +kernel
theorem dX12_far_18 : decode cX12_far 18 = .ok (.aload_n 0, 1) := by decide +kernel
theorem dX12_far_19 : decode cX12_far 19 = .ok (.iload_n 1, 1) := by decide +kernel
theorem dX12_far_20 : decode cX12_far 20 = .ok (.iload_n 2, 1) := by decide +kernel
theorem dX12_far_21 : decode cX12_far 21 = .ok (.iload_n 3, 1) := by decide +kernel
theorem dX12_far_22 : decode cX12_far 22 = .ok (.invokevirtual 196, 3) := by decide +kernel
theorem dX12_far_25 : decode cX12_far 25 = .ok (.goto 5, 3) := by decide +kernel
theorem dX12_far_28 : decode cX12_far 28 = .ok (.bipush (-2), 2) := by decide +kernel
theorem dX12_far_30 : decode cX12_far 30 = .ok (.ireturn, 1) := by decide +kernel
theorem dX12_farOf_0 : decode cX12_farOf 0 = .ok (.iconst 1, 1) := by decide +kernel
theorem dX12_farOf_1 : decode cX12_farOf 1 = .ok (.iload_n 2, 1) := by decide +kernel
theorem dX12_farOf_2 : decode cX12_farOf 2 = .ok (.ishl, 1) := by decide +kernel
theorem dX12_farOf_3 : decode cX12_farOf 3 = .ok (.istore 4, 2) := by decide +kernel
theorem dX12_farOf_5 : decode cX12_farOf 5 = .ok (.iconst 0, 1) := by decide +kernel
theorem dX12_farOf_6 : decode cX12_farOf 6 = .ok (.istore 5, 2) := by decide +kernel
theorem dX12_farOf_8 : decode cX12_farOf 8 = .ok (.iload 4, 2) := by decide +kernel
theorem dX12_farOf_10 : decode cX12_farOf 10 = .ok (.iload_n 3, 1) := by decide +kernel
theorem dX12_farOf_11 : decode cX12_farOf 11 = .ok (.invokestatic 166, 3) := by decide +kernel
theorem dX12_farOf_14 : decode cX12_farOf 14 = .ok (.ifCond .ne 71, 3) := by decide +kernel
theorem dX12_farOf_17 : decode cX12_farOf 17 = .ok (.iload 4, 2) := by decide +kernel
theorem dX12_farOf_19 : decode cX12_farOf 19 = .ok (.istore 6, 2) := by decide +kernel
theorem dX12_farOf_21 : decode cX12_farOf 21 = .ok (.iconst 0, 1) := by decide +kernel
theorem dX12_farOf_22 : decode cX12_farOf 22 = .ok (.istore 7, 2) := by decide +kernel
theorem dX12_farOf_24 : decode cX12_farOf 24 = .ok (.iload 7, 2) := by decide +kernel
theorem dX12_farOf_26 : decode cX12_farOf 26 = .ok (.aload_n 0, 1) := by decide +kernel
theorem dX12_farOf_27 : decode cX12_farOf 27 = .ok (.iload_n 1, 1) := by decide +kernel
theorem dX12_farOf_28 : decode cX12_farOf 28 = .ok (.invokevirtual 63, 3) := by decide +kernel
