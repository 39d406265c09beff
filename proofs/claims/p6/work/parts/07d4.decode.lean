/-! decode rows -/
theorem dX12_polishes_130 : decode cX12_polishes 130 = .ok (.iload 5, 2) := by decide +kernel
theorem dX12_polishes_132 : decode cX12_polishes 132 = .ok (.ifCond .eq 18, 3) := by decide +kernel
theorem dX12_polishes_135 : decode cX12_polishes 135 = .ok (.aload_n 0, 1) := by decide +kernel
theorem dX12_polishes_136 : decode cX12_polishes 136 = .ok (.iload 6, 2) := by decide +kernel
theorem dX12_polishes_138 : decode cX12_polishes 138 = .ok (.iload 7, 2) := by decide +kernel
theorem dX12_polishes_140 : decode cX12_polishes 140 = .ok (.invokevirtual 317, 3) := by decide +kernel
theorem dX12_polishes_143 : decode cX12_polishes 143 = .ok (.iload 8, 2) := by decide +kernel
theorem dX12_polishes_145 : decode cX12_polishes 145 = .ok (.istore 4, 2) := by decide +kernel
theorem dX12_polishes_147 : decode cX12_polishes 147 = .ok (.iinc 3 1, 3) := by decide +kernel
theorem dX12_polishes_150 : decode cX12_polishes 150 = .ok (.goto (-132), 3) := by decide +kernel
theorem dX12_polishes_153 : decode cX12_polishes 153 = .ok (.iload_n 3, 1) := by decide +kernel
theorem dX12_polishes_154 : decode cX12_polishes 154 = .ok (.ireturn, 1) := by decide +kernel
theorem dX12_price_0 : decode cX12_price 0 = .ok (.aload_n 0, 1) := by decide +kernel
theorem dX12_price_1 : decode cX12_price 1 = .ok (.iload_n 1, 1) := by decide +kernel
theorem dX12_price_2 : decode cX12_price 2 = .ok (.invokevirtual 67, 3) := by decide +kernel
theorem dX12_price_5 : decode cX12_price 5 = .ok (.ifCond .eq 43, 3) := by decide +kernel
theorem dX12_price_8 : decode cX12_price 8 = .ok (.iload_n 2, 1) := by decide +kernel
theorem dX12_price_9 : decode cX12_price 9 = .ok (.invokestatic 245, 3) := by decide +kernel
theorem dX12_price_12 : decode cX12_price 12 = .ok (.ifCond .eq 36, 3) := by decide +kernel
theorem dX12_price_15 : decode cX12_price 15 = .ok (.iload_n 2, 1) := by decide +kernel
theorem dX12_price_16 : decode cX12_price 16 = .ok (.iconst 2, 1) := by decide +kernel
theorem dX12_price_17 : decode cX12_price 17 = .ok (.if_icmp .eq 31, 3) := by decide +kernel
theorem dX12_price_20 : decode cX12_price 20 = .ok (.iload_n 3, 1) := by decide +kernel
theorem dX12_price_21 : decode cX12_price 21 = .ok (.i2l, 1) := by decide +kernel
theorem dX12_price_22 : decode cX12_price 22 = .ok (.iload_n 2, 1) := by decide +kernel
theorem dX12_price_23 : decode cX12_price 23 = .ok (.invokestatic 254, 3) := by decide +kernel
theorem dX12_price_26 : decode cX12_price 26 = .ok (.ifCond .eq 7, 3) := by decide +kernel
theorem dX12_price_29 : decode cX12_price 29 = .ok (.lconst 0, 1) := by decide +kernel
theorem dX12_price_30 : decode cX12_price 30 = .ok (.goto 4, 3) := by decide +kernel
theorem dX12_price_33 : decode cX12_price 33 = .ok (.lconst 1, 1) := by decide +kernel
theorem dX12_price_34 : decode cX12_price 34 = .ok (.aload_n 0, 1) := by decide +kernel
theorem dX12_price_35 : decode cX12_price 35 = .ok (.iload_n 1, 1) := by decide +kernel
theorem dX12_price_36 : decode cX12_price 36 = .ok (.invokevirtual 63, 3) := by decide +kernel
theorem dX12_price_39 : decode cX12_price 39 = .ok (.iconst 1, 1) := by decide +kernel
theorem dX12_price_40 : decode cX12_price 40 = .ok (.isub, 1) := by decide +kernel
theorem dX12_price_41 : decode cX12_price 41 = .ok (.i2l, 1) := by decide +kernel
theorem dX12_price_42 : decode cX12_price 42 = .ok (.invokestatic 55, 3) := by decide +kernel
theorem dX12_price_45 : decode cX12_price 45 = .ok (.ifCond .ne 6, 3) := by decide +kernel
theorem dX12_price_48 : decode cX12_price 48 = .ok (.bipush (-2), 2) := by decide +kernel
theorem dX12_price_50 : decode cX12_price 50 = .ok (.ireturn, 1) := by decide +kernel
theorem dX12_price_51 : decode cX12_price 51 = .ok (.aload_n 0, 1) := by decide +kernel
theorem dX12_price_52 : decode cX12_price 52 = .ok (.iload_n 1, 1) := by decide +kernel
theorem dX12_price_53 : decode cX12_price 53 = .ok (.iload_n 2, 1) := by decide +kernel
theorem dX12_price_54 : decode cX12_price 54 = .ok (.iload_n 3, 1) := by decide +kernel
theorem dX12_price_55 : decode cX12_price 55 = .ok (.invokevirtual 260, 3) := by decide +kernel
theorem dX12_price_58 : decode cX12_price 58 = .ok (.ireturn, 1) := by decide +kernel
theorem dX12_priceOf_0 : decode cX12_priceOf 0 = .ok (.iload_n 2, 1) := by decide +kernel
theorem dX12_priceOf_1 : decode cX12_priceOf 1 = .ok (.invokestatic 254, 3) := by decide +kernel
theorem dX12_priceOf_4 : decode cX12_priceOf 4 = .ok (.ifCond .eq 24, 3) := by decide +kernel
theorem dX12_priceOf_7 : decode cX12_priceOf 7 = .ok (.aload_n 0, 1) := by decide +kernel
theorem dX12_priceOf_8 : decode cX12_priceOf 8 = .ok (.iload_n 1, 1) := by decide +kernel
theorem dX12_priceOf_9 : decode cX12_priceOf 9 = .ok (.iload_n 2, 1) := by decide +kernel
theorem dX12_priceOf_10 : decode cX12_priceOf 10 = .ok (.aload_n 0, 1) := by decide +kernel
theorem dX12_priceOf_11 : decode cX12_priceOf 11 = .ok (.iload_n 1, 1) := by decide +kernel
theorem dX12_priceOf_12 : decode cX12_priceOf 12 = .ok (.iload_n 3, 1) := by decide +kernel
theorem dX12_priceOf_13 : decode cX12_priceOf 13 = .ok (.invokevirtual 257, 3) := by decide +kernel
theorem dX12_priceOf_16 : decode cX12_priceOf 16 = .ok (.aload_n 0, 1) := by decide +kernel
theorem dX12_priceOf_17 : decode cX12_priceOf 17 = .ok (.iload_n 1, 1) := by decide +kernel
theorem dX12_priceOf_18 : decode cX12_priceOf 18 = .ok (.iload_n 3, 1) := by decide +kernel
theorem dX12_priceOf_19 : decode cX12_priceOf 19 = .ok (.invokevirtual 217, 3) := by decide +kernel
theorem dX12_priceOf_22 : decode cX12_priceOf 22 = .ok (.invokevirtual 238, 3) := by decide +kernel
theorem dX12_priceOf_25 : decode cX12_priceOf 25 = .ok (.goto 25, 3) := by decide +kernel
theorem dX12_priceOf_28 : decode cX12_priceOf 28 = .ok (.aload_n 0, 1) := by decide +kernel
theorem dX12_priceOf_29 : decode cX12_priceOf 29 = .ok (.iload_n 1, 1) := by decide +kernel
theorem dX12_priceOf_30 : decode cX12_priceOf 30 = .ok (.iload_n 2, 1) := by decide +kernel
theorem dX12_priceOf_31 : decode cX12_priceOf 31 = .ok (.aload_n 0, 1) := by decide +kernel
theorem dX12_priceOf_32 : decode cX12_priceOf 32 = .ok (.iload_n 1, 1) := by decide +kernel
theorem dX12_priceOf_33 : decode cX12_priceOf 33 = .ok (.iload_n 3, 1) := by decide +kernel
theorem dX12_priceOf_34 : decode cX12_priceOf 34 = .ok (.iconst 1, 1) := by decide +kernel
theorem dX12_priceOf_35 : decode cX12_priceOf 35 = .ok (.isub, 1) := by decide +kernel
theorem dX12_priceOf_36 : decode cX12_priceOf 36 = .ok (.invokevirtual 257, 3) := by decide +kernel
theorem dX12_priceOf_39 : decode cX12_priceOf 39 = .ok (.aload_n 0, 1) := by decide +kernel
theorem dX12_priceOf_40 : decode cX12_priceOf 40 = .ok (.iload_n 1, 1) := by decide +kernel
theorem dX12_priceOf_41 : decode cX12_priceOf 41 = .ok (.iload_n 3, 1) := by decide +kernel
theorem dX12_priceOf_42 : decode cX12_priceOf 42 = .ok (.iconst 1, 1) := by decide +kernel
theorem dX12_priceOf_43 : decode cX12_priceOf 43 = .ok (.isub, 1) := by decide +kernel
theorem dX12_priceOf_44 : decode cX12_priceOf 44 = .ok (.invokevirtual 217, 3) := by decide +kernel
theorem dX12_priceOf_47 : decode cX12_priceOf 47 = .ok (.invokevirtual 238, 3) := by decide +kernel
theorem dX12_priceOf_50 : decode cX12_priceOf 50 = .ok (.ireturn, 1) := by decide +kernel
theorem dX12_puts_0 : decode cX12_puts 0 = .ok (.aload_n 0, 1) := by decide +kernel
theorem dX12_puts_1 : decode cX12_puts 1 = .ok (.getfield 7, 3) := by decide +kernel
theorem dX12_puts_4 : decode cX12_puts 4 = .ok (.bipush 91, 2) := by decide +kernel
theorem dX12_puts_6 : decode cX12_puts 6 = .ok (.iload_n 1, 1) := by decide +kernel
theorem dX12_puts_7 : decode cX12_puts 7 = .ok (.imul, 1) := by decide +kernel
theorem dX12_puts_8 : decode cX12_puts 8 = .ok (.bipush 82, 2) := by decide +kernel
theorem dX12_puts_10 : decode cX12_puts 10 = .ok (.iadd, 1) := by decide +kernel
theorem dX12_puts_11 : decode cX12_puts 11 = .ok (.iload_n 2, 1) := by decide +kernel
theorem dX12_puts_12 : decode cX12_puts 12 = .ok (.iadd, 1) := by decide +kernel
theorem dX12_puts_13 : decode cX12_puts 13 = .ok (.iload_n 3, 1) := by decide +kernel
theorem dX12_puts_14 : decode cX12_puts 14 = .ok (.iastore, 1) := by decide +kernel
theorem dX12_puts_15 : decode cX12_puts 15 = .ok (.return_, 1) := by decide +kernel
theorem dX12_readsLine_0 : decode cX12_readsLine 0 = .ok (.aload_n 0, 1) := by decide +kernel
theorem dX12_readsLine_1 : decode cX12_readsLine 1 = .ok (.iconst 0, 1) := by decide +kernel
theorem dX12_readsLine_2 : decode cX12_readsLine 2 = .ok (.aload_n 0, 1) := by decide +kernel
theorem dX12_readsLine_3 : decode cX12_readsLine 3 = .ok (.iload_n 1, 1) := by decide +kernel
theorem dX12_readsLine_4 : decode cX12_readsLine 4 = .ok (.invokevirtual 63, 3) := by decide +kernel
theorem dX12_readsLine_7 : decode cX12_readsLine 7 = .ok (.iconst 1, 1) := by decide +kernel
theorem dX12_readsLine_8 : decode cX12_readsLine 8 = .ok (.isub, 1) := by decide +kernel
theorem dX12_readsLine_9 : decode cX12_readsLine 9 = .ok (.invokevirtual 149, 3) := by decide +kernel
theorem dX12_readsLine_12 : decode cX12_readsLine 12 = .ok (.istore_n 2, 1) := by decide +kernel
theorem dX12_readsLine_13 : decode cX12_readsLine 13 = .ok (.aload_n 0, 1) := by decide +kernel
theorem dX12_readsLine_14 : decode cX12_readsLine 14 = .ok (.getfield 123, 3) := by decide +kernel
theorem dX12_readsLine_17 : decode cX12_readsLine 17 = .ok (.ifCond .ne 18, 3) := by decide +kernel
theorem dX12_readsLine_20 : decode cX12_readsLine 20 = .ok (.aload_n 0, 1) := by decide +kernel
theorem dX12_readsLine_21 : decode cX12_readsLine 21 = .ok (.iload_n 1, 1) := by decide +kernel
theorem dX12_readsLine_22 : decode cX12_readsLine 22 = .ok (.invokevirtual 152, 3) := by decide +kernel
theorem dX12_readsLine_25 : decode cX12_readsLine 25 = .ok (.bipush 30, 2) := by decide +kernel
theorem dX12_readsLine_27 : decode cX12_readsLine 27 = .ok (.if_icmp .ne 8, 3) := by decide +kernel
theorem dX12_readsLine_30 : decode cX12_readsLine 30 = .ok (.aload_n 0, 1) := by decide +kernel
theorem dX12_readsLine_31 : decode cX12_readsLine 31 = .ok (.iconst 4, 1) := by decide +kernel
theorem dX12_readsLine_32 : decode cX12_readsLine 32 = .ok (.invokevirtual 143, 3) := by decide +kernel
theorem dX12_readsLine_35 : decode cX12_readsLine 35 = .ok (.aload_n 0, 1) := by decide +kernel
theorem dX12_readsLine_36 : decode cX12_readsLine 36 = .ok (.invokevirtual 146, 3) := by decide +kernel
theorem dX12_readsLine_39 : decode cX12_readsLine 39 = .ok (.aload_n 0, 1) := by decide +kernel
theorem dX12_readsLine_40 : decode cX12_readsLine 40 = .ok (.aload_n 0, 1) := by decide +kernel
theorem dX12_readsLine_41 : decode cX12_readsLine 41 = .ok (.bipush 45, 2) := by decide +kernel
theorem dX12_readsLine_43 : decode cX12_readsLine 43 = .ok (.invokevirtual 155, 3) := by decide +kernel
theorem dX12_readsLine_46 : decode cX12_readsLine 46 = .ok (.invokevirtual 158, 3) := by decide +kernel
theorem dX12_readsLine_49 : decode cX12_readsLine 49 = .ok (.aload_n 0, 1) := by decide +kernel
theorem dX12_readsLine_50 : decode cX12_readsLine 50 = .ok (.iconst 0, 1) := by decide +kernel
theorem dX12_readsLine_51 : decode cX12_readsLine 51 = .ok (.aload_n 0, 1) := by decide +kernel
theorem dX12_readsLine_52 : decode cX12_readsLine 52 = .ok (.iload_n 1, 1) := by decide +kernel
theorem dX12_readsLine_53 : decode cX12_readsLine 53 = .ok (.invokevirtual 63, 3) := by decide +kernel
theorem dX12_readsLine_56 : decode cX12_readsLine 56 = .ok (.iconst 1, 1) := by decide +kernel
theorem dX12_readsLine_57 : decode cX12_readsLine 57 = .ok (.isub, 1) := by decide +kernel
theorem dX12_readsLine_58 : decode cX12_readsLine 58 = .ok (.invokevirtual 149, 3) := by decide +kernel
theorem dX12_readsLine_61 : decode cX12_readsLine 61 = .ok (.istore_n 3, 1) := by decide +kernel
theorem dX12_readsLine_62 : decode cX12_readsLine 62 = .ok (.aload_n 0, 1) := by decide +kernel
theorem dX12_readsLine_63 : decode cX12_readsLine 63 = .ok (.getfield 123, 3) := by decide +kernel
theorem dX12_readsLine_66 : decode cX12_readsLine 66 = .ok (.ifCond .ne 13, 3) := by decide +kernel
theorem dX12_readsLine_69 : decode cX12_readsLine 69 = .ok (.iload_n 2, 1) := by decide +kernel
theorem dX12_readsLine_70 : decode cX12_readsLine 70 = .ok (.iload_n 3, 1) := by decide +kernel
theorem dX12_readsLine_71 : decode cX12_readsLine 71 = .ok (.if_icmp .ne 8, 3) := by decide +kernel
theorem dX12_readsLine_74 : decode cX12_readsLine 74 = .ok (.aload_n 0, 1) := by decide +kernel
theorem dX12_readsLine_75 : decode cX12_readsLine 75 = .ok (.iconst 2, 1) := by decide +kernel
theorem dX12_readsLine_76 : decode cX12_readsLine 76 = .ok (.invokevirtual 143, 3) := by decide +kernel
theorem dX12_readsLine_79 : decode cX12_readsLine 79 = .ok (.aload_n 0, 1) := by decide +kernel
theorem dX12_readsLine_80 : decode cX12_readsLine 80 = .ok (.getfield 123, 3) := by decide +kernel
theorem dX12_readsLine_83 : decode cX12_readsLine 83 = .ok (.ifCond .ne 18, 3) := by decide +kernel
theorem dX12_readsLine_86 : decode cX12_readsLine 86 = .ok (.aload_n 0, 1) := by decide +kernel
theorem dX12_readsLine_87 : decode cX12_readsLine 87 = .ok (.iload_n 1, 1) := by decide +kernel
theorem dX12_readsLine_88 : decode cX12_readsLine 88 = .ok (.iload_n 2, 1) := by decide +kernel
theorem dX12_readsLine_89 : decode cX12_readsLine 89 = .ok (.iload_n 3, 1) := by decide +kernel
theorem dX12_readsLine_90 : decode cX12_readsLine 90 = .ok (.invokevirtual 76, 3) := by decide +kernel
theorem dX12_readsLine_93 : decode cX12_readsLine 93 = .ok (.ifCond .le 8, 3) := by decide +kernel
theorem dX12_readsLine_96 : decode cX12_readsLine 96 = .ok (.aload_n 0, 1) := by decide +kernel
theorem dX12_readsLine_97 : decode cX12_readsLine 97 = .ok (.iconst 3, 1) := by decide +kernel
theorem dX12_readsLine_98 : decode cX12_readsLine 98 = .ok (.invokevirtual 143, 3) := by decide +kernel
theorem dX12_readsLine_101 : decode cX12_readsLine 101 = .ok (.aload_n 0, 1) := by decide +kernel
theorem dX12_readsLine_102 : decode cX12_readsLine 102 = .ok (.invokevirtual 146, 3) := by decide +kernel
theorem dX12_readsLine_105 : decode cX12_readsLine 105 = .ok (.iconst 1, 1) := by decide +kernel
theorem dX12_readsLine_106 : decode cX12_readsLine 106 = .ok (.istore 4, 2) := by decide +kernel
theorem dX12_readsLine_108 : decode cX12_readsLine 108 = .ok (.aload_n 0, 1) := by decide +kernel
theorem dX12_readsLine_109 : decode cX12_readsLine 109 = .ok (.bipush 61, 2) := by decide +kernel
theorem dX12_readsLine_111 : decode cX12_readsLine 111 = .ok (.invokevirtual 155, 3) := by decide +kernel
theorem dX12_readsLine_114 : decode cX12_readsLine 114 = .ok (.ifCond .eq 20, 3) := by decide +kernel
theorem dX12_readsLine_117 : decode cX12_readsLine 117 = .ok (.aload_n 0, 1) := by decide +kernel
theorem dX12_readsLine_118 : decode cX12_readsLine 118 = .ok (.invokevirtual 130, 3) := by decide +kernel
theorem dX12_readsLine_121 : decode cX12_readsLine 121 = .ok (.aload_n 0, 1) := by decide +kernel
theorem dX12_readsLine_122 : decode cX12_readsLine 122 = .ok (.iconst 1, 1) := by decide +kernel
theorem dX12_readsLine_123 : decode cX12_readsLine 123 = .ok (.bipush 9, 2) := by decide +kernel
theorem dX12_readsLine_125 : decode cX12_readsLine 125 = .ok (.invokevirtual 149, 3) := by decide +kernel
theorem dX12_readsLine_128 : decode cX12_readsLine 128 = .ok (.istore 4, 2) := by decide +kernel
theorem dX12_readsLine_130 : decode cX12_readsLine 130 = .ok (.aload_n 0, 1) := by decide +kernel
theorem dX12_readsLine_131 : decode cX12_readsLine 131 = .ok (.invokevirtual 146, 3) := by decide +kernel
theorem dX12_readsLine_134 : decode cX12_readsLine 134 = .ok (.aload_n 0, 1) := by decide +kernel
theorem dX12_readsLine_135 : decode cX12_readsLine 135 = .ok (.getfield 123, 3) := by decide +kernel
theorem dX12_readsLine_138 : decode cX12_readsLine 138 = .ok (.ifCond .ne 12, 3) := by decide +kernel
theorem dX12_readsLine_141 : decode cX12_readsLine 141 = .ok (.aload_n 0, 1) := by decide +kernel
theorem dX12_readsLine_142 : decode cX12_readsLine 142 = .ok (.iload_n 1, 1) := by decide +kernel
theorem dX12_readsLine_143 : decode cX12_readsLine 143 = .ok (.iload_n 2, 1) := by decide +kernel
theorem dX12_readsLine_144 : decode cX12_readsLine 144 = .ok (.iload_n 3, 1) := by decide +kernel
theorem dX12_readsLine_145 : decode cX12_readsLine 145 = .ok (.iload 4, 2) := by decide +kernel
theorem dX12_readsLine_147 : decode cX12_readsLine 147 = .ok (.invokevirtual 162, 3) := by decide +kernel
theorem dX12_readsLine_150 : decode cX12_readsLine 150 = .ok (.return_, 1) := by decide +kernel
theorem dX12_readsNet_0 : decode cX12_readsNet 0 = .ok (.aload_n 0, 1) := by decide +kernel
theorem dX12_readsNet_1 : decode cX12_readsNet 1 = .ok (.aload_n 0, 1) := by decide +kernel
theorem dX12_readsNet_2 : decode cX12_readsNet 2 = .ok (.ldc 173, 2) := by decide +kernel
theorem dX12_readsNet_4 : decode cX12_readsNet 4 = .ok (.invokevirtual 175, 3) := by decide +kernel
theorem dX12_readsNet_7 : decode cX12_readsNet 7 = .ok (.invokevirtual 158, 3) := by decide +kernel
theorem dX12_readsNet_10 : decode cX12_readsNet 10 = .ok (.aload_n 0, 1) := by decide +kernel
theorem dX12_readsNet_11 : decode cX12_readsNet 11 = .ok (.iconst 1, 1) := by decide +kernel
theorem dX12_readsNet_12 : decode cX12_readsNet 12 = .ok (.bipush 9, 2) := by decide +kernel
theorem dX12_readsNet_14 : decode cX12_readsNet 14 = .ok (.invokevirtual 149, 3) := by decide +kernel
theorem dX12_readsNet_17 : decode cX12_readsNet 17 = .ok (.istore_n 2, 1) := by decide +kernel
theorem dX12_readsNet_18 : decode cX12_readsNet 18 = .ok (.aload_n 0, 1) := by decide +kernel
theorem dX12_readsNet_19 : decode cX12_readsNet 19 = .ok (.invokevirtual 146, 3) := by decide +kernel
theorem dX12_readsNet_22 : decode cX12_readsNet 22 = .ok (.aload_n 0, 1) := by decide +kernel
theorem dX12_readsNet_23 : decode cX12_readsNet 23 = .ok (.iload_n 1, 1) := by decide +kernel
theorem dX12_readsNet_24 : decode cX12_readsNet 24 = .ok (.invokevirtual 96, 3) := by decide +kernel
theorem dX12_readsNet_27 : decode cX12_readsNet 27 = .ok (.aload_n 0, 1) := by decide +kernel
theorem dX12_readsNet_28 : decode cX12_readsNet 28 = .ok (.getfield 7, 3) := by decide +kernel
theorem dX12_readsNet_31 : decode cX12_readsNet 31 = .ok (.bipush 91, 2) := by decide +kernel
theorem dX12_readsNet_33 : decode cX12_readsNet 33 = .ok (.iload_n 1, 1) := by decide +kernel
theorem dX12_readsNet_34 : decode cX12_readsNet 34 = .ok (.imul, 1) := by decide +kernel
theorem dX12_readsNet_35 : decode cX12_readsNet 35 = .ok (.iload_n 2, 1) := by decide +kernel
theorem dX12_readsNet_36 : decode cX12_readsNet 36 = .ok (.iastore, 1) := by decide +kernel
theorem dX12_readsNet_37 : decode cX12_readsNet 37 = .ok (.iconst 0, 1) := by decide +kernel
theorem dX12_readsNet_38 : decode cX12_readsNet 38 = .ok (.istore_n 3, 1) := by decide +kernel
theorem dX12_readsNet_39 : decode cX12_readsNet 39 = .ok (.iload_n 3, 1) := by decide +kernel
theorem dX12_readsNet_40 : decode cX12_readsNet 40 = .ok (.iload_n 2, 1) := by decide +kernel
theorem dX12_readsNet_41 : decode cX12_readsNet 41 = .ok (.if_icmp .ge 16, 3) := by decide +kernel
theorem dX12_readsNet_44 : decode cX12_readsNet 44 = .ok (.aload_n 0, 1) := by decide +kernel
theorem dX12_readsNet_45 : decode cX12_readsNet 45 = .ok (.iload_n 1, 1) := by decide +kernel
theorem dX12_readsNet_46 : decode cX12_readsNet 46 = .ok (.iload_n 3, 1) := by decide +kernel
theorem dX12_readsNet_47 : decode cX12_readsNet 47 = .ok (.iload_n 3, 1) := by decide +kernel
theorem dX12_readsNet_48 : decode cX12_readsNet 48 = .ok (.invokevirtual 169, 3) := by decide +kernel
theorem dX12_readsNet_51 : decode cX12_readsNet 51 = .ok (.iinc 3 1, 3) := by decide +kernel
theorem dX12_readsNet_54 : decode cX12_readsNet 54 = .ok (.goto (-15), 3) := by decide +kernel
theorem dX12_readsNet_57 : decode cX12_readsNet 57 = .ok (.aload_n 0, 1) := by decide +kernel
theorem dX12_readsNet_58 : decode cX12_readsNet 58 = .ok (.bipush 58, 2) := by decide +kernel
theorem dX12_readsNet_60 : decode cX12_readsNet 60 = .ok (.invokevirtual 155, 3) := by decide +kernel
theorem dX12_readsNet_63 : decode cX12_readsNet 63 = .ok (.ifCond .eq 33, 3) := by decide +kernel
theorem dX12_readsNet_66 : decode cX12_readsNet 66 = .ok (.aload_n 0, 1) := by decide +kernel
theorem dX12_readsNet_67 : decode cX12_readsNet 67 = .ok (.invokevirtual 130, 3) := by decide +kernel
theorem dX12_readsNet_70 : decode cX12_readsNet 70 = .ok (.aload_n 0, 1) := by decide +kernel
theorem dX12_readsNet_71 : decode cX12_readsNet 71 = .ok (.iload_n 1, 1) := by decide +kernel
theorem dX12_readsNet_72 : decode cX12_readsNet 72 = .ok (.invokevirtual 179, 3) := by decide +kernel
theorem dX12_readsNet_75 : decode cX12_readsNet 75 = .ok (.aload_n 0, 1) := by decide +kernel
theorem dX12_readsNet_76 : decode cX12_readsNet 76 = .ok (.bipush 44, 2) := by decide +kernel
theorem dX12_readsNet_78 : decode cX12_readsNet 78 = .ok (.invokevirtual 155, 3) := by decide +kernel
theorem dX12_readsNet_81 : decode cX12_readsNet 81 = .ok (.ifCond .eq 15, 3) := by decide +kernel
theorem dX12_readsNet_84 : decode cX12_readsNet 84 = .ok (.aload_n 0, 1) := by decide +kernel
theorem dX12_readsNet_85 : decode cX12_readsNet 85 = .ok (.invokevirtual 130, 3) := by decide +kernel
theorem dX12_readsNet_88 : decode cX12_readsNet 88 = .ok (.aload_n 0, 1) := by decide +kernel
theorem dX12_readsNet_89 : decode cX12_readsNet 89 = .ok (.iload_n 1, 1) := by decide +kernel
theorem dX12_readsNet_90 : decode cX12_readsNet 90 = .ok (.invokevirtual 179, 3) := by decide +kernel
theorem dX12_readsNet_93 : decode cX12_readsNet 93 = .ok (.goto (-18), 3) := by decide +kernel
theorem dX12_readsNet_96 : decode cX12_readsNet 96 = .ok (.aload_n 0, 1) := by decide +kernel
theorem dX12_readsNet_97 : decode cX12_readsNet 97 = .ok (.aload_n 0, 1) := by decide +kernel
theorem dX12_readsNet_98 : decode cX12_readsNet 98 = .ok (.bipush 59, 2) := by decide +kernel
theorem dX12_readsNet_100 : decode cX12_readsNet 100 = .ok (.invokevirtual 155, 3) := by decide +kernel
theorem dX12_readsNet_103 : decode cX12_readsNet 103 = .ok (.invokevirtual 158, 3) := by decide +kernel
theorem dX12_readsNet_106 : decode cX12_readsNet 106 = .ok (.aload_n 0, 1) := by decide +kernel
theorem dX12_readsNet_107 : decode cX12_readsNet 107 = .ok (.ldc 182, 2) := by decide +kernel
theorem dX12_readsNet_109 : decode cX12_readsNet 109 = .ok (.invokevirtual 175, 3) := by decide +kernel
theorem dX12_readsNet_112 : decode cX12_readsNet 112 = .ok (.ifCond .eq 8, 3) := by decide +kernel
theorem dX12_readsNet_115 : decode cX12_readsNet 115 = .ok (.aload_n 0, 1) := by decide +kernel
theorem dX12_readsNet_116 : decode cX12_readsNet 116 = .ok (.iload_n 1, 1) := by decide +kernel
theorem dX12_readsNet_117 : decode cX12_readsNet 117 = .ok (.invokevirtual 184, 3) := by decide +kernel
theorem dX12_readsNet_120 : decode cX12_readsNet 120 = .ok (.aload_n 0, 1) := by decide +kernel
theorem dX12_readsNet_121 : decode cX12_readsNet 121 = .ok (.getfield 123, 3) := by decide +kernel
theorem dX12_readsNet_124 : decode cX12_readsNet 124 = .ok (.ifCond .ne 15, 3) := by decide +kernel
theorem dX12_readsNet_127 : decode cX12_readsNet 127 = .ok (.aload_n 0, 1) := by decide +kernel
theorem dX12_readsNet_128 : decode cX12_readsNet 128 = .ok (.getfield 115, 3) := by decide +kernel
theorem dX12_readsNet_131 : decode cX12_readsNet 131 = .ok (.ifCond .eq 8, 3) := by decide +kernel
theorem dX12_readsNet_134 : decode cX12_readsNet 134 = .ok (.aload_n 0, 1) := by decide +kernel
theorem dX12_readsNet_135 : decode cX12_readsNet 135 = .ok (.iconst 1, 1) := by decide +kernel
theorem dX12_readsNet_136 : decode cX12_readsNet 136 = .ok (.invokevirtual 143, 3) := by decide +kernel
theorem dX12_readsNet_139 : decode cX12_readsNet 139 = .ok (.return_, 1) := by decide +kernel
theorem dX12_readsRow_0 : decode cX12_readsRow 0 = .ok (.aload_n 0, 1) := by decide +kernel
theorem dX12_readsRow_1 : decode cX12_readsRow 1 = .ok (.invokevirtual 130, 3) := by decide +kernel
theorem dX12_readsRow_4 : decode cX12_readsRow 4 = .ok (.iconst 0, 1) := by decide +kernel
theorem dX12_readsRow_5 : decode cX12_readsRow 5 = .ok (.istore_n 2, 1) := by decide +kernel
theorem dX12_readsRow_6 : decode cX12_readsRow 6 = .ok (.aload_n 0, 1) := by decide +kernel
theorem dX12_readsRow_7 : decode cX12_readsRow 7 = .ok (.getfield 103, 3) := by decide +kernel
theorem dX12_readsRow_10 : decode cX12_readsRow 10 = .ok (.aload_n 0, 1) := by decide +kernel
theorem dX12_readsRow_11 : decode cX12_readsRow 11 = .ok (.getfield 109, 3) := by decide +kernel
theorem dX12_readsRow_14 : decode cX12_readsRow 14 = .ok (.isub, 1) := by decide +kernel
theorem dX12_readsRow_15 : decode cX12_readsRow 15 = .ok (.aload_n 0, 1) := by decide +kernel
theorem dX12_readsRow_16 : decode cX12_readsRow 16 = .ok (.iload_n 1, 1) := by decide +kernel
theorem dX12_readsRow_17 : decode cX12_readsRow 17 = .ok (.invokevirtual 63, 3) := by decide +kernel
theorem dX12_readsRow_20 : decode cX12_readsRow 20 = .ok (.if_icmp .ne 7, 3) := by decide +kernel
theorem dX12_readsRow_23 : decode cX12_readsRow 23 = .ok (.iconst 1, 1) := by decide +kernel
theorem dX12_readsRow_24 : decode cX12_readsRow 24 = .ok (.goto 4, 3) := by decide +kernel
theorem dX12_readsRow_27 : decode cX12_readsRow 27 = .ok (.iconst 0, 1) := by decide +kernel
theorem dX12_readsRow_28 : decode cX12_readsRow 28 = .ok (.istore_n 3, 1) := by decide +kernel
theorem dX12_readsRow_29 : decode cX12_readsRow 29 = .ok (.aload_n 0, 1) := by decide +kernel
theorem dX12_readsRow_30 : decode cX12_readsRow 30 = .ok (.getfield 109, 3) := by decide +kernel
theorem dX12_readsRow_33 : decode cX12_readsRow 33 = .ok (.istore 4, 2) := by decide +kernel
theorem dX12_readsRow_35 : decode cX12_readsRow 35 = .ok (.iload 4, 2) := by decide +kernel
theorem dX12_readsRow_37 : decode cX12_readsRow 37 = .ok (.aload_n 0, 1) := by decide +kernel
theorem dX12_readsRow_38 : decode cX12_readsRow 38 = .ok (.getfield 103, 3) := by decide +kernel
theorem dX12_readsRow_41 : decode cX12_readsRow 41 = .ok (.if_icmp .ge 65, 3) := by decide +kernel
theorem dX12_readsRow_44 : decode cX12_readsRow 44 = .ok (.aload_n 0, 1) := by decide +kernel
theorem dX12_readsRow_45 : decode cX12_readsRow 45 = .ok (.getfield 115, 3) := by decide +kernel
theorem dX12_readsRow_48 : decode cX12_readsRow 48 = .ok (.iconst 2, 1) := by decide +kernel
theorem dX12_readsRow_49 : decode cX12_readsRow 49 = .ok (.if_icmp .ne 57, 3) := by decide +kernel
theorem dX12_readsRow_52 : decode cX12_readsRow 52 = .ok (.aload_n 0, 1) := by decide +kernel
theorem dX12_readsRow_53 : decode cX12_readsRow 53 = .ok (.getfield 19, 3) := by decide +kernel
theorem dX12_readsRow_56 : decode cX12_readsRow 56 = .ok (.iload 4, 2) := by decide +kernel
theorem dX12_readsRow_58 : decode cX12_readsRow 58 = .ok (.iaload, 1) := by decide +kernel
theorem dX12_readsRow_59 : decode cX12_readsRow 59 = .ok (.bipush 48, 2) := by decide +kernel
theorem dX12_readsRow_61 : decode cX12_readsRow 61 = .ok (.isub, 1) := by decide +kernel
theorem dX12_readsRow_62 : decode cX12_readsRow 62 = .ok (.istore 5, 2) := by decide +kernel
theorem dX12_readsRow_64 : decode cX12_readsRow 64 = .ok (.iload_n 3, 1) := by decide +kernel
theorem dX12_readsRow_65 : decode cX12_readsRow 65 = .ok (.ifCond .eq 26, 3) := by decide +kernel
theorem dX12_readsRow_68 : decode cX12_readsRow 68 = .ok (.iload 5, 2) := by decide +kernel
theorem dX12_readsRow_70 : decode cX12_readsRow 70 = .ok (.aload_n 0, 1) := by decide +kernel
theorem dX12_readsRow_71 : decode cX12_readsRow 71 = .ok (.iload_n 1, 1) := by decide +kernel
theorem dX12_readsRow_72 : decode cX12_readsRow 72 = .ok (.invokevirtual 63, 3) := by decide +kernel
theorem dX12_readsRow_75 : decode cX12_readsRow 75 = .ok (.if_icmp .ge 16, 3) := by decide +kernel
theorem dX12_readsRow_78 : decode cX12_readsRow 78 = .ok (.iload_n 2, 1) := by decide +kernel
theorem dX12_readsRow_79 : decode cX12_readsRow 79 = .ok (.iload 5, 2) := by decide +kernel
theorem dX12_readsRow_81 : decode cX12_readsRow 81 = .ok (.invokestatic 166, 3) := by decide +kernel
theorem dX12_readsRow_84 : decode cX12_readsRow 84 = .ok (.ifCond .ne 7, 3) := by decide +kernel
theorem dX12_readsRow_87 : decode cX12_readsRow 87 = .ok (.iconst 1, 1) := by decide +kernel
theorem dX12_readsRow_88 : decode cX12_readsRow 88 = .ok (.goto 4, 3) := by decide +kernel
theorem dX12_readsRow_91 : decode cX12_readsRow 91 = .ok (.iconst 0, 1) := by decide +kernel
theorem dX12_readsRow_92 : decode cX12_readsRow 92 = .ok (.istore_n 3, 1) := by decide +kernel
theorem dX12_readsRow_93 : decode cX12_readsRow 93 = .ok (.iload_n 2, 1) := by decide +kernel
theorem dX12_readsRow_94 : decode cX12_readsRow 94 = .ok (.iconst 1, 1) := by decide +kernel
theorem dX12_readsRow_95 : decode cX12_readsRow 95 = .ok (.iload 5, 2) := by decide +kernel
theorem dX12_readsRow_97 : decode cX12_readsRow 97 = .ok (.ishl, 1) := by decide +kernel
theorem dX12_readsRow_98 : decode cX12_readsRow 98 = .ok (.ior, 1) := by decide +kernel
theorem dX12_readsRow_99 : decode cX12_readsRow 99 = .ok (.istore_n 2, 1) := by decide +kernel
theorem dX12_readsRow_100 : decode cX12_readsRow 100 = .ok (.iinc 4 1, 3) := by decide +kernel
theorem dX12_readsRow_103 : decode cX12_readsRow 103 = .ok (.goto (-68), 3) := by decide +kernel
theorem dX12_readsRow_106 : decode cX12_readsRow 106 = .ok (.aload_n 0, 1) := by decide +kernel
theorem dX12_readsRow_107 : decode cX12_readsRow 107 = .ok (.getfield 115, 3) := by decide +kernel
theorem dX12_readsRow_110 : decode cX12_readsRow 110 = .ok (.iconst 2, 1) := by decide +kernel
theorem dX12_readsRow_111 : decode cX12_readsRow 111 = .ok (.if_icmp .eq 11, 3) := by decide +kernel
theorem dX12_readsRow_114 : decode cX12_readsRow 114 = .ok (.aload_n 0, 1) := by decide +kernel
theorem dX12_readsRow_115 : decode cX12_readsRow 115 = .ok (.iconst 1, 1) := by decide +kernel
theorem dX12_readsRow_116 : decode cX12_readsRow 116 = .ok (.invokevirtual 143, 3) := by decide +kernel
theorem dX12_readsRow_119 : decode cX12_readsRow 119 = .ok (.goto 12, 3) := by decide +kernel
theorem dX12_readsRow_122 : decode cX12_readsRow 122 = .ok (.iload_n 3, 1) := by decide +kernel
theorem dX12_readsRow_123 : decode cX12_readsRow 123 = .ok (.ifCond .ne 8, 3) := by decide +kernel
theorem dX12_readsRow_126 : decode cX12_readsRow 126 = .ok (.aload_n 0, 1) := by decide +kernel
theorem dX12_readsRow_127 : decode cX12_readsRow 127 = .ok (.iconst 5, 1) := by decide +kernel
theorem dX12_readsRow_128 : decode cX12_readsRow 128 = .ok (.invokevirtual 143, 3) := by decide +kernel
theorem dX12_readsRow_131 : decode cX12_readsRow 131 = .ok (.iconst 0, 1) := by decide +kernel
theorem dX12_readsRow_132 : decode cX12_readsRow 132 = .ok (.istore 4, 2) := by decide +kernel
theorem dX12_readsRow_134 : decode cX12_readsRow 134 = .ok (.iload 4, 2) := by decide +kernel
theorem dX12_readsRow_136 : decode cX12_readsRow 136 = .ok (.aload_n 0, 1) := by decide +kernel
theorem dX12_readsRow_137 : decode cX12_readsRow 137 = .ok (.iload_n 1, 1) := by decide +kernel
theorem dX12_readsRow_138 : decode cX12_readsRow 138 = .ok (.invokevirtual 63, 3) := by decide +kernel
theorem dX12_readsRow_141 : decode cX12_readsRow 141 = .ok (.if_icmp .ge 38, 3) := by decide +kernel
theorem dX12_readsRow_144 : decode cX12_readsRow 144 = .ok (.aload_n 0, 1) := by decide +kernel
theorem dX12_readsRow_145 : decode cX12_readsRow 145 = .ok (.getfield 123, 3) := by decide +kernel
theorem dX12_readsRow_148 : decode cX12_readsRow 148 = .ok (.ifCond .ne 31, 3) := by decide +kernel
theorem dX12_readsRow_151 : decode cX12_readsRow 151 = .ok (.aload_n 0, 1) := by decide +kernel
theorem dX12_readsRow_152 : decode cX12_readsRow 152 = .ok (.iload_n 1, 1) := by decide +kernel
theorem dX12_readsRow_153 : decode cX12_readsRow 153 = .ok (.iload 4, 2) := by decide +kernel
theorem dX12_readsRow_155 : decode cX12_readsRow 155 = .ok (.aload_n 0, 1) := by decide +kernel
theorem dX12_readsRow_156 : decode cX12_readsRow 156 = .ok (.getfield 19, 3) := by decide +kernel
theorem dX12_readsRow_159 : decode cX12_readsRow 159 = .ok (.aload_n 0, 1) := by decide +kernel
theorem dX12_readsRow_160 : decode cX12_readsRow 160 = .ok (.getfield 109, 3) := by decide +kernel
theorem dX12_readsRow_163 : decode cX12_readsRow 163 = .ok (.iload 4, 2) := by decide +kernel
theorem dX12_readsRow_165 : decode cX12_readsRow 165 = .ok (.iadd, 1) := by decide +kernel
theorem dX12_readsRow_166 : decode cX12_readsRow 166 = .ok (.iaload, 1) := by decide +kernel
theorem dX12_readsRow_167 : decode cX12_readsRow 167 = .ok (.bipush 48, 2) := by decide +kernel
theorem dX12_readsRow_169 : decode cX12_readsRow 169 = .ok (.isub, 1) := by decide +kernel
theorem dX12_readsRow_170 : decode cX12_readsRow 170 = .ok (.invokevirtual 169, 3) := by decide +kernel
theorem dX12_readsRow_173 : decode cX12_readsRow 173 = .ok (.iinc 4 1, 3) := by decide +kernel
theorem dX12_readsRow_176 : decode cX12_readsRow 176 = .ok (.goto (-42), 3) := by decide +kernel
theorem dX12_readsRow_179 : decode cX12_readsRow 179 = .ok (.aload_n 0, 1) := by decide +kernel
theorem dX12_readsRow_180 : decode cX12_readsRow 180 = .ok (.invokevirtual 146, 3) := by decide +kernel
theorem dX12_readsRow_183 : decode cX12_readsRow 183 = .ok (.aload_n 0, 1) := by decide +kernel
theorem dX12_readsRow_184 : decode cX12_readsRow 184 = .ok (.aload_n 0, 1) := by decide +kernel
theorem dX12_readsRow_185 : decode cX12_readsRow 185 = .ok (.bipush 59, 2) := by decide +kernel
theorem dX12_readsRow_187 : decode cX12_readsRow 187 = .ok (.invokevirtual 155, 3) := by decide +kernel
theorem dX12_readsRow_190 : decode cX12_readsRow 190 = .ok (.invokevirtual 158, 3) := by decide +kernel
theorem dX12_readsRow_193 : decode cX12_readsRow 193 = .ok (.return_, 1) := by decide +kernel
theorem dX12_remembers_0 : decode cX12_remembers 0 = .ok (.iconst 0, 1) := by decide +kernel
theorem dX12_remembers_1 : decode cX12_remembers 1 = .ok (.istore_n 1, 1) := by decide +kernel
theorem dX12_remembers_2 : decode cX12_remembers 2 = .ok (.iload_n 1, 1) := by decide +kernel
theorem dX12_remembers_3 : decode cX12_remembers 3 = .ok (.sipush 273, 3) := by decide +kernel
theorem dX12_remembers_6 : decode cX12_remembers 6 = .ok (.if_icmp .ge 21, 3) := by decide +kernel
theorem dX12_remembers_9 : decode cX12_remembers 9 = .ok (.aload_n 0, 1) := by decide +kernel
theorem dX12_remembers_10 : decode cX12_remembers 10 = .ok (.getfield 13, 3) := by decide +kernel
theorem dX12_remembers_13 : decode cX12_remembers 13 = .ok (.iload_n 1, 1) := by decide +kernel
theorem dX12_remembers_14 : decode cX12_remembers 14 = .ok (.aload_n 0, 1) := by decide +kernel
theorem dX12_remembers_15 : decode cX12_remembers 15 = .ok (.getfield 7, 3) := by decide +kernel
theorem dX12_remembers_18 : decode cX12_remembers 18 = .ok (.iload_n 1, 1) := by decide +kernel
theorem dX12_remembers_19 : decode cX12_remembers 19 = .ok (.iaload, 1) := by decide +kernel
theorem dX12_remembers_20 : decode cX12_remembers 20 = .ok (.iastore, 1) := by decide +kernel
theorem dX12_remembers_21 : decode cX12_remembers 21 = .ok (.iinc 1 1, 3) := by decide +kernel
theorem dX12_remembers_24 : decode cX12_remembers 24 = .ok (.goto (-22), 3) := by decide +kernel
theorem dX12_remembers_27 : decode cX12_remembers 27 = .ok (.return_, 1) := by decide +kernel
theorem dX12_reverse_0 : decode cX12_reverse 0 = .ok (.aload_n 0, 1) := by decide +kernel
theorem dX12_reverse_1 : decode cX12_reverse 1 = .ok (.iload_n 1, 1) := by decide +kernel
theorem dX12_reverse_2 : decode cX12_reverse 2 = .ok (.invokevirtual 67, 3) := by decide +kernel
theorem dX12_reverse_5 : decode cX12_reverse 5 = .ok (.ifCond .ne 6, 3) := by decide +kernel
theorem dX12_reverse_8 : decode cX12_reverse 8 = .ok (.bipush (-2), 2) := by decide +kernel
theorem dX12_reverse_10 : decode cX12_reverse 10 = .ok (.ireturn, 1) := by decide +kernel
theorem dX12_reverse_11 : decode cX12_reverse 11 = .ok (.aload_n 0, 1) := by decide +kernel
theorem dX12_reverse_12 : decode cX12_reverse 12 = .ok (.iload_n 1, 1) := by decide +kernel
theorem dX12_reverse_13 : decode cX12_reverse 13 = .ok (.invokevirtual 248, 3) := by decide +kernel
theorem dX12_reverse_16 : decode cX12_reverse 16 = .ok (.iconst 0, 1) := by decide +kernel
theorem dX12_reverse_17 : decode cX12_reverse 17 = .ok (.istore_n 2, 1) := by decide +kernel
theorem dX12_reverse_18 : decode cX12_reverse 18 = .ok (.iload_n 2, 1) := by decide +kernel
theorem dX12_reverse_19 : decode cX12_reverse 19 = .ok (.aload_n 0, 1) := by decide +kernel
theorem dX12_reverse_20 : decode cX12_reverse 20 = .ok (.iload_n 1, 1) := by decide +kernel
theorem dX12_reverse_21 : decode cX12_reverse 21 = .ok (.invokevirtual 63, 3) := by decide +kernel
theorem dX12_reverse_24 : decode cX12_reverse 24 = .ok (.iconst 1, 1) := by decide +kernel
theorem dX12_reverse_25 : decode cX12_reverse 25 = .ok (.isub, 1) := by decide +kernel
theorem dX12_reverse_26 : decode cX12_reverse 26 = .ok (.iload_n 2, 1) := by decide +kernel
theorem dX12_reverse_27 : decode cX12_reverse 27 = .ok (.isub, 1) := by decide +kernel
theorem dX12_reverse_28 : decode cX12_reverse 28 = .ok (.if_icmp .ge 23, 3) := by decide +kernel
theorem dX12_reverse_31 : decode cX12_reverse 31 = .ok (.aload_n 0, 1) := by decide +kernel
theorem dX12_reverse_32 : decode cX12_reverse 32 = .ok (.iload_n 2, 1) := by decide +kernel
theorem dX12_reverse_33 : decode cX12_reverse 33 = .ok (.aload_n 0, 1) := by decide +kernel
theorem dX12_reverse_34 : decode cX12_reverse 34 = .ok (.iload_n 1, 1) := by decide +kernel
theorem dX12_reverse_35 : decode cX12_reverse 35 = .ok (.invokevirtual 63, 3) := by decide +kernel
theorem dX12_reverse_38 : decode cX12_reverse 38 = .ok (.iconst 1, 1) := by decide +kernel
theorem dX12_reverse_39 : decode cX12_reverse 39 = .ok (.isub, 1) := by decide +kernel
theorem dX12_reverse_40 : decode cX12_reverse 40 = .ok (.iload_n 2, 1) := by decide +kernel
theorem dX12_reverse_41 : decode cX12_reverse 41 = .ok (.isub, 1) := by decide +kernel
theorem dX12_reverse_42 : decode cX12_reverse 42 = .ok (.invokevirtual 317, 3) := by decide +kernel
theorem dX12_reverse_45 : decode cX12_reverse 45 = .ok (.iinc 2 1, 3) := by decide +kernel
theorem dX12_reverse_48 : decode cX12_reverse 48 = .ok (.goto (-30), 3) := by decide +kernel
theorem dX12_reverse_51 : decode cX12_reverse 51 = .ok (.aload_n 0, 1) := by decide +kernel
theorem dX12_reverse_52 : decode cX12_reverse 52 = .ok (.iload_n 1, 1) := by decide +kernel
theorem dX12_reverse_53 : decode cX12_reverse 53 = .ok (.invokevirtual 320, 3) := by decide +kernel
theorem dX12_reverse_56 : decode cX12_reverse 56 = .ok (.istore_n 2, 1) := by decide +kernel
theorem dX12_reverse_57 : decode cX12_reverse 57 = .ok (.aload_n 0, 1) := by decide +kernel
theorem dX12_reverse_58 : decode cX12_reverse 58 = .ok (.iload_n 1, 1) := by decide +kernel
theorem dX12_reverse_59 : decode cX12_reverse 59 = .ok (.iconst 0, 1) := by decide +kernel
theorem dX12_reverse_60 : decode cX12_reverse 60 = .ok (.invokevirtual 217, 3) := by decide +kernel
theorem dX12_reverse_63 : decode cX12_reverse 63 = .ok (.ireturn, 1) := by decide +kernel
theorem dX12_row_0 : decode cX12_row 0 = .ok (.aload_n 0, 1) := by decide +kernel
theorem dX12_row_1 : decode cX12_row 1 = .ok (.iload_n 1, 1) := by decide +kernel
theorem dX12_row_2 : decode cX12_row 2 = .ok (.iload_n 2, 1) := by decide +kernel
theorem dX12_row_3 : decode cX12_row 3 = .ok (.invokevirtual 70, 3) := by decide +kernel
theorem dX12_row_6 : decode cX12_row 6 = .ok (.ifCond .eq 12, 3) := by decide +kernel
theorem dX12_row_9 : decode cX12_row 9 = .ok (.aload_n 0, 1) := by decide +kernel
theorem dX12_row_10 : decode cX12_row 10 = .ok (.iload_n 1, 1) := by decide +kernel
theorem dX12_row_11 : decode cX12_row 11 = .ok (.iload_n 2, 1) := by decide +kernel
theorem dX12_row_12 : decode cX12_row 12 = .ok (.invokevirtual 217, 3) := by decide +kernel
theorem dX12_row_15 : decode cX12_row 15 = .ok (.goto 5, 3) := by decide +kernel
theorem dX12_row_18 : decode cX12_row 18 = .ok (.bipush (-2), 2) := by decide +kernel
theorem dX12_row_20 : decode cX12_row 20 = .ok (.ireturn, 1) := by decide +kernel
theorem dX12_rowsOfBand_0 : decode cX12_rowsOfBand 0 = .ok (.aload_n 0, 1) := by decide +kernel
theorem dX12_rowsOfBand_1 : decode cX12_rowsOfBand 1 = .ok (.iconst 0, 1) := by decide +kernel
theorem dX12_rowsOfBand_2 : decode cX12_rowsOfBand 2 = .ok (.putfield 283, 3) := by decide +kernel
theorem dX12_rowsOfBand_5 : decode cX12_rowsOfBand 5 = .ok (.aload_n 0, 1) := by decide +kernel
theorem dX12_rowsOfBand_6 : decode cX12_rowsOfBand 6 = .ok (.iconst 0, 1) := by decide +kernel
theorem dX12_rowsOfBand_7 : decode cX12_rowsOfBand 7 = .ok (.putfield 286, 3) := by decide +kernel
theorem dX12_rowsOfBand_10 : decode cX12_rowsOfBand 10 = .ok (.aload_n 0, 1) := by decide +kernel
theorem dX12_rowsOfBand_11 : decode cX12_rowsOfBand 11 = .ok (.iload_n 1, 1) := by decide +kernel
theorem dX12_rowsOfBand_12 : decode cX12_rowsOfBand 12 = .ok (.iconst 0, 1) := by decide +kernel
theorem dX12_rowsOfBand_13 : decode cX12_rowsOfBand 13 = .ok (.iconst 0, 1) := by decide +kernel
theorem dX12_rowsOfBand_14 : decode cX12_rowsOfBand 14 = .ok (.iload_n 2, 1) := by decide +kernel
theorem dX12_rowsOfBand_15 : decode cX12_rowsOfBand 15 = .ok (.iload_n 3, 1) := by decide +kernel
theorem dX12_rowsOfBand_16 : decode cX12_rowsOfBand 16 = .ok (.invokevirtual 289, 3) := by decide +kernel
theorem dX12_rowsOfBand_19 : decode cX12_rowsOfBand 19 = .ok (.istore 4, 2) := by decide +kernel
theorem dX12_rowsOfBand_21 : decode cX12_rowsOfBand 21 = .ok (.aload_n 0, 1) := by decide +kernel
theorem dX12_rowsOfBand_22 : decode cX12_rowsOfBand 22 = .ok (.getfield 283, 3) := by decide +kernel
theorem dX12_rowsOfBand_25 : decode cX12_rowsOfBand 25 = .ok (.ireturn, 1) := by decide +kernel
theorem dX12_rowsOfLeast_0 : decode cX12_rowsOfLeast 0 = .ok (.aload_n 0, 1) := by decide +kernel
theorem dX12_rowsOfLeast_1 : decode cX12_rowsOfLeast 1 = .ok (.getfield 266, 3) := by decide +kernel
theorem dX12_rowsOfLeast_4 : decode cX12_rowsOfLeast 4 = .ok (.istore_n 2, 1) := by decide +kernel
theorem dX12_rowsOfLeast_5 : decode cX12_rowsOfLeast 5 = .ok (.iload_n 2, 1) := by decide +kernel
theorem dX12_rowsOfLeast_6 : decode cX12_rowsOfLeast 6 = .ok (.ifCond .lt 107, 3) := by decide +kernel
theorem dX12_rowsOfLeast_9 : decode cX12_rowsOfLeast 9 = .ok (.aload_n 0, 1) := by decide +kernel
theorem dX12_rowsOfLeast_10 : decode cX12_rowsOfLeast 10 = .ok (.getfield 32, 3) := by decide +kernel
theorem dX12_rowsOfLeast_13 : decode cX12_rowsOfLeast 13 = .ok (.iload_n 2, 1) := by decide +kernel
theorem dX12_rowsOfLeast_14 : decode cX12_rowsOfLeast 14 = .ok (.iload_n 2, 1) := by decide +kernel
theorem dX12_rowsOfLeast_15 : decode cX12_rowsOfLeast 15 = .ok (.aload_n 0, 1) := by decide +kernel
theorem dX12_rowsOfLeast_16 : decode cX12_rowsOfLeast 16 = .ok (.getfield 266, 3) := by decide +kernel
theorem dX12_rowsOfLeast_19 : decode cX12_rowsOfLeast 19 = .ok (.if_icmp .ne 7, 3) := by decide +kernel
theorem dX12_rowsOfLeast_22 : decode cX12_rowsOfLeast 22 = .ok (.iconst 1, 1) := by decide +kernel
theorem dX12_rowsOfLeast_23 : decode cX12_rowsOfLeast 23 = .ok (.goto 4, 3) := by decide +kernel
theorem dX12_rowsOfLeast_26 : decode cX12_rowsOfLeast 26 = .ok (.iconst 0, 1) := by decide +kernel
theorem dX12_rowsOfLeast_27 : decode cX12_rowsOfLeast 27 = .ok (.iastore, 1) := by decide +kernel
theorem dX12_rowsOfLeast_28 : decode cX12_rowsOfLeast 28 = .ok (.iconst 0, 1) := by decide +kernel
theorem dX12_rowsOfLeast_29 : decode cX12_rowsOfLeast 29 = .ok (.istore_n 3, 1) := by decide +kernel
theorem dX12_rowsOfLeast_30 : decode cX12_rowsOfLeast 30 = .ok (.iload_n 3, 1) := by decide +kernel
theorem dX12_rowsOfLeast_31 : decode cX12_rowsOfLeast 31 = .ok (.aload_n 0, 1) := by decide +kernel
theorem dX12_rowsOfLeast_32 : decode cX12_rowsOfLeast 32 = .ok (.iload_n 1, 1) := by decide +kernel
theorem dX12_rowsOfLeast_33 : decode cX12_rowsOfLeast 33 = .ok (.invokevirtual 63, 3) := by decide +kernel
theorem dX12_rowsOfLeast_36 : decode cX12_rowsOfLeast 36 = .ok (.if_icmp .ge 71, 3) := by decide +kernel
theorem dX12_rowsOfLeast_39 : decode cX12_rowsOfLeast 39 = .ok (.aload_n 0, 1) := by decide +kernel
theorem dX12_rowsOfLeast_40 : decode cX12_rowsOfLeast 40 = .ok (.getfield 32, 3) := by decide +kernel
theorem dX12_rowsOfLeast_43 : decode cX12_rowsOfLeast 43 = .ok (.iload_n 2, 1) := by decide +kernel
theorem dX12_rowsOfLeast_44 : decode cX12_rowsOfLeast 44 = .ok (.dup2, 1) := by decide +kernel
theorem dX12_rowsOfLeast_45 : decode cX12_rowsOfLeast 45 = .ok (.iaload, 1) := by decide +kernel
theorem dX12_rowsOfLeast_46 : decode cX12_rowsOfLeast 46 = .ok (.iload_n 2, 1) := by decide +kernel
theorem dX12_rowsOfLeast_47 : decode cX12_rowsOfLeast 47 = .ok (.iload_n 3, 1) := by decide +kernel
theorem dX12_rowsOfLeast_48 : decode cX12_rowsOfLeast 48 = .ok (.invokestatic 166, 3) := by decide +kernel
theorem dX12_rowsOfLeast_51 : decode cX12_rowsOfLeast 51 = .ok (.ifCond .ne 47, 3) := by decide +kernel
theorem dX12_rowsOfLeast_54 : decode cX12_rowsOfLeast 54 = .ok (.aload_n 0, 1) := by decide +kernel
theorem dX12_rowsOfLeast_55 : decode cX12_rowsOfLeast 55 = .ok (.getfield 35, 3) := by decide +kernel
theorem dX12_rowsOfLeast_58 : decode cX12_rowsOfLeast 58 = .ok (.bipush 9, 2) := by decide +kernel
theorem dX12_rowsOfLeast_60 : decode cX12_rowsOfLeast 60 = .ok (.iload_n 2, 1) := by decide +kernel
theorem dX12_rowsOfLeast_61 : decode cX12_rowsOfLeast 61 = .ok (.imul, 1) := by decide +kernel
theorem dX12_rowsOfLeast_62 : decode cX12_rowsOfLeast 62 = .ok (.iload_n 3, 1) := by decide +kernel
theorem dX12_rowsOfLeast_63 : decode cX12_rowsOfLeast 63 = .ok (.iadd, 1) := by decide +kernel
theorem dX12_rowsOfLeast_64 : decode cX12_rowsOfLeast 64 = .ok (.iaload, 1) := by decide +kernel
theorem dX12_rowsOfLeast_65 : decode cX12_rowsOfLeast 65 = .ok (.aload_n 0, 1) := by decide +kernel
theorem dX12_rowsOfLeast_66 : decode cX12_rowsOfLeast 66 = .ok (.getfield 29, 3) := by decide +kernel
theorem dX12_rowsOfLeast_69 : decode cX12_rowsOfLeast 69 = .ok (.iload_n 2, 1) := by decide +kernel
theorem dX12_rowsOfLeast_70 : decode cX12_rowsOfLeast 70 = .ok (.iconst 1, 1) := by decide +kernel
theorem dX12_rowsOfLeast_71 : decode cX12_rowsOfLeast 71 = .ok (.iload_n 3, 1) := by decide +kernel
theorem dX12_rowsOfLeast_72 : decode cX12_rowsOfLeast 72 = .ok (.ishl, 1) := by decide +kernel
theorem dX12_rowsOfLeast_73 : decode cX12_rowsOfLeast 73 = .ok (.ior, 1) := by decide +kernel
theorem dX12_rowsOfLeast_74 : decode cX12_rowsOfLeast 74 = .ok (.iaload, 1) := by decide +kernel
theorem dX12_rowsOfLeast_75 : decode cX12_rowsOfLeast 75 = .ok (.iadd, 1) := by decide +kernel
theorem dX12_rowsOfLeast_76 : decode cX12_rowsOfLeast 76 = .ok (.aload_n 0, 1) := by decide +kernel
theorem dX12_rowsOfLeast_77 : decode cX12_rowsOfLeast 77 = .ok (.getfield 29, 3) := by decide +kernel
theorem dX12_rowsOfLeast_80 : decode cX12_rowsOfLeast 80 = .ok (.iload_n 2, 1) := by decide +kernel
theorem dX12_rowsOfLeast_81 : decode cX12_rowsOfLeast 81 = .ok (.iaload, 1) := by decide +kernel
theorem dX12_rowsOfLeast_82 : decode cX12_rowsOfLeast 82 = .ok (.if_icmp .ne 16, 3) := by decide +kernel
theorem dX12_rowsOfLeast_85 : decode cX12_rowsOfLeast 85 = .ok (.aload_n 0, 1) := by decide +kernel
theorem dX12_rowsOfLeast_86 : decode cX12_rowsOfLeast 86 = .ok (.getfield 32, 3) := by decide +kernel
theorem dX12_rowsOfLeast_89 : decode cX12_rowsOfLeast 89 = .ok (.iload_n 2, 1) := by decide +kernel
theorem dX12_rowsOfLeast_90 : decode cX12_rowsOfLeast 90 = .ok (.iconst 1, 1) := by decide +kernel
theorem dX12_rowsOfLeast_91 : decode cX12_rowsOfLeast 91 = .ok (.iload_n 3, 1) := by decide +kernel
theorem dX12_rowsOfLeast_92 : decode cX12_rowsOfLeast 92 = .ok (.ishl, 1) := by decide +kernel
theorem dX12_rowsOfLeast_93 : decode cX12_rowsOfLeast 93 = .ok (.ior, 1) := by decide +kernel
theorem dX12_rowsOfLeast_94 : decode cX12_rowsOfLeast 94 = .ok (.iaload, 1) := by decide +kernel
theorem dX12_rowsOfLeast_95 : decode cX12_rowsOfLeast 95 = .ok (.goto 4, 3) := by decide +kernel
theorem dX12_rowsOfLeast_98 : decode cX12_rowsOfLeast 98 = .ok (.iconst 0, 1) := by decide +kernel
theorem dX12_rowsOfLeast_99 : decode cX12_rowsOfLeast 99 = .ok (.iadd, 1) := by decide +kernel
theorem dX12_rowsOfLeast_100 : decode cX12_rowsOfLeast 100 = .ok (.iastore, 1) := by decide +kernel
theorem dX12_rowsOfLeast_101 : decode cX12_rowsOfLeast 101 = .ok (.iinc 3 1, 3) := by decide +kernel
theorem dX12_rowsOfLeast_104 : decode cX12_rowsOfLeast 104 = .ok (.goto (-74), 3) := by decide +kernel
theorem dX12_rowsOfLeast_107 : decode cX12_rowsOfLeast 107 = .ok (.iinc 2 (-1), 3) := by decide +kernel
theorem dX12_rowsOfLeast_110 : decode cX12_rowsOfLeast 110 = .ok (.goto (-105), 3) := by decide +kernel
theorem dX12_rowsOfLeast_113 : decode cX12_rowsOfLeast 113 = .ok (.aload_n 0, 1) := by decide +kernel
theorem dX12_rowsOfLeast_114 : decode cX12_rowsOfLeast 114 = .ok (.getfield 32, 3) := by decide +kernel
theorem dX12_rowsOfLeast_117 : decode cX12_rowsOfLeast 117 = .ok (.iconst 0, 1) := by decide +kernel
theorem dX12_rowsOfLeast_118 : decode cX12_rowsOfLeast 118 = .ok (.iaload, 1) := by decide +kernel
theorem dX12_rowsOfLeast_119 : decode cX12_rowsOfLeast 119 = .ok (.ireturn, 1) := by decide +kernel
theorem dX12_rowsWithin_0 : decode cX12_rowsWithin 0 = .ok (.aload_n 0, 1) := by decide +kernel
theorem dX12_rowsWithin_1 : decode cX12_rowsWithin 1 = .ok (.getfield 266, 3) := by decide +kernel
theorem dX12_rowsWithin_4 : decode cX12_rowsWithin 4 = .ok (.istore_n 3, 1) := by decide +kernel
theorem dX12_rowsWithin_5 : decode cX12_rowsWithin 5 = .ok (.iload_n 3, 1) := by decide +kernel
theorem dX12_rowsWithin_6 : decode cX12_rowsWithin 6 = .ok (.ifCond .lt 96, 3) := by decide +kernel
theorem dX12_rowsWithin_9 : decode cX12_rowsWithin 9 = .ok (.aload_n 0, 1) := by decide +kernel
theorem dX12_rowsWithin_10 : decode cX12_rowsWithin 10 = .ok (.getfield 32, 3) := by decide +kernel
theorem dX12_rowsWithin_13 : decode cX12_rowsWithin 13 = .ok (.iload_n 3, 1) := by decide +kernel
theorem dX12_rowsWithin_14 : decode cX12_rowsWithin 14 = .ok (.iload_n 3, 1) := by decide +kernel
theorem dX12_rowsWithin_15 : decode cX12_rowsWithin 15 = .ok (.aload_n 0, 1) := by decide +kernel
theorem dX12_rowsWithin_16 : decode cX12_rowsWithin 16 = .ok (.getfield 266, 3) := by decide +kernel
theorem dX12_rowsWithin_19 : decode cX12_rowsWithin 19 = .ok (.if_icmp .ne 7, 3) := by decide +kernel
theorem dX12_rowsWithin_22 : decode cX12_rowsWithin 22 = .ok (.iconst 1, 1) := by decide +kernel
theorem dX12_rowsWithin_23 : decode cX12_rowsWithin 23 = .ok (.goto 4, 3) := by decide +kernel
theorem dX12_rowsWithin_26 : decode cX12_rowsWithin 26 = .ok (.iconst 0, 1) := by decide +kernel
theorem dX12_rowsWithin_27 : decode cX12_rowsWithin 27 = .ok (.iastore, 1) := by decide +kernel
theorem dX12_rowsWithin_28 : decode cX12_rowsWithin 28 = .ok (.iconst 0, 1) := by decide +kernel
theorem dX12_rowsWithin_29 : decode cX12_rowsWithin 29 = .ok (.istore 4, 2) := by decide +kernel
theorem dX12_rowsWithin_31 : decode cX12_rowsWithin 31 = .ok (.iload 4, 2) := by decide +kernel
theorem dX12_rowsWithin_33 : decode cX12_rowsWithin 33 = .ok (.aload_n 0, 1) := by decide +kernel
theorem dX12_rowsWithin_34 : decode cX12_rowsWithin 34 = .ok (.iload_n 1, 1) := by decide +kernel
theorem dX12_rowsWithin_35 : decode cX12_rowsWithin 35 = .ok (.invokevirtual 63, 3) := by decide +kernel
theorem dX12_rowsWithin_38 : decode cX12_rowsWithin 38 = .ok (.if_icmp .ge 58, 3) := by decide +kernel
theorem dX12_rowsWithin_41 : decode cX12_rowsWithin 41 = .ok (.aload_n 0, 1) := by decide +kernel
theorem dX12_rowsWithin_42 : decode cX12_rowsWithin 42 = .ok (.getfield 32, 3) := by decide +kernel
theorem dX12_rowsWithin_45 : decode cX12_rowsWithin 45 = .ok (.iload_n 3, 1) := by decide +kernel
theorem dX12_rowsWithin_46 : decode cX12_rowsWithin 46 = .ok (.dup2, 1) := by decide +kernel
theorem dX12_rowsWithin_47 : decode cX12_rowsWithin 47 = .ok (.iaload, 1) := by decide +kernel
theorem dX12_rowsWithin_48 : decode cX12_rowsWithin 48 = .ok (.iload_n 3, 1) := by decide +kernel
theorem dX12_rowsWithin_49 : decode cX12_rowsWithin 49 = .ok (.iload 4, 2) := by decide +kernel
theorem dX12_rowsWithin_51 : decode cX12_rowsWithin 51 = .ok (.invokestatic 166, 3) := by decide +kernel
theorem dX12_rowsWithin_54 : decode cX12_rowsWithin 54 = .ok (.ifCond .ne 33, 3) := by decide +kernel
theorem dX12_rowsWithin_57 : decode cX12_rowsWithin 57 = .ok (.aload_n 0, 1) := by decide +kernel
theorem dX12_rowsWithin_58 : decode cX12_rowsWithin 58 = .ok (.getfield 35, 3) := by decide +kernel
theorem dX12_rowsWithin_61 : decode cX12_rowsWithin 61 = .ok (.bipush 9, 2) := by decide +kernel
theorem dX12_rowsWithin_63 : decode cX12_rowsWithin 63 = .ok (.iload_n 3, 1) := by decide +kernel
theorem dX12_rowsWithin_64 : decode cX12_rowsWithin 64 = .ok (.imul, 1) := by decide +kernel
theorem dX12_rowsWithin_65 : decode cX12_rowsWithin 65 = .ok (.iload 4, 2) := by decide +kernel
theorem dX12_rowsWithin_67 : decode cX12_rowsWithin 67 = .ok (.iadd, 1) := by decide +kernel
theorem dX12_rowsWithin_68 : decode cX12_rowsWithin 68 = .ok (.iaload, 1) := by decide +kernel
theorem dX12_rowsWithin_69 : decode cX12_rowsWithin 69 = .ok (.iload_n 2, 1) := by decide +kernel
theorem dX12_rowsWithin_70 : decode cX12_rowsWithin 70 = .ok (.if_icmp .gt 17, 3) := by decide +kernel
theorem dX12_rowsWithin_73 : decode cX12_rowsWithin 73 = .ok (.aload_n 0, 1) := by decide +kernel
theorem dX12_rowsWithin_74 : decode cX12_rowsWithin 74 = .ok (.getfield 32, 3) := by decide +kernel
theorem dX12_rowsWithin_77 : decode cX12_rowsWithin 77 = .ok (.iload_n 3, 1) := by decide +kernel
theorem dX12_rowsWithin_78 : decode cX12_rowsWithin 78 = .ok (.iconst 1, 1) := by decide +kernel
theorem dX12_rowsWithin_79 : decode cX12_rowsWithin 79 = .ok (.iload 4, 2) := by decide +kernel
theorem dX12_rowsWithin_81 : decode cX12_rowsWithin 81 = .ok (.ishl, 1) := by decide +kernel
theorem dX12_rowsWithin_82 : decode cX12_rowsWithin 82 = .ok (.ior, 1) := by decide +kernel
theorem dX12_rowsWithin_83 : decode cX12_rowsWithin 83 = .ok (.iaload, 1) := by decide +kernel
theorem dX12_rowsWithin_84 : decode cX12_rowsWithin 84 = .ok (.goto 4, 3) := by decide +kernel
theorem dX12_rowsWithin_87 : decode cX12_rowsWithin 87 = .ok (.iconst 0, 1) := by decide +kernel
theorem dX12_rowsWithin_88 : decode cX12_rowsWithin 88 = .ok (.iadd, 1) := by decide +kernel
theorem dX12_rowsWithin_89 : decode cX12_rowsWithin 89 = .ok (.iastore, 1) := by decide +kernel
theorem dX12_rowsWithin_90 : decode cX12_rowsWithin 90 = .ok (.iinc 4 1, 3) := by decide +kernel
theorem dX12_rowsWithin_93 : decode cX12_rowsWithin 93 = .ok (.goto (-62), 3) := by decide +kernel
theorem dX12_rowsWithin_96 : decode cX12_rowsWithin 96 = .ok (.iinc 3 (-1), 3) := by decide +kernel
theorem dX12_rowsWithin_99 : decode cX12_rowsWithin 99 = .ok (.goto (-94), 3) := by decide +kernel
theorem dX12_rowsWithin_102 : decode cX12_rowsWithin 102 = .ok (.aload_n 0, 1) := by decide +kernel
theorem dX12_rowsWithin_103 : decode cX12_rowsWithin 103 = .ok (.getfield 32, 3) := by decide +kernel
theorem dX12_rowsWithin_106 : decode cX12_rowsWithin 106 = .ok (.iconst 0, 1) := by decide +kernel
theorem dX12_rowsWithin_107 : decode cX12_rowsWithin 107 = .ok (.iaload, 1) := by decide +kernel
theorem dX12_rowsWithin_108 : decode cX12_rowsWithin 108 = .ok (.ireturn, 1) := by decide +kernel
theorem dX12_says_0 : decode cX12_says 0 = .ok (.iconst 0, 1) := by decide +kernel
theorem dX12_says_1 : decode cX12_says 1 = .ok (.istore_n 2, 1) := by decide +kernel
theorem dX12_says_2 : decode cX12_says 2 = .ok (.iload_n 2, 1) := by decide +kernel
theorem dX12_says_3 : decode cX12_says 3 = .ok (.aload_n 1, 1) := by decide +kernel
theorem dX12_says_4 : decode cX12_says 4 = .ok (.invokevirtual 133, 3) := by decide +kernel
theorem dX12_says_7 : decode cX12_says 7 = .ok (.if_icmp .ge 33, 3) := by decide +kernel
theorem dX12_says_10 : decode cX12_says 10 = .ok (.aload_n 0, 1) := by decide +kernel
theorem dX12_says_11 : decode cX12_says 11 = .ok (.getfield 50, 3) := by decide +kernel
theorem dX12_says_14 : decode cX12_says 14 = .ok (.aload_n 0, 1) := by decide +kernel
theorem dX12_says_15 : decode cX12_says 15 = .ok (.getfield 193, 3) := by decide +kernel
theorem dX12_says_18 : decode cX12_says 18 = .ok (.aload_n 1, 1) := by decide +kernel
theorem dX12_says_19 : decode cX12_says 19 = .ok (.iload_n 2, 1) := by decide +kernel
theorem dX12_says_20 : decode cX12_says 20 = .ok (.invokevirtual 139, 3) := by decide +kernel
theorem dX12_says_23 : decode cX12_says 23 = .ok (.iastore, 1) := by decide +kernel
theorem dX12_says_24 : decode cX12_says 24 = .ok (.aload_n 0, 1) := by decide +kernel
theorem dX12_says_25 : decode cX12_says 25 = .ok (.dup, 1) := by decide +kernel
theorem dX12_says_26 : decode cX12_says 26 = .ok (.getfield 193, 3) := by decide +kernel
theorem dX12_says_29 : decode cX12_says 29 = .ok (.iconst 1, 1) := by decide +kernel
theorem dX12_says_30 : decode cX12_says 30 = .ok (.iadd, 1) := by decide +kernel
theorem dX12_says_31 : decode cX12_says 31 = .ok (.putfield 193, 3) := by decide +kernel
theorem dX12_says_34 : decode cX12_says 34 = .ok (.iinc 2 1, 3) := by decide +kernel
theorem dX12_says_37 : decode cX12_says 37 = .ok (.goto (-35), 3) := by decide +kernel
theorem dX12_says_40 : decode cX12_says 40 = .ok (.return_, 1) := by decide +kernel
theorem dX12_saysNet_0 : decode cX12_saysNet 0 = .ok (.aload_n 0, 1) := by decide +kernel
theorem dX12_saysNet_1 : decode cX12_saysNet 1 = .ok (.ldc_w 335, 3) := by decide +kernel
theorem dX12_saysNet_4 : decode cX12_saysNet 4 = .ok (.invokevirtual 337, 3) := by decide +kernel
theorem dX12_saysNet_7 : decode cX12_saysNet 7 = .ok (.aload_n 0, 1) := by decide +kernel
theorem dX12_saysNet_8 : decode cX12_saysNet 8 = .ok (.aload_n 0, 1) := by decide +kernel
theorem dX12_saysNet_9 : decode cX12_saysNet 9 = .ok (.iload_n 1, 1) := by decide +kernel
theorem dX12_saysNet_10 : decode cX12_saysNet 10 = .ok (.invokevirtual 63, 3) := by decide +kernel
theorem dX12_saysNet_13 : decode cX12_saysNet 13 = .ok (.invokevirtual 332, 3) := by decide +kernel
theorem dX12_saysNet_16 : decode cX12_saysNet 16 = .ok (.iconst 0, 1) := by decide +kernel
theorem dX12_saysNet_17 : decode cX12_saysNet 17 = .ok (.istore_n 2, 1) := by decide +kernel
theorem dX12_saysNet_18 : decode cX12_saysNet 18 = .ok (.iconst 0, 1) := by decide +kernel
theorem dX12_saysNet_19 : decode cX12_saysNet 19 = .ok (.istore_n 3, 1) := by decide +kernel
theorem dX12_saysNet_20 : decode cX12_saysNet 20 = .ok (.iload_n 3, 1) := by decide +kernel
theorem dX12_saysNet_21 : decode cX12_saysNet 21 = .ok (.aload_n 0, 1) := by decide +kernel
theorem dX12_saysNet_22 : decode cX12_saysNet 22 = .ok (.iload_n 1, 1) := by decide +kernel
theorem dX12_saysNet_23 : decode cX12_saysNet 23 = .ok (.invokevirtual 63, 3) := by decide +kernel
theorem dX12_saysNet_26 : decode cX12_saysNet 26 = .ok (.if_icmp .ge 112, 3) := by decide +kernel
theorem dX12_saysNet_29 : decode cX12_saysNet 29 = .ok (.iload_n 3, 1) := by decide +kernel
theorem dX12_saysNet_30 : decode cX12_saysNet 30 = .ok (.iconst 1, 1) := by decide +kernel
theorem dX12_saysNet_31 : decode cX12_saysNet 31 = .ok (.iadd, 1) := by decide +kernel
theorem dX12_saysNet_32 : decode cX12_saysNet 32 = .ok (.istore 4, 2) := by decide +kernel
theorem dX12_saysNet_34 : decode cX12_saysNet 34 = .ok (.iload 4, 2) := by decide +kernel
theorem dX12_saysNet_36 : decode cX12_saysNet 36 = .ok (.aload_n 0, 1) := by decide +kernel
theorem dX12_saysNet_37 : decode cX12_saysNet 37 = .ok (.iload_n 1, 1) := by decide +kernel
theorem dX12_saysNet_38 : decode cX12_saysNet 38 = .ok (.invokevirtual 63, 3) := by decide +kernel
theorem dX12_saysNet_41 : decode cX12_saysNet 41 = .ok (.if_icmp .ge 91, 3) := by decide +kernel
theorem dX12_saysNet_44 : decode cX12_saysNet 44 = .ok (.aload_n 0, 1) := by decide +kernel
theorem dX12_saysNet_45 : decode cX12_saysNet 45 = .ok (.iload_n 1, 1) := by decide +kernel
theorem dX12_saysNet_46 : decode cX12_saysNet 46 = .ok (.iload_n 3, 1) := by decide +kernel
theorem dX12_saysNet_47 : decode cX12_saysNet 47 = .ok (.iload 4, 2) := by decide +kernel
theorem dX12_saysNet_49 : decode cX12_saysNet 49 = .ok (.invokevirtual 76, 3) := by decide +kernel
theorem dX12_saysNet_52 : decode cX12_saysNet 52 = .ok (.ifCond .ne 6, 3) := by decide +kernel
theorem dX12_saysNet_55 : decode cX12_saysNet 55 = .ok (.goto 71, 3) := by decide +kernel
theorem dX12_saysNet_58 : decode cX12_saysNet 58 = .ok (.aload_n 0, 1) := by decide +kernel
theorem dX12_saysNet_59 : decode cX12_saysNet 59 = .ok (.iload_n 2, 1) := by decide +kernel
theorem dX12_saysNet_60 : decode cX12_saysNet 60 = .ok (.ifCond .eq 9, 3) := by decide +kernel
theorem dX12_saysNet_63 : decode cX12_saysNet 63 = .ok (.ldc_w 341, 3) := by decide +kernel
theorem dX12_saysNet_66 : decode cX12_saysNet 66 = .ok (.goto 6, 3) := by decide +kernel
theorem dX12_saysNet_69 : decode cX12_saysNet 69 = .ok (.ldc_w 343, 3) := by decide +kernel
theorem dX12_saysNet_72 : decode cX12_saysNet 72 = .ok (.invokevirtual 337, 3) := by decide +kernel
theorem dX12_saysNet_75 : decode cX12_saysNet 75 = .ok (.aload_n 0, 1) := by decide +kernel
theorem dX12_saysNet_76 : decode cX12_saysNet 76 = .ok (.iload_n 3, 1) := by decide +kernel
theorem dX12_saysNet_77 : decode cX12_saysNet 77 = .ok (.invokevirtual 332, 3) := by decide +kernel
theorem dX12_saysNet_80 : decode cX12_saysNet 80 = .ok (.aload_n 0, 1) := by decide +kernel
theorem dX12_saysNet_81 : decode cX12_saysNet 81 = .ok (.ldc_w 345, 3) := by decide +kernel
theorem dX12_saysNet_84 : decode cX12_saysNet 84 = .ok (.invokevirtual 337, 3) := by decide +kernel
theorem dX12_saysNet_87 : decode cX12_saysNet 87 = .ok (.aload_n 0, 1) := by decide +kernel
theorem dX12_saysNet_88 : decode cX12_saysNet 88 = .ok (.iload 4, 2) := by decide +kernel
theorem dX12_saysNet_90 : decode cX12_saysNet 90 = .ok (.invokevirtual 332, 3) := by decide +kernel
theorem dX12_saysNet_93 : decode cX12_saysNet 93 = .ok (.aload_n 0, 1) := by decide +kernel
theorem dX12_saysNet_94 : decode cX12_saysNet 94 = .ok (.iload_n 1, 1) := by decide +kernel
theorem dX12_saysNet_95 : decode cX12_saysNet 95 = .ok (.iload_n 3, 1) := by decide +kernel
theorem dX12_saysNet_96 : decode cX12_saysNet 96 = .ok (.iload 4, 2) := by decide +kernel
theorem dX12_saysNet_98 : decode cX12_saysNet 98 = .ok (.invokevirtual 76, 3) := by decide +kernel
theorem dX12_saysNet_101 : decode cX12_saysNet 101 = .ok (.iconst 1, 1) := by decide +kernel
theorem dX12_saysNet_102 : decode cX12_saysNet 102 = .ok (.if_icmp .le 22, 3) := by decide +kernel
theorem dX12_saysNet_105 : decode cX12_saysNet 105 = .ok (.aload_n 0, 1) := by decide +kernel
theorem dX12_saysNet_106 : decode cX12_saysNet 106 = .ok (.ldc_w 347, 3) := by decide +kernel
theorem dX12_saysNet_109 : decode cX12_saysNet 109 = .ok (.invokevirtual 337, 3) := by decide +kernel
theorem dX12_saysNet_112 : decode cX12_saysNet 112 = .ok (.aload_n 0, 1) := by decide +kernel
theorem dX12_saysNet_113 : decode cX12_saysNet 113 = .ok (.aload_n 0, 1) := by decide +kernel
theorem dX12_saysNet_114 : decode cX12_saysNet 114 = .ok (.iload_n 1, 1) := by decide +kernel
theorem dX12_saysNet_115 : decode cX12_saysNet 115 = .ok (.iload_n 3, 1) := by decide +kernel
theorem dX12_saysNet_116 : decode cX12_saysNet 116 = .ok (.iload 4, 2) := by decide +kernel
theorem dX12_saysNet_118 : decode cX12_saysNet 118 = .ok (.invokevirtual 76, 3) := by decide +kernel
theorem dX12_saysNet_121 : decode cX12_saysNet 121 = .ok (.invokevirtual 332, 3) := by decide +kernel
theorem dX12_saysNet_124 : decode cX12_saysNet 124 = .ok (.iconst 1, 1) := by decide +kernel
theorem dX12_saysNet_125 : decode cX12_saysNet 125 = .ok (.istore_n 2, 1) := by decide +kernel
theorem dX12_saysNet_126 : decode cX12_saysNet 126 = .ok (.iinc 4 1, 3) := by decide +kernel
theorem dX12_saysNet_129 : decode cX12_saysNet 129 = .ok (.goto (-95), 3) := by decide +kernel
theorem dX12_saysNet_132 : decode cX12_saysNet 132 = .ok (.iinc 3 1, 3) := by decide +kernel
theorem dX12_saysNet_135 : decode cX12_saysNet 135 = .ok (.goto (-115), 3) := by decide +kernel
theorem dX12_saysNet_138 : decode cX12_saysNet 138 = .ok (.aload_n 0, 1) := by decide +kernel
theorem dX12_saysNet_139 : decode cX12_saysNet 139 = .ok (.ldc_w 349, 3) := by decide +kernel
theorem dX12_saysNet_142 : decode cX12_saysNet 142 = .ok (.invokevirtual 337, 3) := by decide +kernel
theorem dX12_saysNet_145 : decode cX12_saysNet 145 = .ok (.iconst 0, 1) := by decide +kernel
theorem dX12_saysNet_146 : decode cX12_saysNet 146 = .ok (.istore_n 3, 1) := by decide +kernel
theorem dX12_saysNet_147 : decode cX12_saysNet 147 = .ok (.iload_n 3, 1) := by decide +kernel
theorem dX12_saysNet_148 : decode cX12_saysNet 148 = .ok (.aload_n 0, 1) := by decide +kernel
theorem dX12_saysNet_149 : decode cX12_saysNet 149 = .ok (.iload_n 1, 1) := by decide +kernel
theorem dX12_saysNet_150 : decode cX12_saysNet 150 = .ok (.invokevirtual 63, 3) := by decide +kernel
theorem dX12_saysNet_153 : decode cX12_saysNet 153 = .ok (.if_icmp .ge 19, 3) := by decide +kernel
theorem dX12_saysNet_156 : decode cX12_saysNet 156 = .ok (.aload_n 0, 1) := by decide +kernel
theorem dX12_saysNet_157 : decode cX12_saysNet 157 = .ok (.aload_n 0, 1) := by decide +kernel
theorem dX12_saysNet_158 : decode cX12_saysNet 158 = .ok (.iload_n 1, 1) := by decide +kernel
theorem dX12_saysNet_159 : decode cX12_saysNet 159 = .ok (.iload_n 3, 1) := by decide +kernel
theorem dX12_saysNet_160 : decode cX12_saysNet 160 = .ok (.invokevirtual 217, 3) := by decide +kernel
theorem dX12_saysNet_163 : decode cX12_saysNet 163 = .ok (.invokevirtual 332, 3) := by decide +kernel
theorem dX12_saysNet_166 : decode cX12_saysNet 166 = .ok (.iinc 3 1, 3) := by decide +kernel
theorem dX12_saysNet_169 : decode cX12_saysNet 169 = .ok (.goto (-22), 3) := by decide +kernel
theorem dX12_saysNet_172 : decode cX12_saysNet 172 = .ok (.aload_n 0, 1) := by decide +kernel
theorem dX12_saysNet_173 : decode cX12_saysNet 173 = .ok (.ldc_w 351, 3) := by decide +kernel
theorem dX12_saysNet_176 : decode cX12_saysNet 176 = .ok (.invokevirtual 337, 3) := by decide +kernel
theorem dX12_saysNet_179 : decode cX12_saysNet 179 = .ok (.return_, 1) := by decide +kernel
theorem dX12_saysNumber_0 : decode cX12_saysNumber 0 = .ok (.iload_n 1, 1) := by decide +kernel
theorem dX12_saysNumber_1 : decode cX12_saysNumber 1 = .ok (.bipush 9, 2) := by decide +kernel
theorem dX12_saysNumber_3 : decode cX12_saysNumber 3 = .ok (.if_icmp .le 11, 3) := by decide +kernel
theorem dX12_saysNumber_6 : decode cX12_saysNumber 6 = .ok (.aload_n 0, 1) := by decide +kernel
theorem dX12_saysNumber_7 : decode cX12_saysNumber 7 = .ok (.iload_n 1, 1) := by decide +kernel
theorem dX12_saysNumber_8 : decode cX12_saysNumber 8 = .ok (.bipush 10, 2) := by decide +kernel
theorem dX12_saysNumber_10 : decode cX12_saysNumber 10 = .ok (.idiv, 1) := by decide +kernel
theorem dX12_saysNumber_11 : decode cX12_saysNumber 11 = .ok (.invokevirtual 332, 3) := by decide +kernel
theorem dX12_saysNumber_14 : decode cX12_saysNumber 14 = .ok (.aload_n 0, 1) := by decide +kernel
theorem dX12_saysNumber_15 : decode cX12_saysNumber 15 = .ok (.getfield 50, 3) := by decide +kernel
theorem dX12_saysNumber_18 : decode cX12_saysNumber 18 = .ok (.aload_n 0, 1) := by decide +kernel
theorem dX12_saysNumber_19 : decode cX12_saysNumber 19 = .ok (.getfield 193, 3) := by decide +kernel
theorem dX12_saysNumber_22 : decode cX12_saysNumber 22 = .ok (.bipush 48, 2) := by decide +kernel
theorem dX12_saysNumber_24 : decode cX12_saysNumber 24 = .ok (.iload_n 1, 1) := by decide +kernel
theorem dX12_saysNumber_25 : decode cX12_saysNumber 25 = .ok (.bipush 10, 2) := by decide +kernel
theorem dX12_saysNumber_27 : decode cX12_saysNumber 27 = .ok (.irem, 1) := by decide +kernel
theorem dX12_saysNumber_28 : decode cX12_saysNumber 28 = .ok (.iadd, 1) := by decide +kernel
theorem dX12_saysNumber_29 : decode cX12_saysNumber 29 = .ok (.iastore, 1) := by decide +kernel
theorem dX12_saysNumber_30 : decode cX12_saysNumber 30 = .ok (.aload_n 0, 1) := by decide +kernel
theorem dX12_saysNumber_31 : decode cX12_saysNumber 31 = .ok (.dup, 1) := by decide +kernel
theorem dX12_saysNumber_32 : decode cX12_saysNumber 32 = .ok (.getfield 193, 3) := by decide +kernel
theorem dX12_saysNumber_35 : decode cX12_saysNumber 35 = .ok (.iconst 1, 1) := by decide +kernel
theorem dX12_saysNumber_36 : decode cX12_saysNumber 36 = .ok (.iadd, 1) := by decide +kernel
theorem dX12_saysNumber_37 : decode cX12_saysNumber 37 = .ok (.putfield 193, 3) := by decide +kernel
theorem dX12_saysNumber_40 : decode cX12_saysNumber 40 = .ok (.return_, 1) := by decide +kernel
theorem dX12_split_0 : decode cX12_split 0 = .ok (.aload_n 0, 1) := by decide +kernel
theorem dX12_split_1 : decode cX12_split 1 = .ok (.iload_n 1, 1) := by decide +kernel
theorem dX12_split_2 : decode cX12_split 2 = .ok (.invokevirtual 67, 3) := by decide +kernel
theorem dX12_split_5 : decode cX12_split 5 = .ok (.ifCond .eq 44, 3) := by decide +kernel
theorem dX12_split_8 : decode cX12_split 8 = .ok (.iload_n 2, 1) := by decide +kernel
theorem dX12_split_9 : decode cX12_split 9 = .ok (.i2l, 1) := by decide +kernel
theorem dX12_split_10 : decode cX12_split 10 = .ok (.lconst 0, 1) := by decide +kernel
theorem dX12_split_11 : decode cX12_split 11 = .ok (.iconst 1, 1) := by decide +kernel
theorem dX12_split_12 : decode cX12_split 12 = .ok (.aload_n 0, 1) := by decide +kernel
theorem dX12_split_13 : decode cX12_split 13 = .ok (.iload_n 1, 1) := by decide +kernel
theorem dX12_split_14 : decode cX12_split 14 = .ok (.invokevirtual 63, 3) := by decide +kernel
theorem dX12_split_17 : decode cX12_split 17 = .ok (.ishl, 1) := by decide +kernel
theorem dX12_split_18 : decode cX12_split 18 = .ok (.iconst 1, 1) := by decide +kernel
theorem dX12_split_19 : decode cX12_split 19 = .ok (.isub, 1) := by decide +kernel
theorem dX12_split_20 : decode cX12_split 20 = .ok (.i2l, 1) := by decide +kernel
theorem dX12_split_21 : decode cX12_split 21 = .ok (.invokestatic 55, 3) := by decide +kernel
theorem dX12_split_24 : decode cX12_split 24 = .ok (.ifCond .eq 25, 3) := by decide +kernel
theorem dX12_split_27 : decode cX12_split 27 = .ok (.iload_n 3, 1) := by decide +kernel
theorem dX12_split_28 : decode cX12_split 28 = .ok (.i2l, 1) := by decide +kernel
theorem dX12_split_29 : decode cX12_split 29 = .ok (.lconst 0, 1) := by decide +kernel
theorem dX12_split_30 : decode cX12_split 30 = .ok (.ldc2_w 53, 3) := by decide +kernel
theorem dX12_split_33 : decode cX12_split 33 = .ok (.invokestatic 55, 3) := by decide +kernel
theorem dX12_split_36 : decode cX12_split 36 = .ok (.ifCond .eq 13, 3) := by decide +kernel
theorem dX12_split_39 : decode cX12_split 39 = .ok (.aload_n 0, 1) := by decide +kernel
theorem dX12_split_40 : decode cX12_split 40 = .ok (.iload_n 1, 1) := by decide +kernel
theorem dX12_split_41 : decode cX12_split 41 = .ok (.iload_n 2, 1) := by decide +kernel
theorem dX12_split_42 : decode cX12_split 42 = .ok (.iload_n 3, 1) := by decide +kernel
theorem dX12_split_43 : decode cX12_split 43 = .ok (.invokevirtual 229, 3) := by decide +kernel
theorem dX12_split_46 : decode cX12_split 46 = .ok (.goto 5, 3) := by decide +kernel
theorem dX12_split_49 : decode cX12_split 49 = .ok (.bipush (-2), 2) := by decide +kernel
theorem dX12_split_51 : decode cX12_split 51 = .ok (.ireturn, 1) := by decide +kernel
theorem dX12_splitOf_0 : decode cX12_splitOf 0 = .ok (.iconst 0, 1) := by decide +kernel
theorem dX12_splitOf_1 : decode cX12_splitOf 1 = .ok (.istore 4, 2) := by decide +kernel
theorem dX12_splitOf_3 : decode cX12_splitOf 3 = .ok (.iconst 0, 1) := by decide +kernel
theorem dX12_splitOf_4 : decode cX12_splitOf 4 = .ok (.istore 5, 2) := by decide +kernel
theorem dX12_splitOf_6 : decode cX12_splitOf 6 = .ok (.iload 5, 2) := by decide +kernel
theorem dX12_splitOf_8 : decode cX12_splitOf 8 = .ok (.aload_n 0, 1) := by decide +kernel
theorem dX12_splitOf_9 : decode cX12_splitOf 9 = .ok (.iload_n 1, 1) := by decide +kernel
theorem dX12_splitOf_10 : decode cX12_splitOf 10 = .ok (.invokevirtual 63, 3) := by decide +kernel
theorem dX12_splitOf_13 : decode cX12_splitOf 13 = .ok (.if_icmp .ge 154, 3) := by decide +kernel
theorem dX12_splitOf_16 : decode cX12_splitOf 16 = .ok (.aload_n 0, 1) := by decide +kernel
theorem dX12_splitOf_17 : decode cX12_splitOf 17 = .ok (.iload_n 1, 1) := by decide +kernel
theorem dX12_splitOf_18 : decode cX12_splitOf 18 = .ok (.iload 5, 2) := by decide +kernel
theorem dX12_splitOf_20 : decode cX12_splitOf 20 = .ok (.invokevirtual 80, 3) := by decide +kernel
theorem dX12_splitOf_23 : decode cX12_splitOf 23 = .ok (.iload_n 2, 1) := by decide +kernel
theorem dX12_splitOf_24 : decode cX12_splitOf 24 = .ok (.iload 5, 2) := by decide +kernel
theorem dX12_splitOf_26 : decode cX12_splitOf 26 = .ok (.invokestatic 166, 3) := by decide +kernel
theorem dX12_splitOf_29 : decode cX12_splitOf 29 = .ok (.ifCond .eq 9, 3) := by decide +kernel
theorem dX12_splitOf_32 : decode cX12_splitOf 32 = .ok (.iload_n 2, 1) := by decide +kernel
theorem dX12_splitOf_33 : decode cX12_splitOf 33 = .ok (.iconst (-1), 1) := by decide +kernel
theorem dX12_splitOf_34 : decode cX12_splitOf 34 = .ok (.ixor, 1) := by decide +kernel
theorem dX12_splitOf_35 : decode cX12_splitOf 35 = .ok (.goto 4, 3) := by decide +kernel
theorem dX12_splitOf_38 : decode cX12_splitOf 38 = .ok (.iload_n 2, 1) := by decide +kernel
theorem dX12_splitOf_39 : decode cX12_splitOf 39 = .ok (.iand, 1) := by decide +kernel
theorem dX12_splitOf_40 : decode cX12_splitOf 40 = .ok (.istore 6, 2) := by decide +kernel
theorem dX12_splitOf_42 : decode cX12_splitOf 42 = .ok (.iload_n 3, 1) := by decide +kernel
theorem dX12_splitOf_43 : decode cX12_splitOf 43 = .ok (.iconst 1, 1) := by decide +kernel
theorem dX12_splitOf_44 : decode cX12_splitOf 44 = .ok (.if_icmp .ne 30, 3) := by decide +kernel
theorem dX12_splitOf_47 : decode cX12_splitOf 47 = .ok (.iload 4, 2) := by decide +kernel
theorem dX12_splitOf_49 : decode cX12_splitOf 49 = .ok (.iload_n 2, 1) := by decide +kernel
theorem dX12_splitOf_50 : decode cX12_splitOf 50 = .ok (.iload 5, 2) := by decide +kernel
theorem dX12_splitOf_52 : decode cX12_splitOf 52 = .ok (.invokestatic 166, 3) := by decide +kernel
theorem dX12_splitOf_55 : decode cX12_splitOf 55 = .ok (.ifCond .eq 12, 3) := by decide +kernel
theorem dX12_splitOf_58 : decode cX12_splitOf 58 = .ok (.iload 6, 2) := by decide +kernel
theorem dX12_splitOf_60 : decode cX12_splitOf 60 = .ok (.ifCond .eq 7, 3) := by decide +kernel
theorem dX12_splitOf_63 : decode cX12_splitOf 63 = .ok (.iconst 1, 1) := by decide +kernel
theorem dX12_splitOf_64 : decode cX12_splitOf 64 = .ok (.goto 4, 3) := by decide +kernel
theorem dX12_splitOf_67 : decode cX12_splitOf 67 = .ok (.iconst 0, 1) := by decide +kernel
theorem dX12_splitOf_68 : decode cX12_splitOf 68 = .ok (.iadd, 1) := by decide +kernel
theorem dX12_splitOf_69 : decode cX12_splitOf 69 = .ok (.istore 4, 2) := by decide +kernel
theorem dX12_splitOf_71 : decode cX12_splitOf 71 = .ok (.goto 90, 3) := by decide +kernel
theorem dX12_splitOf_74 : decode cX12_splitOf 74 = .ok (.iload_n 3, 1) := by decide +kernel
theorem dX12_splitOf_75 : decode cX12_splitOf 75 = .ok (.iconst 2, 1) := by decide +kernel
theorem dX12_splitOf_76 : decode cX12_splitOf 76 = .ok (.if_icmp .ne 30, 3) := by decide +kernel
theorem dX12_splitOf_79 : decode cX12_splitOf 79 = .ok (.iload 4, 2) := by decide +kernel
theorem dX12_splitOf_81 : decode cX12_splitOf 81 = .ok (.iload_n 2, 1) := by decide +kernel
theorem dX12_splitOf_82 : decode cX12_splitOf 82 = .ok (.iload 5, 2) := by decide +kernel
theorem dX12_splitOf_84 : decode cX12_splitOf 84 = .ok (.invokestatic 166, 3) := by decide +kernel
theorem dX12_splitOf_87 : decode cX12_splitOf 87 = .ok (.ifCond .ne 12, 3) := by decide +kernel
theorem dX12_splitOf_90 : decode cX12_splitOf 90 = .ok (.iload 6, 2) := by decide +kernel
theorem dX12_splitOf_92 : decode cX12_splitOf 92 = .ok (.ifCond .eq 7, 3) := by decide +kernel
theorem dX12_splitOf_95 : decode cX12_splitOf 95 = .ok (.iconst 1, 1) := by decide +kernel
theorem dX12_splitOf_96 : decode cX12_splitOf 96 = .ok (.goto 4, 3) := by decide +kernel
theorem dX12_splitOf_99 : decode cX12_splitOf 99 = .ok (.iconst 0, 1) := by decide +kernel
theorem dX12_splitOf_100 : decode cX12_splitOf 100 = .ok (.iadd, 1) := by decide +kernel
theorem dX12_splitOf_101 : decode cX12_splitOf 101 = .ok (.istore 4, 2) := by decide +kernel
theorem dX12_splitOf_103 : decode cX12_splitOf 103 = .ok (.goto 58, 3) := by decide +kernel
theorem dX12_splitOf_106 : decode cX12_splitOf 106 = .ok (.iload_n 2, 1) := by decide +kernel
theorem dX12_splitOf_107 : decode cX12_splitOf 107 = .ok (.iload 5, 2) := by decide +kernel
theorem dX12_splitOf_109 : decode cX12_splitOf 109 = .ok (.invokestatic 166, 3) := by decide +kernel
theorem dX12_splitOf_112 : decode cX12_splitOf 112 = .ok (.ifCond .eq 49, 3) := by decide +kernel
theorem dX12_splitOf_115 : decode cX12_splitOf 115 = .ok (.iconst 0, 1) := by decide +kernel
theorem dX12_splitOf_116 : decode cX12_splitOf 116 = .ok (.istore 7, 2) := by decide +kernel
theorem dX12_splitOf_118 : decode cX12_splitOf 118 = .ok (.iload 7, 2) := by decide +kernel
theorem dX12_splitOf_120 : decode cX12_splitOf 120 = .ok (.aload_n 0, 1) := by decide +kernel
theorem dX12_splitOf_121 : decode cX12_splitOf 121 = .ok (.iload_n 1, 1) := by decide +kernel
theorem dX12_splitOf_122 : decode cX12_splitOf 122 = .ok (.invokevirtual 63, 3) := by decide +kernel
theorem dX12_splitOf_125 : decode cX12_splitOf 125 = .ok (.if_icmp .ge 36, 3) := by decide +kernel
theorem dX12_splitOf_128 : decode cX12_splitOf 128 = .ok (.iload 4, 2) := by decide +kernel
theorem dX12_splitOf_130 : decode cX12_splitOf 130 = .ok (.iload_n 2, 1) := by decide +kernel
theorem dX12_splitOf_131 : decode cX12_splitOf 131 = .ok (.iload 7, 2) := by decide +kernel
theorem dX12_splitOf_133 : decode cX12_splitOf 133 = .ok (.invokestatic 166, 3) := by decide +kernel
theorem dX12_splitOf_136 : decode cX12_splitOf 136 = .ok (.ifCond .eq 7, 3) := by decide +kernel
theorem dX12_splitOf_139 : decode cX12_splitOf 139 = .ok (.iconst 0, 1) := by decide +kernel
theorem dX12_splitOf_140 : decode cX12_splitOf 140 = .ok (.goto 12, 3) := by decide +kernel
theorem dX12_splitOf_143 : decode cX12_splitOf 143 = .ok (.aload_n 0, 1) := by decide +kernel
theorem dX12_splitOf_144 : decode cX12_splitOf 144 = .ok (.iload_n 1, 1) := by decide +kernel
theorem dX12_splitOf_145 : decode cX12_splitOf 145 = .ok (.iload 5, 2) := by decide +kernel
theorem dX12_splitOf_147 : decode cX12_splitOf 147 = .ok (.iload 7, 2) := by decide +kernel
theorem dX12_splitOf_149 : decode cX12_splitOf 149 = .ok (.invokevirtual 76, 3) := by decide +kernel
theorem dX12_splitOf_152 : decode cX12_splitOf 152 = .ok (.iadd, 1) := by decide +kernel
theorem dX12_splitOf_153 : decode cX12_splitOf 153 = .ok (.istore 4, 2) := by decide +kernel
theorem dX12_splitOf_155 : decode cX12_splitOf 155 = .ok (.iinc 7 1, 3) := by decide +kernel
theorem dX12_splitOf_158 : decode cX12_splitOf 158 = .ok (.goto (-40), 3) := by decide +kernel
theorem dX12_splitOf_161 : decode cX12_splitOf 161 = .ok (.iinc 5 1, 3) := by decide +kernel
theorem dX12_splitOf_164 : decode cX12_splitOf 164 = .ok (.goto (-158), 3) := by decide +kernel
theorem dX12_splitOf_167 : decode cX12_splitOf 167 = .ok (.iload 4, 2) := by decide +kernel
theorem dX12_splitOf_169 : decode cX12_splitOf 169 = .ok (.ireturn, 1) := by decide +kernel
theorem dX12_swaps_0 : decode cX12_swaps 0 = .ok (.aload_n 0, 1) := by decide +kernel
theorem dX12_swaps_1 : decode cX12_swaps 1 = .ok (.iload_n 1, 1) := by decide +kernel
theorem dX12_swaps_2 : decode cX12_swaps 2 = .ok (.iload_n 2, 1) := by decide +kernel
theorem dX12_swaps_3 : decode cX12_swaps 3 = .ok (.invokevirtual 70, 3) := by decide +kernel
theorem dX12_swaps_6 : decode cX12_swaps 6 = .ok (.ifCond .eq 12, 3) := by decide +kernel
theorem dX12_swaps_9 : decode cX12_swaps 9 = .ok (.aload_n 0, 1) := by decide +kernel
theorem dX12_swaps_10 : decode cX12_swaps 10 = .ok (.iload_n 1, 1) := by decide +kernel
theorem dX12_swaps_11 : decode cX12_swaps 11 = .ok (.iload_n 3, 1) := by decide +kernel
theorem dX12_swaps_12 : decode cX12_swaps 12 = .ok (.invokevirtual 70, 3) := by decide +kernel
theorem dX12_swaps_15 : decode cX12_swaps 15 = .ok (.ifCond .ne 6, 3) := by decide +kernel
theorem dX12_swaps_18 : decode cX12_swaps 18 = .ok (.bipush (-2), 2) := by decide +kernel
theorem dX12_swaps_20 : decode cX12_swaps 20 = .ok (.ireturn, 1) := by decide +kernel
theorem dX12_swaps_21 : decode cX12_swaps 21 = .ok (.aload_n 0, 1) := by decide +kernel
theorem dX12_swaps_22 : decode cX12_swaps 22 = .ok (.iload_n 1, 1) := by decide +kernel
theorem dX12_swaps_23 : decode cX12_swaps 23 = .ok (.iload_n 2, 1) := by decide +kernel
theorem dX12_swaps_24 : decode cX12_swaps 24 = .ok (.invokevirtual 217, 3) := by decide +kernel
theorem dX12_swaps_27 : decode cX12_swaps 27 = .ok (.istore 4, 2) := by decide +kernel
theorem dX12_swaps_29 : decode cX12_swaps 29 = .ok (.aload_n 0, 1) := by decide +kernel
theorem dX12_swaps_30 : decode cX12_swaps 30 = .ok (.iload_n 1, 1) := by decide +kernel
theorem dX12_swaps_31 : decode cX12_swaps 31 = .ok (.invokevirtual 248, 3) := by decide +kernel
theorem dX12_swaps_34 : decode cX12_swaps 34 = .ok (.aload_n 0, 1) := by decide +kernel
theorem dX12_swaps_35 : decode cX12_swaps 35 = .ok (.iload_n 2, 1) := by decide +kernel
theorem dX12_swaps_36 : decode cX12_swaps 36 = .ok (.iload_n 3, 1) := by decide +kernel
theorem dX12_swaps_37 : decode cX12_swaps 37 = .ok (.invokevirtual 317, 3) := by decide +kernel
theorem dX12_swaps_40 : decode cX12_swaps 40 = .ok (.aload_n 0, 1) := by decide +kernel
theorem dX12_swaps_41 : decode cX12_swaps 41 = .ok (.iload_n 1, 1) := by decide +kernel
theorem dX12_swaps_42 : decode cX12_swaps 42 = .ok (.invokevirtual 320, 3) := by decide +kernel
theorem dX12_swaps_45 : decode cX12_swaps 45 = .ok (.istore 5, 2) := by decide +kernel
theorem dX12_swaps_47 : decode cX12_swaps 47 = .ok (.iload 4, 2) := by decide +kernel
theorem dX12_swaps_49 : decode cX12_swaps 49 = .ok (.ireturn, 1) := by decide +kernel
theorem dX12_takes_0 : decode cX12_takes 0 = .ok (.aload_n 0, 1) := by decide +kernel
theorem dX12_takes_1 : decode cX12_takes 1 = .ok (.iload_n 1, 1) := by decide +kernel
theorem dX12_takes_2 : decode cX12_takes 2 = .ok (.invokevirtual 67, 3) := by decide +kernel
theorem dX12_takes_5 : decode cX12_takes 5 = .ok (.ifCond .eq 10, 3) := by decide +kernel
theorem dX12_takes_8 : decode cX12_takes 8 = .ok (.iload_n 2, 1) := by decide +kernel
theorem dX12_takes_9 : decode cX12_takes 9 = .ok (.invokestatic 245, 3) := by decide +kernel
theorem dX12_takes_12 : decode cX12_takes 12 = .ok (.ifCond .ne 6, 3) := by decide +kernel
theorem dX12_takes_15 : decode cX12_takes 15 = .ok (.bipush (-2), 2) := by decide +kernel
theorem dX12_takes_17 : decode cX12_takes 17 = .ok (.ireturn, 1) := by decide +kernel
theorem dX12_takes_18 : decode cX12_takes 18 = .ok (.aload_n 0, 1) := by decide +kernel
theorem dX12_takes_19 : decode cX12_takes 19 = .ok (.iload_n 1, 1) := by decide +kernel
theorem dX12_takes_20 : decode cX12_takes 20 = .ok (.iload_n 2, 1) := by decide +kernel
theorem dX12_takes_21 : decode cX12_takes 21 = .ok (.invokevirtual 301, 3) := by decide +kernel
theorem dX12_takes_24 : decode cX12_takes 24 = .ok (.iconst 0, 1) := by decide +kernel
theorem dX12_takes_25 : decode cX12_takes 25 = .ok (.istore_n 3, 1) := by decide +kernel
theorem dX12_takes_26 : decode cX12_takes 26 = .ok (.iload_n 3, 1) := by decide +kernel
theorem dX12_takes_27 : decode cX12_takes 27 = .ok (.aload_n 0, 1) := by decide +kernel
theorem dX12_takes_28 : decode cX12_takes 28 = .ok (.iload_n 1, 1) := by decide +kernel
theorem dX12_takes_29 : decode cX12_takes 29 = .ok (.invokevirtual 63, 3) := by decide +kernel
theorem dX12_takes_32 : decode cX12_takes 32 = .ok (.if_icmp .ge 21, 3) := by decide +kernel
theorem dX12_takes_35 : decode cX12_takes 35 = .ok (.aload_n 0, 1) := by decide +kernel
theorem dX12_takes_36 : decode cX12_takes 36 = .ok (.getfield 26, 3) := by decide +kernel
theorem dX12_takes_39 : decode cX12_takes 39 = .ok (.iload_n 3, 1) := by decide +kernel
theorem dX12_takes_40 : decode cX12_takes 40 = .ok (.aload_n 0, 1) := by decide +kernel
theorem dX12_takes_41 : decode cX12_takes 41 = .ok (.getfield 41, 3) := by decide +kernel
theorem dX12_takes_44 : decode cX12_takes 44 = .ok (.iload_n 3, 1) := by decide +kernel
theorem dX12_takes_45 : decode cX12_takes 45 = .ok (.iaload, 1) := by decide +kernel
theorem dX12_takes_46 : decode cX12_takes 46 = .ok (.iastore, 1) := by decide +kernel
theorem dX12_takes_47 : decode cX12_takes 47 = .ok (.iinc 3 1, 3) := by decide +kernel
theorem dX12_takes_50 : decode cX12_takes 50 = .ok (.goto (-24), 3) := by decide +kernel
theorem dX12_takes_53 : decode cX12_takes 53 = .ok (.aload_n 0, 1) := by decide +kernel
theorem dX12_takes_54 : decode cX12_takes 54 = .ok (.iload_n 1, 1) := by decide +kernel
theorem dX12_takes_55 : decode cX12_takes 55 = .ok (.invokevirtual 320, 3) := by decide +kernel
theorem dX12_takes_58 : decode cX12_takes 58 = .ok (.ireturn, 1) := by decide +kernel
theorem dX12_takesRow_0 : decode cX12_takesRow 0 = .ok (.iconst 0, 1) := by decide +kernel
theorem dX12_takesRow_1 : decode cX12_takesRow 1 = .ok (.istore_n 2, 1) := by decide +kernel
theorem dX12_takesRow_2 : decode cX12_takesRow 2 = .ok (.iconst 0, 1) := by decide +kernel
theorem dX12_takesRow_3 : decode cX12_takesRow 3 = .ok (.istore_n 3, 1) := by decide +kernel
theorem dX12_takesRow_4 : decode cX12_takesRow 4 = .ok (.iload_n 3, 1) := by decide +kernel
theorem dX12_takesRow_5 : decode cX12_takesRow 5 = .ok (.aload_n 0, 1) := by decide +kernel
theorem dX12_takesRow_6 : decode cX12_takesRow 6 = .ok (.iload_n 1, 1) := by decide +kernel
theorem dX12_takesRow_7 : decode cX12_takesRow 7 = .ok (.invokevirtual 63, 3) := by decide +kernel
theorem dX12_takesRow_10 : decode cX12_takesRow 10 = .ok (.if_icmp .ge 32, 3) := by decide +kernel
theorem dX12_takesRow_13 : decode cX12_takesRow 13 = .ok (.iload_n 2, 1) := by decide +kernel
theorem dX12_takesRow_14 : decode cX12_takesRow 14 = .ok (.aload_n 0, 1) := by decide +kernel
theorem dX12_takesRow_15 : decode cX12_takesRow 15 = .ok (.iload_n 1, 1) := by decide +kernel
theorem dX12_takesRow_16 : decode cX12_takesRow 16 = .ok (.iload_n 3, 1) := by decide +kernel
theorem dX12_takesRow_17 : decode cX12_takesRow 17 = .ok (.invokevirtual 217, 3) := by decide +kernel
theorem dX12_takesRow_20 : decode cX12_takesRow 20 = .ok (.aload_n 0, 1) := by decide +kernel
theorem dX12_takesRow_21 : decode cX12_takesRow 21 = .ok (.getfield 26, 3) := by decide +kernel
theorem dX12_takesRow_24 : decode cX12_takesRow 24 = .ok (.iload_n 3, 1) := by decide +kernel
theorem dX12_takesRow_25 : decode cX12_takesRow 25 = .ok (.iaload, 1) := by decide +kernel
theorem dX12_takesRow_26 : decode cX12_takesRow 26 = .ok (.if_icmp .ne 7, 3) := by decide +kernel
theorem dX12_takesRow_29 : decode cX12_takesRow 29 = .ok (.iconst 0, 1) := by decide +kernel
theorem dX12_takesRow_30 : decode cX12_takesRow 30 = .ok (.goto 4, 3) := by decide +kernel
theorem dX12_takesRow_33 : decode cX12_takesRow 33 = .ok (.iconst 1, 1) := by decide +kernel
theorem dX12_takesRow_34 : decode cX12_takesRow 34 = .ok (.iadd, 1) := by decide +kernel
theorem dX12_takesRow_35 : decode cX12_takesRow 35 = .ok (.istore_n 2, 1) := by decide +kernel
theorem dX12_takesRow_36 : decode cX12_takesRow 36 = .ok (.iinc 3 1, 3) := by decide +kernel
theorem dX12_takesRow_39 : decode cX12_takesRow 39 = .ok (.goto (-35), 3) := by decide +kernel
theorem dX12_takesRow_42 : decode cX12_takesRow 42 = .ok (.aload_n 0, 1) := by decide +kernel
theorem dX12_takesRow_43 : decode cX12_takesRow 43 = .ok (.invokevirtual 93, 3) := by decide +kernel
theorem dX12_takesRow_46 : decode cX12_takesRow 46 = .ok (.iconst 0, 1) := by decide +kernel
theorem dX12_takesRow_47 : decode cX12_takesRow 47 = .ok (.istore_n 3, 1) := by decide +kernel
theorem dX12_takesRow_48 : decode cX12_takesRow 48 = .ok (.iload_n 3, 1) := by decide +kernel
theorem dX12_takesRow_49 : decode cX12_takesRow 49 = .ok (.aload_n 0, 1) := by decide +kernel
theorem dX12_takesRow_50 : decode cX12_takesRow 50 = .ok (.iload_n 1, 1) := by decide +kernel
theorem dX12_takesRow_51 : decode cX12_takesRow 51 = .ok (.invokevirtual 63, 3) := by decide +kernel
theorem dX12_takesRow_54 : decode cX12_takesRow 54 = .ok (.if_icmp .ge 21, 3) := by decide +kernel
theorem dX12_takesRow_57 : decode cX12_takesRow 57 = .ok (.aload_n 0, 1) := by decide +kernel
theorem dX12_takesRow_58 : decode cX12_takesRow 58 = .ok (.iload_n 1, 1) := by decide +kernel
theorem dX12_takesRow_59 : decode cX12_takesRow 59 = .ok (.iload_n 3, 1) := by decide +kernel
theorem dX12_takesRow_60 : decode cX12_takesRow 60 = .ok (.aload_n 0, 1) := by decide +kernel
theorem dX12_takesRow_61 : decode cX12_takesRow 61 = .ok (.getfield 26, 3) := by decide +kernel
theorem dX12_takesRow_64 : decode cX12_takesRow 64 = .ok (.iload_n 3, 1) := by decide +kernel
theorem dX12_takesRow_65 : decode cX12_takesRow 65 = .ok (.iaload, 1) := by decide +kernel
theorem dX12_takesRow_66 : decode cX12_takesRow 66 = .ok (.invokevirtual 169, 3) := by decide +kernel
theorem dX12_takesRow_69 : decode cX12_takesRow 69 = .ok (.iinc 3 1, 3) := by decide +kernel
theorem dX12_takesRow_72 : decode cX12_takesRow 72 = .ok (.goto (-24), 3) := by decide +kernel
theorem dX12_takesRow_75 : decode cX12_takesRow 75 = .ok (.aload_n 0, 1) := by decide +kernel
theorem dX12_takesRow_76 : decode cX12_takesRow 76 = .ok (.iload_n 2, 1) := by decide +kernel
theorem dX12_takesRow_77 : decode cX12_takesRow 77 = .ok (.invokevirtual 190, 3) := by decide +kernel
theorem dX12_takesRow_80 : decode cX12_takesRow 80 = .ok (.ireturn, 1) := by decide +kernel
theorem dX12_tell_0 : decode cX12_tell 0 = .ok (.aload_n 0, 1) := by decide +kernel
theorem dX12_tell_1 : decode cX12_tell 1 = .ok (.iload_n 1, 1) := by decide +kernel
theorem dX12_tell_2 : decode cX12_tell 2 = .ok (.invokevirtual 67, 3) := by decide +kernel
theorem dX12_tell_5 : decode cX12_tell 5 = .ok (.ifCond .eq 13, 3) := by decide +kernel
theorem dX12_tell_8 : decode cX12_tell 8 = .ok (.iload_n 2, 1) := by decide +kernel
theorem dX12_tell_9 : decode cX12_tell 9 = .ok (.i2l, 1) := by decide +kernel
theorem dX12_tell_10 : decode cX12_tell 10 = .ok (.lconst 0, 1) := by decide +kernel
theorem dX12_tell_11 : decode cX12_tell 11 = .ok (.lconst 1, 1) := by decide +kernel
theorem dX12_tell_12 : decode cX12_tell 12 = .ok (.invokestatic 55, 3) := by decide +kernel
theorem dX12_tell_15 : decode cX12_tell 15 = .ok (.ifCond .ne 6, 3) := by decide +kernel
theorem dX12_tell_18 : decode cX12_tell 18 = .ok (.bipush (-2), 2) := by decide +kernel
theorem dX12_tell_20 : decode cX12_tell 20 = .ok (.ireturn, 1) := by decide +kernel
theorem dX12_tell_21 : decode cX12_tell 21 = .ok (.aload_n 0, 1) := by decide +kernel
theorem dX12_tell_22 : decode cX12_tell 22 = .ok (.iconst 0, 1) := by decide +kernel
theorem dX12_tell_23 : decode cX12_tell 23 = .ok (.putfield 193, 3) := by decide +kernel
theorem dX12_tell_26 : decode cX12_tell 26 = .ok (.iload_n 2, 1) := by decide +kernel
theorem dX12_tell_27 : decode cX12_tell 27 = .ok (.ifCond .ne 13, 3) := by decide +kernel
theorem dX12_tell_30 : decode cX12_tell 30 = .ok (.aload_n 0, 1) := by decide +kernel
theorem dX12_tell_31 : decode cX12_tell 31 = .ok (.iload_n 1, 1) := by decide +kernel
theorem dX12_tell_32 : decode cX12_tell 32 = .ok (.invokevirtual 353, 3) := by decide +kernel
theorem dX12_tell_35 : decode cX12_tell 35 = .ok (.aload_n 0, 1) := by decide +kernel
theorem dX12_tell_36 : decode cX12_tell 36 = .ok (.getfield 193, 3) := by decide +kernel
theorem dX12_tell_39 : decode cX12_tell 39 = .ok (.ireturn, 1) := by decide +kernel
theorem dX12_tell_40 : decode cX12_tell 40 = .ok (.iconst 1, 1) := by decide +kernel
theorem dX12_tell_41 : decode cX12_tell 41 = .ok (.istore_n 3, 1) := by decide +kernel
theorem dX12_tell_42 : decode cX12_tell 42 = .ok (.iload_n 3, 1) := by decide +kernel
theorem dX12_tell_43 : decode cX12_tell 43 = .ok (.aload_n 0, 1) := by decide +kernel
theorem dX12_tell_44 : decode cX12_tell 44 = .ok (.iload_n 1, 1) := by decide +kernel
theorem dX12_tell_45 : decode cX12_tell 45 = .ok (.invokevirtual 63, 3) := by decide +kernel
theorem dX12_tell_48 : decode cX12_tell 48 = .ok (.if_icmp .ge 38, 3) := by decide +kernel
theorem dX12_tell_51 : decode cX12_tell 51 = .ok (.aload_n 0, 1) := by decide +kernel
theorem dX12_tell_52 : decode cX12_tell 52 = .ok (.iload_n 3, 1) := by decide +kernel
theorem dX12_tell_53 : decode cX12_tell 53 = .ok (.iconst 1, 1) := by decide +kernel
theorem dX12_tell_54 : decode cX12_tell 54 = .ok (.if_icmp .ne 9, 3) := by decide +kernel
theorem dX12_tell_57 : decode cX12_tell 57 = .ok (.ldc_w 356, 3) := by decide +kernel
theorem dX12_tell_60 : decode cX12_tell 60 = .ok (.goto 6, 3) := by decide +kernel
theorem dX12_tell_63 : decode cX12_tell 63 = .ok (.ldc_w 358, 3) := by decide +kernel
theorem dX12_tell_66 : decode cX12_tell 66 = .ok (.invokevirtual 337, 3) := by decide +kernel
theorem dX12_tell_69 : decode cX12_tell 69 = .ok (.aload_n 0, 1) := by decide +kernel
theorem dX12_tell_70 : decode cX12_tell 70 = .ok (.aload_n 0, 1) := by decide +kernel
theorem dX12_tell_71 : decode cX12_tell 71 = .ok (.iload_n 1, 1) := by decide +kernel
theorem dX12_tell_72 : decode cX12_tell 72 = .ok (.iconst 0, 1) := by decide +kernel
theorem dX12_tell_73 : decode cX12_tell 73 = .ok (.iload_n 3, 1) := by decide +kernel
theorem dX12_tell_74 : decode cX12_tell 74 = .ok (.invokevirtual 260, 3) := by decide +kernel
theorem dX12_tell_77 : decode cX12_tell 77 = .ok (.invokevirtual 332, 3) := by decide +kernel
theorem dX12_tell_80 : decode cX12_tell 80 = .ok (.iinc 3 1, 3) := by decide +kernel
theorem dX12_tell_83 : decode cX12_tell 83 = .ok (.goto (-41), 3) := by decide +kernel
theorem dX12_tell_86 : decode cX12_tell 86 = .ok (.aload_n 0, 1) := by decide +kernel
theorem dX12_tell_87 : decode cX12_tell 87 = .ok (.getfield 193, 3) := by decide +kernel
theorem dX12_tell_90 : decode cX12_tell 90 = .ok (.ireturn, 1) := by decide +kernel
theorem dX12_told_0 : decode cX12_told 0 = .ok (.iload_n 1, 1) := by decide +kernel
theorem dX12_told_1 : decode cX12_told 1 = .ok (.invokestatic 59, 3) := by decide +kernel
theorem dX12_told_4 : decode cX12_told 4 = .ok (.ifCond .ne 6, 3) := by decide +kernel
theorem dX12_told_7 : decode cX12_told 7 = .ok (.bipush (-2), 2) := by decide +kernel
theorem dX12_told_9 : decode cX12_told 9 = .ok (.ireturn, 1) := by decide +kernel
theorem dX12_told_10 : decode cX12_told 10 = .ok (.aload_n 0, 1) := by decide +kernel
theorem dX12_told_11 : decode cX12_told 11 = .ok (.iconst 0, 1) := by decide +kernel
theorem dX12_told_12 : decode cX12_told 12 = .ok (.putfield 127, 3) := by decide +kernel
theorem dX12_told_15 : decode cX12_told 15 = .ok (.aload_n 0, 1) := by decide +kernel
theorem dX12_told_16 : decode cX12_told 16 = .ok (.iconst (-1), 1) := by decide +kernel
theorem dX12_told_17 : decode cX12_told 17 = .ok (.putfield 22, 3) := by decide +kernel
theorem dX12_told_20 : decode cX12_told 20 = .ok (.aload_n 0, 1) := by decide +kernel
theorem dX12_told_21 : decode cX12_told 21 = .ok (.iconst 0, 1) := by decide +kernel
theorem dX12_told_22 : decode cX12_told 22 = .ok (.putfield 123, 3) := by decide +kernel
theorem dX12_told_25 : decode cX12_told 25 = .ok (.aload_n 0, 1) := by decide +kernel
theorem dX12_told_26 : decode cX12_told 26 = .ok (.iconst 0, 1) := by decide +kernel
theorem dX12_told_27 : decode cX12_told 27 = .ok (.putfield 103, 3) := by decide +kernel
theorem dX12_told_30 : decode cX12_told 30 = .ok (.aload_n 0, 1) := by decide +kernel
theorem dX12_told_31 : decode cX12_told 31 = .ok (.invokevirtual 93, 3) := by decide +kernel
theorem dX12_told_34 : decode cX12_told 34 = .ok (.aload_n 0, 1) := by decide +kernel
theorem dX12_told_35 : decode cX12_told 35 = .ok (.invokevirtual 130, 3) := by decide +kernel
theorem dX12_told_38 : decode cX12_told 38 = .ok (.aload_n 0, 1) := by decide +kernel
theorem dX12_told_39 : decode cX12_told 39 = .ok (.iload_n 1, 1) := by decide +kernel
theorem dX12_told_40 : decode cX12_told 40 = .ok (.invokevirtual 187, 3) := by decide +kernel
theorem dX12_told_43 : decode cX12_told 43 = .ok (.aload_n 0, 1) := by decide +kernel
theorem dX12_told_44 : decode cX12_told 44 = .ok (.iconst 0, 1) := by decide +kernel
theorem dX12_told_45 : decode cX12_told 45 = .ok (.putfield 100, 3) := by decide +kernel
theorem dX12_told_48 : decode cX12_told 48 = .ok (.aload_n 0, 1) := by decide +kernel
theorem dX12_told_49 : decode cX12_told 49 = .ok (.getfield 123, 3) := by decide +kernel
theorem dX12_told_52 : decode cX12_told 52 = .ok (.ifCond .eq 33, 3) := by decide +kernel
theorem dX12_told_55 : decode cX12_told 55 = .ok (.iconst 0, 1) := by decide +kernel
theorem dX12_told_56 : decode cX12_told 56 = .ok (.istore_n 2, 1) := by decide +kernel
theorem dX12_told_57 : decode cX12_told 57 = .ok (.iload_n 2, 1) := by decide +kernel
theorem dX12_told_58 : decode cX12_told 58 = .ok (.sipush 273, 3) := by decide +kernel
theorem dX12_told_61 : decode cX12_told 61 = .ok (.if_icmp .ge 21, 3) := by decide +kernel
theorem dX12_told_64 : decode cX12_told 64 = .ok (.aload_n 0, 1) := by decide +kernel
theorem dX12_told_65 : decode cX12_told 65 = .ok (.getfield 7, 3) := by decide +kernel
theorem dX12_told_68 : decode cX12_told 68 = .ok (.iload_n 2, 1) := by decide +kernel
theorem dX12_told_69 : decode cX12_told 69 = .ok (.aload_n 0, 1) := by decide +kernel
theorem dX12_told_70 : decode cX12_told 70 = .ok (.getfield 13, 3) := by decide +kernel
theorem dX12_told_73 : decode cX12_told 73 = .ok (.iload_n 2, 1) := by decide +kernel
theorem dX12_told_74 : decode cX12_told 74 = .ok (.iaload, 1) := by decide +kernel
theorem dX12_told_75 : decode cX12_told 75 = .ok (.iastore, 1) := by decide +kernel
theorem dX12_told_76 : decode cX12_told 76 = .ok (.iinc 2 1, 3) := by decide +kernel
theorem dX12_told_79 : decode cX12_told 79 = .ok (.goto (-22), 3) := by decide +kernel
theorem dX12_told_82 : decode cX12_told 82 = .ok (.bipush (-4), 2) := by decide +kernel
theorem dX12_told_84 : decode cX12_told 84 = .ok (.ireturn, 1) := by decide +kernel
theorem dX12_told_85 : decode cX12_told 85 = .ok (.aload_n 0, 1) := by decide +kernel
theorem dX12_told_86 : decode cX12_told 86 = .ok (.aload_n 0, 1) := by decide +kernel
theorem dX12_told_87 : decode cX12_told 87 = .ok (.iload_n 1, 1) := by decide +kernel
theorem dX12_told_88 : decode cX12_told 88 = .ok (.invokevirtual 152, 3) := by decide +kernel
theorem dX12_told_91 : decode cX12_told 91 = .ok (.invokevirtual 190, 3) := by decide +kernel
theorem dX12_told_94 : decode cX12_told 94 = .ok (.ireturn, 1) := by decide +kernel
theorem dX12_undo_0 : decode cX12_undo 0 = .ok (.aload_n 0, 1) := by decide +kernel
theorem dX12_undo_1 : decode cX12_undo 1 = .ok (.getfield 87, 3) := by decide +kernel
theorem dX12_undo_4 : decode cX12_undo 4 = .ok (.ifCond .ne 5, 3) := by decide +kernel
theorem dX12_undo_7 : decode cX12_undo 7 = .ok (.iconst (-1), 1) := by decide +kernel
theorem dX12_undo_8 : decode cX12_undo 8 = .ok (.ireturn, 1) := by decide +kernel
theorem dX12_undo_9 : decode cX12_undo 9 = .ok (.aload_n 0, 1) := by decide +kernel
theorem dX12_undo_10 : decode cX12_undo 10 = .ok (.dup, 1) := by decide +kernel
theorem dX12_undo_11 : decode cX12_undo 11 = .ok (.getfield 87, 3) := by decide +kernel
theorem dX12_undo_14 : decode cX12_undo 14 = .ok (.iconst 1, 1) := by decide +kernel
theorem dX12_undo_15 : decode cX12_undo 15 = .ok (.isub, 1) := by decide +kernel
theorem dX12_undo_16 : decode cX12_undo 16 = .ok (.putfield 87, 3) := by decide +kernel
theorem dX12_undo_19 : decode cX12_undo 19 = .ok (.iconst 0, 1) := by decide +kernel
theorem dX12_undo_20 : decode cX12_undo 20 = .ok (.istore_n 1, 1) := by decide +kernel
theorem dX12_undo_21 : decode cX12_undo 21 = .ok (.iload_n 1, 1) := by decide +kernel
theorem dX12_undo_22 : decode cX12_undo 22 = .ok (.sipush 273, 3) := by decide +kernel
theorem dX12_undo_25 : decode cX12_undo 25 = .ok (.if_icmp .ge 30, 3) := by decide +kernel
theorem dX12_undo_28 : decode cX12_undo 28 = .ok (.aload_n 0, 1) := by decide +kernel
theorem dX12_undo_29 : decode cX12_undo 29 = .ok (.getfield 7, 3) := by decide +kernel
theorem dX12_undo_32 : decode cX12_undo 32 = .ok (.iload_n 1, 1) := by decide +kernel
theorem dX12_undo_33 : decode cX12_undo 33 = .ok (.aload_n 0, 1) := by decide +kernel
theorem dX12_undo_34 : decode cX12_undo 34 = .ok (.getfield 16, 3) := by decide +kernel
theorem dX12_undo_37 : decode cX12_undo 37 = .ok (.sipush 273, 3) := by decide +kernel
theorem dX12_undo_40 : decode cX12_undo 40 = .ok (.aload_n 0, 1) := by decide +kernel
theorem dX12_undo_41 : decode cX12_undo 41 = .ok (.getfield 87, 3) := by decide +kernel
theorem dX12_undo_44 : decode cX12_undo 44 = .ok (.imul, 1) := by decide +kernel
theorem dX12_undo_45 : decode cX12_undo 45 = .ok (.iload_n 1, 1) := by decide +kernel
theorem dX12_undo_46 : decode cX12_undo 46 = .ok (.iadd, 1) := by decide +kernel
theorem dX12_undo_47 : decode cX12_undo 47 = .ok (.iaload, 1) := by decide +kernel
theorem dX12_undo_48 : decode cX12_undo 48 = .ok (.iastore, 1) := by decide +kernel
theorem dX12_undo_49 : decode cX12_undo 49 = .ok (.iinc 1 1, 3) := by decide +kernel
theorem dX12_undo_52 : decode cX12_undo 52 = .ok (.goto (-31), 3) := by decide +kernel
theorem dX12_undo_55 : decode cX12_undo 55 = .ok (.aload_n 0, 1) := by decide +kernel
theorem dX12_undo_56 : decode cX12_undo 56 = .ok (.getfield 87, 3) := by decide +kernel
theorem dX12_undo_59 : decode cX12_undo 59 = .ok (.ireturn, 1) := by decide +kernel
theorem dX12_value_0 : decode cX12_value 0 = .ok (.aload_n 0, 1) := by decide +kernel
theorem dX12_value_1 : decode cX12_value 1 = .ok (.iload_n 1, 1) := by decide +kernel
theorem dX12_value_2 : decode cX12_value 2 = .ok (.invokevirtual 67, 3) := by decide +kernel
theorem dX12_value_5 : decode cX12_value 5 = .ok (.ifCond .eq 10, 3) := by decide +kernel
theorem dX12_value_8 : decode cX12_value 8 = .ok (.iload_n 2, 1) := by decide +kernel
theorem dX12_value_9 : decode cX12_value 9 = .ok (.invokestatic 245, 3) := by decide +kernel
theorem dX12_value_12 : decode cX12_value 12 = .ok (.ifCond .ne 6, 3) := by decide +kernel
theorem dX12_value_15 : decode cX12_value 15 = .ok (.bipush (-2), 2) := by decide +kernel
theorem dX12_value_17 : decode cX12_value 17 = .ok (.ireturn, 1) := by decide +kernel
theorem dX12_value_18 : decode cX12_value 18 = .ok (.aload_n 0, 1) := by decide +kernel
theorem dX12_value_19 : decode cX12_value 19 = .ok (.iload_n 1, 1) := by decide +kernel
theorem dX12_value_20 : decode cX12_value 20 = .ok (.invokevirtual 248, 3) := by decide +kernel
theorem dX12_value_23 : decode cX12_value 23 = .ok (.aload_n 0, 1) := by decide +kernel
theorem dX12_value_24 : decode cX12_value 24 = .ok (.iload_n 1, 1) := by decide +kernel
theorem dX12_value_25 : decode cX12_value 25 = .ok (.iload_n 2, 1) := by decide +kernel
theorem dX12_value_26 : decode cX12_value 26 = .ok (.invokevirtual 251, 3) := by decide +kernel
theorem dX12_value_29 : decode cX12_value 29 = .ok (.ireturn, 1) := by decide +kernel
theorem dX12_valueOf_0 : decode cX12_valueOf 0 = .ok (.iload_n 2, 1) := by decide +kernel
theorem dX12_valueOf_1 : decode cX12_valueOf 1 = .ok (.iconst 2, 1) := by decide +kernel
theorem dX12_valueOf_2 : decode cX12_valueOf 2 = .ok (.if_icmp .ne 9, 3) := by decide +kernel
theorem dX12_valueOf_5 : decode cX12_valueOf 5 = .ok (.aload_n 0, 1) := by decide +kernel
theorem dX12_valueOf_6 : decode cX12_valueOf 6 = .ok (.iload_n 1, 1) := by decide +kernel
theorem dX12_valueOf_7 : decode cX12_valueOf 7 = .ok (.invokevirtual 235, 3) := by decide +kernel
theorem dX12_valueOf_10 : decode cX12_valueOf 10 = .ok (.ireturn, 1) := by decide +kernel
theorem dX12_valueOf_11 : decode cX12_valueOf 11 = .ok (.iconst 0, 1) := by decide +kernel
theorem dX12_valueOf_12 : decode cX12_valueOf 12 = .ok (.istore_n 3, 1) := by decide +kernel
theorem dX12_valueOf_13 : decode cX12_valueOf 13 = .ok (.iconst 0, 1) := by decide +kernel
theorem dX12_valueOf_14 : decode cX12_valueOf 14 = .ok (.istore 4, 2) := by decide +kernel
theorem dX12_valueOf_16 : decode cX12_valueOf 16 = .ok (.iconst 0, 1) := by decide +kernel
theorem dX12_valueOf_17 : decode cX12_valueOf 17 = .ok (.istore 5, 2) := by decide +kernel
theorem dX12_valueOf_19 : decode cX12_valueOf 19 = .ok (.iload 5, 2) := by decide +kernel
theorem dX12_valueOf_21 : decode cX12_valueOf 21 = .ok (.aload_n 0, 1) := by decide +kernel
theorem dX12_valueOf_22 : decode cX12_valueOf 22 = .ok (.iload_n 1, 1) := by decide +kernel
theorem dX12_valueOf_23 : decode cX12_valueOf 23 = .ok (.invokevirtual 63, 3) := by decide +kernel
theorem dX12_valueOf_26 : decode cX12_valueOf 26 = .ok (.if_icmp .ge 44, 3) := by decide +kernel
theorem dX12_valueOf_29 : decode cX12_valueOf 29 = .ok (.iload_n 2, 1) := by decide +kernel
theorem dX12_valueOf_30 : decode cX12_valueOf 30 = .ok (.iload_n 3, 1) := by decide +kernel
theorem dX12_valueOf_31 : decode cX12_valueOf 31 = .ok (.aload_n 0, 1) := by decide +kernel
theorem dX12_valueOf_32 : decode cX12_valueOf 32 = .ok (.iload_n 1, 1) := by decide +kernel
theorem dX12_valueOf_33 : decode cX12_valueOf 33 = .ok (.iload_n 2, 1) := by decide +kernel
theorem dX12_valueOf_34 : decode cX12_valueOf 34 = .ok (.iload 4, 2) := by decide +kernel
theorem dX12_valueOf_36 : decode cX12_valueOf 36 = .ok (.aload_n 0, 1) := by decide +kernel
theorem dX12_valueOf_37 : decode cX12_valueOf 37 = .ok (.getfield 26, 3) := by decide +kernel
theorem dX12_valueOf_40 : decode cX12_valueOf 40 = .ok (.iload 5, 2) := by decide +kernel
theorem dX12_valueOf_42 : decode cX12_valueOf 42 = .ok (.iaload, 1) := by decide +kernel
theorem dX12_valueOf_43 : decode cX12_valueOf 43 = .ok (.invokevirtual 238, 3) := by decide +kernel
theorem dX12_valueOf_46 : decode cX12_valueOf 46 = .ok (.invokestatic 242, 3) := by decide +kernel
theorem dX12_valueOf_49 : decode cX12_valueOf 49 = .ok (.istore_n 3, 1) := by decide +kernel
theorem dX12_valueOf_50 : decode cX12_valueOf 50 = .ok (.iload 4, 2) := by decide +kernel
theorem dX12_valueOf_52 : decode cX12_valueOf 52 = .ok (.iconst 1, 1) := by decide +kernel
theorem dX12_valueOf_53 : decode cX12_valueOf 53 = .ok (.aload_n 0, 1) := by decide +kernel
theorem dX12_valueOf_54 : decode cX12_valueOf 54 = .ok (.getfield 26, 3) := by decide +kernel
theorem dX12_valueOf_57 : decode cX12_valueOf 57 = .ok (.iload 5, 2) := by decide +kernel
theorem dX12_valueOf_59 : decode cX12_valueOf 59 = .ok (.iaload, 1) := by decide +kernel
theorem dX12_valueOf_60 : decode cX12_valueOf 60 = .ok (.ishl, 1) := by decide +kernel
theorem dX12_valueOf_61 : decode cX12_valueOf 61 = .ok (.ior, 1) := by decide +kernel
theorem dX12_valueOf_62 : decode cX12_valueOf 62 = .ok (.istore 4, 2) := by decide +kernel
theorem dX12_valueOf_64 : decode cX12_valueOf 64 = .ok (.iinc 5 1, 3) := by decide +kernel
theorem dX12_valueOf_67 : decode cX12_valueOf 67 = .ok (.goto (-48), 3) := by decide +kernel
theorem dX12_valueOf_70 : decode cX12_valueOf 70 = .ok (.iload_n 3, 1) := by decide +kernel
theorem dX12_valueOf_71 : decode cX12_valueOf 71 = .ok (.ireturn, 1) := by decide +kernel
theorem dX12_ways_0 : decode cX12_ways 0 = .ok (.aload_n 0, 1) := by decide +kernel
theorem dX12_ways_1 : decode cX12_ways 1 = .ok (.iload_n 1, 1) := by decide +kernel
theorem dX12_ways_2 : decode cX12_ways 2 = .ok (.invokevirtual 67, 3) := by decide +kernel
theorem dX12_ways_5 : decode cX12_ways 5 = .ok (.ifCond .eq 10, 3) := by decide +kernel
theorem dX12_ways_8 : decode cX12_ways 8 = .ok (.iload_n 2, 1) := by decide +kernel
theorem dX12_ways_9 : decode cX12_ways 9 = .ok (.invokestatic 245, 3) := by decide +kernel
theorem dX12_ways_12 : decode cX12_ways 12 = .ok (.ifCond .ne 6, 3) := by decide +kernel
theorem dX12_ways_15 : decode cX12_ways 15 = .ok (.bipush (-2), 2) := by decide +kernel
theorem dX12_ways_17 : decode cX12_ways 17 = .ok (.ireturn, 1) := by decide +kernel
theorem dX12_ways_18 : decode cX12_ways 18 = .ok (.iload_n 2, 1) := by decide +kernel
theorem dX12_ways_19 : decode cX12_ways 19 = .ok (.iconst 2, 1) := by decide +kernel
theorem dX12_ways_20 : decode cX12_ways 20 = .ok (.if_icmp .ne 15, 3) := by decide +kernel
theorem dX12_ways_23 : decode cX12_ways 23 = .ok (.aload_n 0, 1) := by decide +kernel
theorem dX12_ways_24 : decode cX12_ways 24 = .ok (.iload_n 1, 1) := by decide +kernel
theorem dX12_ways_25 : decode cX12_ways 25 = .ok (.aload_n 0, 1) := by decide +kernel
theorem dX12_ways_26 : decode cX12_ways 26 = .ok (.iload_n 1, 1) := by decide +kernel
theorem dX12_ways_27 : decode cX12_ways 27 = .ok (.invokevirtual 277, 3) := by decide +kernel
theorem dX12_ways_30 : decode cX12_ways 30 = .ok (.iconst 0, 1) := by decide +kernel
theorem dX12_ways_31 : decode cX12_ways 31 = .ok (.invokevirtual 293, 3) := by decide +kernel
theorem dX12_ways_34 : decode cX12_ways 34 = .ok (.ireturn, 1) := by decide +kernel
theorem dX12_ways_35 : decode cX12_ways 35 = .ok (.aload_n 0, 1) := by decide +kernel
theorem dX12_ways_36 : decode cX12_ways 36 = .ok (.iload_n 1, 1) := by decide +kernel
theorem dX12_ways_37 : decode cX12_ways 37 = .ok (.iload_n 2, 1) := by decide +kernel
theorem dX12_ways_38 : decode cX12_ways 38 = .ok (.invokevirtual 280, 3) := by decide +kernel
theorem dX12_ways_41 : decode cX12_ways 41 = .ok (.iload_n 2, 1) := by decide +kernel
theorem dX12_ways_42 : decode cX12_ways 42 = .ok (.invokestatic 232, 3) := by decide +kernel
theorem dX12_ways_45 : decode cX12_ways 45 = .ok (.ifCond .eq 17, 3) := by decide +kernel
theorem dX12_ways_48 : decode cX12_ways 48 = .ok (.aload_n 0, 1) := by decide +kernel
theorem dX12_ways_49 : decode cX12_ways 49 = .ok (.iload_n 1, 1) := by decide +kernel
theorem dX12_ways_50 : decode cX12_ways 50 = .ok (.aload_n 0, 1) := by decide +kernel
theorem dX12_ways_51 : decode cX12_ways 51 = .ok (.getfield 29, 3) := by decide +kernel
theorem dX12_ways_54 : decode cX12_ways 54 = .ok (.iconst 0, 1) := by decide +kernel
theorem dX12_ways_55 : decode cX12_ways 55 = .ok (.iaload, 1) := by decide +kernel
theorem dX12_ways_56 : decode cX12_ways 56 = .ok (.invokevirtual 304, 3) := by decide +kernel
theorem dX12_ways_59 : decode cX12_ways 59 = .ok (.goto 8, 3) := by decide +kernel
theorem dX12_ways_62 : decode cX12_ways 62 = .ok (.aload_n 0, 1) := by decide +kernel
theorem dX12_ways_63 : decode cX12_ways 63 = .ok (.iload_n 1, 1) := by decide +kernel
theorem dX12_ways_64 : decode cX12_ways 64 = .ok (.invokevirtual 307, 3) := by decide +kernel
theorem dX12_ways_67 : decode cX12_ways 67 = .ok (.ireturn, 1) := by decide +kernel
theorem dX12_weighs_0 : decode cX12_weighs 0 = .ok (.aload_n 0, 1) := by decide +kernel
theorem dX12_weighs_1 : decode cX12_weighs 1 = .ok (.getfield 7, 3) := by decide +kernel
theorem dX12_weighs_4 : decode cX12_weighs 4 = .ok (.bipush 91, 2) := by decide +kernel
theorem dX12_weighs_6 : decode cX12_weighs 6 = .ok (.iload_n 1, 1) := by decide +kernel
theorem dX12_weighs_7 : decode cX12_weighs 7 = .ok (.imul, 1) := by decide +kernel
theorem dX12_weighs_8 : decode cX12_weighs 8 = .ok (.iconst 1, 1) := by decide +kernel
theorem dX12_weighs_9 : decode cX12_weighs 9 = .ok (.iadd, 1) := by decide +kernel
theorem dX12_weighs_10 : decode cX12_weighs 10 = .ok (.bipush 9, 2) := by decide +kernel
theorem dX12_weighs_12 : decode cX12_weighs 12 = .ok (.iload_n 2, 1) := by decide +kernel
theorem dX12_weighs_13 : decode cX12_weighs 13 = .ok (.imul, 1) := by decide +kernel
theorem dX12_weighs_14 : decode cX12_weighs 14 = .ok (.iadd, 1) := by decide +kernel
theorem dX12_weighs_15 : decode cX12_weighs 15 = .ok (.iload_n 3, 1) := by decide +kernel
theorem dX12_weighs_16 : decode cX12_weighs 16 = .ok (.iadd, 1) := by decide +kernel
theorem dX12_weighs_17 : decode cX12_weighs 17 = .ok (.iload 4, 2) := by decide +kernel
theorem dX12_weighs_19 : decode cX12_weighs 19 = .ok (.iastore, 1) := by decide +kernel
theorem dX12_weighs_20 : decode cX12_weighs 20 = .ok (.aload_n 0, 1) := by decide +kernel
theorem dX12_weighs_21 : decode cX12_weighs 21 = .ok (.getfield 7, 3) := by decide +kernel
theorem dX12_weighs_24 : decode cX12_weighs 24 = .ok (.bipush 91, 2) := by decide +kernel
theorem dX12_weighs_26 : decode cX12_weighs 26 = .ok (.iload_n 1, 1) := by decide +kernel
theorem dX12_weighs_27 : decode cX12_weighs 27 = .ok (.imul, 1) := by decide +kernel
theorem dX12_weighs_28 : decode cX12_weighs 28 = .ok (.iconst 1, 1) := by decide +kernel
theorem dX12_weighs_29 : decode cX12_weighs 29 = .ok (.iadd, 1) := by decide +kernel
theorem dX12_weighs_30 : decode cX12_weighs 30 = .ok (.bipush 9, 2) := by decide +kernel
theorem dX12_weighs_32 : decode cX12_weighs 32 = .ok (.iload_n 3, 1) := by decide +kernel
theorem dX12_weighs_33 : decode cX12_weighs 33 = .ok (.imul, 1) := by decide +kernel
theorem dX12_weighs_34 : decode cX12_weighs 34 = .ok (.iadd, 1) := by decide +kernel
theorem dX12_weighs_35 : decode cX12_weighs 35 = .ok (.iload_n 2, 1) := by decide +kernel
theorem dX12_weighs_36 : decode cX12_weighs 36 = .ok (.iadd, 1) := by decide +kernel
theorem dX12_weighs_37 : decode cX12_weighs 37 = .ok (.iload 4, 2) := by decide +kernel
theorem dX12_weighs_39 : decode cX12_weighs 39 = .ok (.iastore, 1) := by decide +kernel
theorem dX12_weighs_40 : decode cX12_weighs 40 = .ok (.return_, 1) := by decide +kernel
theorem dX12_weight_0 : decode cX12_weight 0 = .ok (.aload_n 0, 1) := by decide +kernel
theorem dX12_weight_1 : decode cX12_weight 1 = .ok (.getfield 7, 3) := by decide +kernel
theorem dX12_weight_4 : decode cX12_weight 4 = .ok (.bipush 91, 2) := by decide +kernel
theorem dX12_weight_6 : decode cX12_weight 6 = .ok (.iload_n 1, 1) := by decide +kernel
theorem dX12_weight_7 : decode cX12_weight 7 = .ok (.imul, 1) := by decide +kernel
theorem dX12_weight_8 : decode cX12_weight 8 = .ok (.iconst 1, 1) := by decide +kernel
theorem dX12_weight_9 : decode cX12_weight 9 = .ok (.iadd, 1) := by decide +kernel
theorem dX12_weight_10 : decode cX12_weight 10 = .ok (.bipush 9, 2) := by decide +kernel
theorem dX12_weight_12 : decode cX12_weight 12 = .ok (.iload_n 2, 1) := by decide +kernel
theorem dX12_weight_13 : decode cX12_weight 13 = .ok (.imul, 1) := by decide +kernel
theorem dX12_weight_14 : decode cX12_weight 14 = .ok (.iadd, 1) := by decide +kernel
theorem dX12_weight_15 : decode cX12_weight 15 = .ok (.iload_n 3, 1) := by decide +kernel
theorem dX12_weight_16 : decode cX12_weight 16 = .ok (.iadd, 1) := by decide +kernel
theorem dX12_weight_17 : decode cX12_weight 17 = .ok (.iaload, 1) := by decide +kernel
theorem dX12_weight_18 : decode cX12_weight 18 = .ok (.ireturn, 1) := by decide +kernel
theorem dX12_weightOf_0 : decode cX12_weightOf 0 = .ok (.iconst 0, 1) := by decide +kernel
theorem dX12_weightOf_1 : decode cX12_weightOf 1 = .ok (.istore_n 3, 1) := by decide +kernel
theorem dX12_weightOf_2 : decode cX12_weightOf 2 = .ok (.iconst 0, 1) := by decide +kernel
theorem dX12_weightOf_3 : decode cX12_weightOf 3 = .ok (.istore 4, 2) := by decide +kernel
theorem dX12_weightOf_5 : decode cX12_weightOf 5 = .ok (.iload 4, 2) := by decide +kernel
theorem dX12_weightOf_7 : decode cX12_weightOf 7 = .ok (.aload_n 0, 1) := by decide +kernel
theorem dX12_weightOf_8 : decode cX12_weightOf 8 = .ok (.iload_n 1, 1) := by decide +kernel
theorem dX12_weightOf_9 : decode cX12_weightOf 9 = .ok (.invokevirtual 63, 3) := by decide +kernel
theorem dX12_weightOf_12 : decode cX12_weightOf 12 = .ok (.if_icmp .ge 20, 3) := by decide +kernel
theorem dX12_weightOf_15 : decode cX12_weightOf 15 = .ok (.iload_n 3, 1) := by decide +kernel
theorem dX12_weightOf_16 : decode cX12_weightOf 16 = .ok (.aload_n 0, 1) := by decide +kernel
theorem dX12_weightOf_17 : decode cX12_weightOf 17 = .ok (.iload_n 1, 1) := by decide +kernel
theorem dX12_weightOf_18 : decode cX12_weightOf 18 = .ok (.iload_n 2, 1) := by decide +kernel
theorem dX12_weightOf_19 : decode cX12_weightOf 19 = .ok (.iload 4, 2) := by decide +kernel
theorem dX12_weightOf_21 : decode cX12_weightOf 21 = .ok (.invokevirtual 76, 3) := by decide +kernel
theorem dX12_weightOf_24 : decode cX12_weightOf 24 = .ok (.iadd, 1) := by decide +kernel
theorem dX12_weightOf_25 : decode cX12_weightOf 25 = .ok (.istore_n 3, 1) := by decide +kernel
theorem dX12_weightOf_26 : decode cX12_weightOf 26 = .ok (.iinc 4 1, 3) := by decide +kernel
theorem dX12_weightOf_29 : decode cX12_weightOf 29 = .ok (.goto (-24), 3) := by decide +kernel
theorem dX12_weightOf_32 : decode cX12_weightOf 32 = .ok (.iload_n 3, 1) := by decide +kernel
theorem dX12_weightOf_33 : decode cX12_weightOf 33 = .ok (.ireturn, 1) := by decide +kernel
theorem dX12_within_0 : decode cX12_within 0 = .ok (.aload_n 0, 1) := by decide +kernel
theorem dX12_within_1 : decode cX12_within 1 = .ok (.iload_n 1, 1) := by decide +kernel
theorem dX12_within_2 : decode cX12_within 2 = .ok (.invokevirtual 67, 3) := by decide +kernel
theorem dX12_within_5 : decode cX12_within 5 = .ok (.ifCond .eq 26, 3) := by decide +kernel
theorem dX12_within_8 : decode cX12_within 8 = .ok (.iload_n 2, 1) := by decide +kernel
theorem dX12_within_9 : decode cX12_within 9 = .ok (.invokestatic 245, 3) := by decide +kernel
theorem dX12_within_12 : decode cX12_within 12 = .ok (.ifCond .eq 19, 3) := by decide +kernel
theorem dX12_within_15 : decode cX12_within 15 = .ok (.iload_n 2, 1) := by decide +kernel
theorem dX12_within_16 : decode cX12_within 16 = .ok (.iconst 2, 1) := by decide +kernel
theorem dX12_within_17 : decode cX12_within 17 = .ok (.if_icmp .eq 10, 3) := by decide +kernel
theorem dX12_within_20 : decode cX12_within 20 = .ok (.iload_n 2, 1) := by decide +kernel
theorem dX12_within_21 : decode cX12_within 21 = .ok (.invokestatic 232, 3) := by decide +kernel
theorem dX12_within_24 : decode cX12_within 24 = .ok (.ifCond .eq 7, 3) := by decide +kernel
theorem dX12_within_27 : decode cX12_within 27 = .ok (.iload_n 3, 1) := by decide +kernel
theorem dX12_within_28 : decode cX12_within 28 = .ok (.ifCond .ge 6, 3) := by decide +kernel
theorem dX12_within_31 : decode cX12_within 31 = .ok (.bipush (-2), 2) := by decide +kernel
theorem dX12_within_33 : decode cX12_within 33 = .ok (.ireturn, 1) := by decide +kernel
theorem dX12_within_34 : decode cX12_within 34 = .ok (.iload_n 2, 1) := by decide +kernel
theorem dX12_within_35 : decode cX12_within 35 = .ok (.iconst 2, 1) := by decide +kernel
theorem dX12_within_36 : decode cX12_within 36 = .ok (.if_icmp .ne 16, 3) := by decide +kernel
theorem dX12_within_39 : decode cX12_within 39 = .ok (.aload_n 0, 1) := by decide +kernel
theorem dX12_within_40 : decode cX12_within 40 = .ok (.iload_n 1, 1) := by decide +kernel
theorem dX12_within_41 : decode cX12_within 41 = .ok (.iload_n 3, 1) := by decide +kernel
theorem dX12_within_42 : decode cX12_within 42 = .ok (.bipush 9, 2) := by decide +kernel
theorem dX12_within_44 : decode cX12_within 44 = .ok (.invokestatic 118, 3) := by decide +kernel
theorem dX12_within_47 : decode cX12_within 47 = .ok (.iconst 0, 1) := by decide +kernel
theorem dX12_within_48 : decode cX12_within 48 = .ok (.invokevirtual 293, 3) := by decide +kernel
theorem dX12_within_51 : decode cX12_within 51 = .ok (.ireturn, 1) := by decide +kernel
theorem dX12_within_52 : decode cX12_within 52 = .ok (.aload_n 0, 1) := by decide +kernel
theorem dX12_within_53 : decode cX12_within 53 = .ok (.iload_n 1, 1) := by decide +kernel
theorem dX12_within_54 : decode cX12_within 54 = .ok (.iload_n 2, 1) := by decide +kernel
theorem dX12_within_55 : decode cX12_within 55 = .ok (.invokevirtual 270, 3) := by decide +kernel
theorem dX12_within_58 : decode cX12_within 58 = .ok (.aload_n 0, 1) := by decide +kernel
theorem dX12_within_59 : decode cX12_within 59 = .ok (.iload_n 1, 1) := by decide +kernel
theorem dX12_within_60 : decode cX12_within 60 = .ok (.iload_n 3, 1) := by decide +kernel
theorem dX12_within_61 : decode cX12_within 61 = .ok (.ldc_w 310, 3) := by decide +kernel
theorem dX12_within_64 : decode cX12_within 64 = .ok (.invokestatic 118, 3) := by decide +kernel
theorem dX12_within_67 : decode cX12_within 67 = .ok (.invokevirtual 304, 3) := by decide +kernel
theorem dX12_within_70 : decode cX12_within 70 = .ok (.ireturn, 1) := by decide +kernel
theorem dX12_worst_0 : decode cX12_worst 0 = .ok (.aload_n 0, 1) := by decide +kernel
theorem dX12_worst_1 : decode cX12_worst 1 = .ok (.iload_n 1, 1) := by decide +kernel
theorem dX12_worst_2 : decode cX12_worst 2 = .ok (.invokevirtual 67, 3) := by decide +kernel
theorem dX12_worst_5 : decode cX12_worst 5 = .ok (.ifCond .eq 31, 3) := by decide +kernel
theorem dX12_worst_8 : decode cX12_worst 8 = .ok (.iload_n 2, 1) := by decide +kernel
theorem dX12_worst_9 : decode cX12_worst 9 = .ok (.invokestatic 245, 3) := by decide +kernel
theorem dX12_worst_12 : decode cX12_worst 12 = .ok (.ifCond .eq 24, 3) := by decide +kernel
theorem dX12_worst_15 : decode cX12_worst 15 = .ok (.iload_n 2, 1) := by decide +kernel
theorem dX12_worst_16 : decode cX12_worst 16 = .ok (.iconst 2, 1) := by decide +kernel
theorem dX12_worst_17 : decode cX12_worst 17 = .ok (.if_icmp .eq 19, 3) := by decide +kernel
theorem dX12_worst_20 : decode cX12_worst 20 = .ok (.aload_n 0, 1) := by decide +kernel
theorem dX12_worst_21 : decode cX12_worst 21 = .ok (.iload_n 1, 1) := by decide +kernel
theorem dX12_worst_22 : decode cX12_worst 22 = .ok (.invokevirtual 63, 3) := by decide +kernel
theorem dX12_worst_25 : decode cX12_worst 25 = .ok (.iconst 1, 1) := by decide +kernel
theorem dX12_worst_26 : decode cX12_worst 26 = .ok (.if_icmp .ne 13, 3) := by decide +kernel
theorem dX12_worst_29 : decode cX12_worst 29 = .ok (.iload_n 2, 1) := by decide +kernel
theorem dX12_worst_30 : decode cX12_worst 30 = .ok (.invokestatic 254, 3) := by decide +kernel
theorem dX12_worst_33 : decode cX12_worst 33 = .ok (.ifCond .ne 6, 3) := by decide +kernel
theorem dX12_worst_36 : decode cX12_worst 36 = .ok (.bipush (-2), 2) := by decide +kernel
theorem dX12_worst_38 : decode cX12_worst 38 = .ok (.ireturn, 1) := by decide +kernel
theorem dX12_worst_39 : decode cX12_worst 39 = .ok (.iload_n 2, 1) := by decide +kernel
theorem dX12_worst_40 : decode cX12_worst 40 = .ok (.invokestatic 254, 3) := by decide +kernel
theorem dX12_worst_43 : decode cX12_worst 43 = .ok (.ifCond .eq 7, 3) := by decide +kernel
theorem dX12_worst_46 : decode cX12_worst 46 = .ok (.iconst 0, 1) := by decide +kernel
theorem dX12_worst_47 : decode cX12_worst 47 = .ok (.goto 4, 3) := by decide +kernel
theorem dX12_worst_50 : decode cX12_worst 50 = .ok (.iconst 1, 1) := by decide +kernel
theorem dX12_worst_51 : decode cX12_worst 51 = .ok (.istore_n 3, 1) := by decide +kernel
theorem dX12_worst_52 : decode cX12_worst 52 = .ok (.iload_n 3, 1) := by decide +kernel
theorem dX12_worst_53 : decode cX12_worst 53 = .ok (.iconst 1, 1) := by decide +kernel
theorem dX12_worst_54 : decode cX12_worst 54 = .ok (.iadd, 1) := by decide +kernel
theorem dX12_worst_55 : decode cX12_worst 55 = .ok (.istore 4, 2) := by decide +kernel
theorem dX12_worst_57 : decode cX12_worst 57 = .ok (.iload 4, 2) := by decide +kernel
theorem dX12_worst_59 : decode cX12_worst 59 = .ok (.aload_n 0, 1) := by decide +kernel
theorem dX12_worst_60 : decode cX12_worst 60 = .ok (.iload_n 1, 1) := by decide +kernel
theorem dX12_worst_61 : decode cX12_worst 61 = .ok (.invokevirtual 63, 3) := by decide +kernel
theorem dX12_worst_64 : decode cX12_worst 64 = .ok (.if_icmp .ge 34, 3) := by decide +kernel
theorem dX12_worst_67 : decode cX12_worst 67 = .ok (.aload_n 0, 1) := by decide +kernel
theorem dX12_worst_68 : decode cX12_worst 68 = .ok (.iload_n 1, 1) := by decide +kernel
theorem dX12_worst_69 : decode cX12_worst 69 = .ok (.iload_n 2, 1) := by decide +kernel
theorem dX12_worst_70 : decode cX12_worst 70 = .ok (.iload 4, 2) := by decide +kernel
theorem dX12_worst_72 : decode cX12_worst 72 = .ok (.invokevirtual 260, 3) := by decide +kernel
theorem dX12_worst_75 : decode cX12_worst 75 = .ok (.aload_n 0, 1) := by decide +kernel
theorem dX12_worst_76 : decode cX12_worst 76 = .ok (.iload_n 1, 1) := by decide +kernel
theorem dX12_worst_77 : decode cX12_worst 77 = .ok (.iload_n 2, 1) := by decide +kernel
theorem dX12_worst_78 : decode cX12_worst 78 = .ok (.iload_n 3, 1) := by decide +kernel
theorem dX12_worst_79 : decode cX12_worst 79 = .ok (.invokevirtual 260, 3) := by decide +kernel
theorem dX12_worst_82 : decode cX12_worst 82 = .ok (.if_icmp .le 8, 3) := by decide +kernel
theorem dX12_worst_85 : decode cX12_worst 85 = .ok (.iload 4, 2) := by decide +kernel
theorem dX12_worst_87 : decode cX12_worst 87 = .ok (.goto 4, 3) := by decide +kernel
theorem dX12_worst_90 : decode cX12_worst 90 = .ok (.iload_n 3, 1) := by decide +kernel
theorem dX12_worst_91 : decode cX12_worst 91 = .ok (.istore_n 3, 1) := by decide +kernel
theorem dX12_worst_92 : decode cX12_worst 92 = .ok (.iinc 4 1, 3) := by decide +kernel
theorem dX12_worst_95 : decode cX12_worst 95 = .ok (.goto (-38), 3) := by decide +kernel
theorem dX12_worst_98 : decode cX12_worst 98 = .ok (.iload_n 3, 1) := by decide +kernel
theorem dX12_worst_99 : decode cX12_worst 99 = .ok (.ireturn, 1) := by decide +kernel
theorem dX1_at_0 : decode cX1_at 0 = .ok (.iload_n 1, 1) := by decide +kernel
theorem dX1_at_1 : decode cX1_at 1 = .ok (.ifCond .lt 24, 3) := by decide +kernel
theorem dX1_at_4 : decode cX1_at 4 = .ok (.iload_n 1, 1) := by decide +kernel
theorem dX1_at_5 : decode cX1_at 5 = .ok (.aload_n 0, 1) := by decide +kernel
theorem dX1_at_6 : decode cX1_at 6 = .ok (.getfield 21, 3) := by decide +kernel
theorem dX1_at_9 : decode cX1_at 9 = .ok (.if_icmp .ge 16, 3) := by decide +kernel
theorem dX1_at_12 : decode cX1_at 12 = .ok (.aload_n 0, 1) := by decide +kernel
theorem dX1_at_13 : decode cX1_at 13 = .ok (.getfield 15, 3) := by decide +kernel
theorem dX1_at_16 : decode cX1_at 16 = .ok (.iload_n 1, 1) := by decide +kernel
theorem dX1_at_17 : decode cX1_at 17 = .ok (.baload, 1) := by decide +kernel
theorem dX1_at_18 : decode cX1_at 18 = .ok (.sipush 255, 3) := by decide +kernel
theorem dX1_at_21 : decode cX1_at 21 = .ok (.iand, 1) := by decide +kernel
theorem dX1_at_22 : decode cX1_at 22 = .ok (.goto 4, 3) := by decide +kernel
theorem dX1_at_25 : decode cX1_at 25 = .ok (.iconst (-1), 1) := by decide +kernel
theorem dX1_at_26 : decode cX1_at 26 = .ok (.ireturn, 1) := by decide +kernel
theorem dX1_hasRoom_0 : decode cX1_hasRoom 0 = .ok (.aload_n 0, 1) := by decide +kernel
theorem dX1_hasRoom_1 : decode cX1_hasRoom 1 = .ok (.getfield 21, 3) := by decide +kernel
theorem dX1_hasRoom_4 : decode cX1_hasRoom 4 = .ok (.iload_n 1, 1) := by decide +kernel
theorem dX1_hasRoom_5 : decode cX1_hasRoom 5 = .ok (.iadd, 1) := by decide +kernel
theorem dX1_hasRoom_6 : decode cX1_hasRoom 6 = .ok (.aload_n 0, 1) := by decide +kernel
theorem dX1_hasRoom_7 : decode cX1_hasRoom 7 = .ok (.getfield 15, 3) := by decide +kernel
theorem dX1_hasRoom_10 : decode cX1_hasRoom 10 = .ok (.arraylength, 1) := by decide +kernel
theorem dX1_hasRoom_11 : decode cX1_hasRoom 11 = .ok (.if_icmp .gt 7, 3) := by decide +kernel
theorem dX1_hasRoom_14 : decode cX1_hasRoom 14 = .ok (.iconst 1, 1) := by decide +kernel
theorem dX1_hasRoom_15 : decode cX1_hasRoom 15 = .ok (.goto 4, 3) := by decide +kernel
theorem dX1_hasRoom_18 : decode cX1_hasRoom 18 = .ok (.iconst 0, 1) := by decide +kernel
theorem dX1_hasRoom_19 : decode cX1_hasRoom 19 = .ok (.ireturn, 1) := by decide +kernel
theorem dX1_init_0 : decode cX1_init 0 = .ok (.aload_n 0, 1) := by decide +kernel
theorem dX1_init_1 : decode cX1_init 1 = .ok (.invokespecial 3, 3) := by decide +kernel
theorem dX1_init_4 : decode cX1_init 4 = .ok (.aload_n 0, 1) := by decide +kernel
theorem dX1_init_5 : decode cX1_init 5 = .ok (.iconst 0, 1) := by decide +kernel
theorem dX1_init_6 : decode cX1_init 6 = .ok (.iload_n 1, 1) := by decide +kernel
theorem dX1_init_7 : decode cX1_init 7 = .ok (.invokestatic 9, 3) := by decide +kernel
theorem dX1_init_10 : decode cX1_init 10 = .ok (.newarray .byte, 2) := by decide +kernel
theorem dX1_init_12 : decode cX1_init 12 = .ok (.putfield 15, 3) := by decide +kernel
theorem dX1_init_15 : decode cX1_init 15 = .ok (.return_, 1) := by decide +kernel
theorem dX1_put_0 : decode cX1_put 0 = .ok (.aload_n 0, 1) := by decide +kernel
theorem dX1_put_1 : decode cX1_put 1 = .ok (.iconst 1, 1) := by decide +kernel
theorem dX1_put_2 : decode cX1_put 2 = .ok (.invokevirtual 25, 3) := by decide +kernel
theorem dX1_put_5 : decode cX1_put 5 = .ok (.ifCond .eq 24, 3) := by decide +kernel
theorem dX1_put_8 : decode cX1_put 8 = .ok (.aload_n 0, 1) := by decide +kernel
theorem dX1_put_9 : decode cX1_put 9 = .ok (.getfield 15, 3) := by decide +kernel
theorem dX1_put_12 : decode cX1_put 12 = .ok (.aload_n 0, 1) := by decide +kernel
theorem dX1_put_13 : decode cX1_put 13 = .ok (.getfield 21, 3) := by decide +kernel
theorem dX1_put_16 : decode cX1_put 16 = .ok (.iload_n 1, 1) := by decide +kernel
theorem dX1_put_17 : decode cX1_put 17 = .ok (.i2b, 1) := by decide +kernel
theorem dX1_put_18 : decode cX1_put 18 = .ok (.bastore, 1) := by decide +kernel
theorem dX1_put_19 : decode cX1_put 19 = .ok (.aload_n 0, 1) := by decide +kernel
theorem dX1_put_20 : decode cX1_put 20 = .ok (.dup, 1) := by decide +kernel
theorem dX1_put_21 : decode cX1_put 21 = .ok (.getfield 21, 3) := by decide +kernel
theorem dX1_put_24 : decode cX1_put 24 = .ok (.iconst 1, 1) := by decide +kernel
theorem dX1_put_25 : decode cX1_put 25 = .ok (.iadd, 1) := by decide +kernel
theorem dX1_put_26 : decode cX1_put 26 = .ok (.putfield 21, 3) := by decide +kernel
theorem dX1_put_29 : decode cX1_put 29 = .ok (.return_, 1) := by decide +kernel
theorem dX1_putFour_0 : decode cX1_putFour 0 = .ok (.aload_n 0, 1) := by decide +kernel
theorem dX1_putFour_1 : decode cX1_putFour 1 = .ok (.iload_n 1, 1) := by decide +kernel
theorem dX1_putFour_2 : decode cX1_putFour 2 = .ok (.bipush 24, 2) := by decide +kernel
theorem dX1_putFour_4 : decode cX1_putFour 4 = .ok (.iushr, 1) := by decide +kernel
theorem dX1_putFour_5 : decode cX1_putFour 5 = .ok (.invokevirtual 29, 3) := by decide +kernel
theorem dX1_putFour_8 : decode cX1_putFour 8 = .ok (.aload_n 0, 1) := by decide +kernel
theorem dX1_putFour_9 : decode cX1_putFour 9 = .ok (.iload_n 1, 1) := by decide +kernel
theorem dX1_putFour_10 : decode cX1_putFour 10 = .ok (.bipush 16, 2) := by decide +kernel
theorem dX1_putFour_12 : decode cX1_putFour 12 = .ok (.iushr, 1) := by decide +kernel
theorem dX1_putFour_13 : decode cX1_putFour 13 = .ok (.invokevirtual 29, 3) := by decide +kernel
theorem dX1_putFour_16 : decode cX1_putFour 16 = .ok (.aload_n 0, 1) := by decide +kernel
theorem dX1_putFour_17 : decode cX1_putFour 17 = .ok (.iload_n 1, 1) := by decide +kernel
theorem dX1_putFour_18 : decode cX1_putFour 18 = .ok (.bipush 8, 2) := by decide +kernel
theorem dX1_putFour_20 : decode cX1_putFour 20 = .ok (.iushr, 1) := by decide +kernel
theorem dX1_putFour_21 : decode cX1_putFour 21 = .ok (.invokevirtual 29, 3) := by decide +kernel
theorem dX1_putFour_24 : decode cX1_putFour 24 = .ok (.aload_n 0, 1) := by decide +kernel
theorem dX1_putFour_25 : decode cX1_putFour 25 = .ok (.iload_n 1, 1) := by decide +kernel
theorem dX1_putFour_26 : decode cX1_putFour 26 = .ok (.invokevirtual 29, 3) := by decide +kernel
theorem dX1_putFour_29 : decode cX1_putFour 29 = .ok (.return_, 1) := by decide +kernel
theorem dX1_putNumber_0 : decode cX1_putNumber 0 = .ok (.iload_n 1, 1) := by decide +kernel
theorem dX1_putNumber_1 : decode cX1_putNumber 1 = .ok (.bipush 100, 2) := by decide +kernel
theorem dX1_putNumber_3 : decode cX1_putNumber 3 = .ok (.if_icmp .lt 17, 3) := by decide +kernel
theorem dX1_putNumber_6 : decode cX1_putNumber 6 = .ok (.aload_n 0, 1) := by decide +kernel
theorem dX1_putNumber_7 : decode cX1_putNumber 7 = .ok (.bipush 48, 2) := by decide +kernel
theorem dX1_putNumber_9 : decode cX1_putNumber 9 = .ok (.iload_n 1, 1) := by decide +kernel
theorem dX1_putNumber_10 : decode cX1_putNumber 10 = .ok (.bipush 100, 2) := by decide +kernel
theorem dX1_putNumber_12 : decode cX1_putNumber 12 = .ok (.idiv, 1) := by decide +kernel
theorem dX1_putNumber_13 : decode cX1_putNumber 13 = .ok (.bipush 10, 2) := by decide +kernel
theorem dX1_putNumber_15 : decode cX1_putNumber 15 = .ok (.irem, 1) := by decide +kernel
theorem dX1_putNumber_16 : decode cX1_putNumber 16 = .ok (.iadd, 1) := by decide +kernel
theorem dX1_putNumber_17 : decode cX1_putNumber 17 = .ok (.invokevirtual 29, 3) := by decide +kernel
theorem dX1_putNumber_20 : decode cX1_putNumber 20 = .ok (.iload_n 1, 1) := by decide +kernel
theorem dX1_putNumber_21 : decode cX1_putNumber 21 = .ok (.bipush 10, 2) := by decide +kernel
theorem dX1_putNumber_23 : decode cX1_putNumber 23 = .ok (.if_icmp .lt 17, 3) := by decide +kernel
theorem dX1_putNumber_26 : decode cX1_putNumber 26 = .ok (.aload_n 0, 1) := by decide +kernel
theorem dX1_putNumber_27 : decode cX1_putNumber 27 = .ok (.bipush 48, 2) := by decide +kernel
theorem dX1_putNumber_29 : decode cX1_putNumber 29 = .ok (.iload_n 1, 1) := by decide +kernel
theorem dX1_putNumber_30 : decode cX1_putNumber 30 = .ok (.bipush 10, 2) := by decide +kernel
theorem dX1_putNumber_32 : decode cX1_putNumber 32 = .ok (.idiv, 1) := by decide +kernel
theorem dX1_putNumber_33 : decode cX1_putNumber 33 = .ok (.bipush 10, 2) := by decide +kernel
theorem dX1_putNumber_35 : decode cX1_putNumber 35 = .ok (.irem, 1) := by decide +kernel
theorem dX1_putNumber_36 : decode cX1_putNumber 36 = .ok (.iadd, 1) := by decide +kernel
theorem dX1_putNumber_37 : decode cX1_putNumber 37 = .ok (.invokevirtual 29, 3) := by decide +kernel
theorem dX1_putNumber_40 : decode cX1_putNumber 40 = .ok (.aload_n 0, 1) := by decide +kernel
theorem dX1_putNumber_41 : decode cX1_putNumber 41 = .ok (.bipush 48, 2) := by decide +kernel
theorem dX1_putNumber_43 : decode cX1_putNumber 43 = .ok (.iload_n 1, 1) := by decide +kernel
theorem dX1_putNumber_44 : decode cX1_putNumber 44 = .ok (.bipush 10, 2) := by decide +kernel
theorem dX1_putNumber_46 : decode cX1_putNumber 46 = .ok (.irem, 1) := by decide +kernel
theorem dX1_putNumber_47 : decode cX1_putNumber 47 = .ok (.iadd, 1) := by decide +kernel
theorem dX1_putNumber_48 : decode cX1_putNumber 48 = .ok (.invokevirtual 29, 3) := by decide +kernel
theorem dX1_putNumber_51 : decode cX1_putNumber 51 = .ok (.return_, 1) := by decide +kernel
theorem dX1_putText_0 : decode cX1_putText 0 = .ok (.iconst 0, 1) := by decide +kernel
theorem dX1_putText_1 : decode cX1_putText 1 = .ok (.istore_n 2, 1) := by decide +kernel
theorem dX1_putText_2 : decode cX1_putText 2 = .ok (.iload_n 2, 1) := by decide +kernel
theorem dX1_putText_3 : decode cX1_putText 3 = .ok (.aload_n 1, 1) := by decide +kernel
theorem dX1_putText_4 : decode cX1_putText 4 = .ok (.invokevirtual 33, 3) := by decide +kernel
theorem dX1_putText_7 : decode cX1_putText 7 = .ok (.if_icmp .ge 18, 3) := by decide +kernel
theorem dX1_putText_10 : decode cX1_putText 10 = .ok (.aload_n 0, 1) := by decide +kernel
theorem dX1_putText_11 : decode cX1_putText 11 = .ok (.aload_n 1, 1) := by decide +kernel
theorem dX1_putText_12 : decode cX1_putText 12 = .ok (.iload_n 2, 1) := by decide +kernel
theorem dX1_putText_13 : decode cX1_putText 13 = .ok (.invokevirtual 39, 3) := by decide +kernel
theorem dX1_putText_16 : decode cX1_putText 16 = .ok (.invokevirtual 29, 3) := by decide +kernel
theorem dX1_putText_19 : decode cX1_putText 19 = .ok (.iinc 2 1, 3) := by decide +kernel
theorem dX1_putText_22 : decode cX1_putText 22 = .ok (.goto (-20), 3) := by decide +kernel
theorem dX1_putText_25 : decode cX1_putText 25 = .ok (.return_, 1) := by decide +kernel
theorem dX2_init_0 : decode cX2_init 0 = .ok (.aload_n 0, 1) := by decide +kernel
theorem dX2_init_1 : decode cX2_init 1 = .ok (.invokespecial 3, 3) := by decide +kernel
theorem dX2_init_4 : decode cX2_init 4 = .ok (.aload_n 0, 1) := by decide +kernel
theorem dX2_init_5 : decode cX2_init 5 = .ok (.bipush 9, 2) := by decide +kernel
theorem dX2_init_7 : decode cX2_init 7 = .ok (.newarray .int, 2) := by decide +kernel
theorem dX2_init_9 : decode cX2_init 9 = .ok (.putfield 9, 3) := by decide +kernel
theorem dX2_init_12 : decode cX2_init 12 = .ok (.return_, 1) := by decide +kernel
theorem dX3_init_0 : decode cX3_init 0 = .ok (.aload_n 0, 1) := by decide +kernel
theorem dX3_init_1 : decode cX3_init 1 = .ok (.invokespecial 3, 3) := by decide +kernel
theorem dX3_init_4 : decode cX3_init 4 = .ok (.aload_n 0, 1) := by decide +kernel
theorem dX3_init_5 : decode cX3_init 5 = .ok (.bipush 7, 2) := by decide +kernel
theorem dX3_init_7 : decode cX3_init 7 = .ok (.anewarray 9, 3) := by decide +kernel
theorem dX3_init_10 : decode cX3_init 10 = .ok (.putfield 11, 3) := by decide +kernel
theorem dX3_init_13 : decode cX3_init 13 = .ok (.aload_n 0, 1) := by decide +kernel
theorem dX3_init_14 : decode cX3_init 14 = .ok (.new 17, 3) := by decide +kernel
theorem dX3_init_17 : decode cX3_init 17 = .ok (.dup, 1) := by decide +kernel
theorem dX3_init_18 : decode cX3_init 18 = .ok (.invokespecial 19, 3) := by decide +kernel
theorem dX3_init_21 : decode cX3_init 21 = .ok (.putfield 20, 3) := by decide +kernel
theorem dX3_init_24 : decode cX3_init 24 = .ok (.iconst 0, 1) := by decide +kernel
theorem dX3_init_25 : decode cX3_init 25 = .ok (.istore_n 1, 1) := by decide +kernel
theorem dX3_init_26 : decode cX3_init 26 = .ok (.iload_n 1, 1) := by decide +kernel
theorem dX3_init_27 : decode cX3_init 27 = .ok (.bipush 7, 2) := by decide +kernel
theorem dX3_init_29 : decode cX3_init 29 = .ok (.if_icmp .ge 22, 3) := by decide +kernel
theorem dX3_init_32 : decode cX3_init 32 = .ok (.aload_n 0, 1) := by decide +kernel
theorem dX3_init_33 : decode cX3_init 33 = .ok (.getfield 11, 3) := by decide +kernel
theorem dX3_init_36 : decode cX3_init 36 = .ok (.iload_n 1, 1) := by decide +kernel
theorem dX3_init_37 : decode cX3_init 37 = .ok (.new 9, 3) := by decide +kernel
theorem dX3_init_40 : decode cX3_init 40 = .ok (.dup, 1) := by decide +kernel
theorem dX3_init_41 : decode cX3_init 41 = .ok (.invokespecial 24, 3) := by decide +kernel
theorem dX3_init_44 : decode cX3_init 44 = .ok (.aastore, 1) := by decide +kernel
theorem dX3_init_45 : decode cX3_init 45 = .ok (.iinc 1 1, 3) := by decide +kernel
theorem dX3_init_48 : decode cX3_init 48 = .ok (.goto (-22), 3) := by decide +kernel
theorem dX3_init_51 : decode cX3_init 51 = .ok (.return_, 1) := by decide +kernel
theorem dX3_turnTo_0 : decode cX3_turnTo 0 = .ok (.aload_n 0, 1) := by decide +kernel
theorem dX3_turnTo_1 : decode cX3_turnTo 1 = .ok (.getfield 20, 3) := by decide +kernel
theorem dX3_turnTo_4 : decode cX3_turnTo 4 = .ok (.aload_n 1, 1) := by decide +kernel
theorem dX3_turnTo_5 : decode cX3_turnTo 5 = .ok (.invokevirtual 25, 3) := by decide +kernel
theorem dX3_turnTo_8 : decode cX3_turnTo 8 = .ok (.ifCond .eq 4, 3) := by decide +kernel
theorem dX3_turnTo_11 : decode cX3_turnTo 11 = .ok (.return_, 1) := by decide +kernel
theorem dX3_turnTo_12 : decode cX3_turnTo 12 = .ok (.aload_n 0, 1) := by decide +kernel
theorem dX3_turnTo_13 : decode cX3_turnTo 13 = .ok (.getfield 20, 3) := by decide +kernel
theorem dX3_turnTo_16 : decode cX3_turnTo 16 = .ok (.aload_n 1, 1) := by decide +kernel
theorem dX3_turnTo_17 : decode cX3_turnTo 17 = .ok (.invokevirtual 29, 3) := by decide +kernel
theorem dX3_turnTo_20 : decode cX3_turnTo 20 = .ok (.iconst 0, 1) := by decide +kernel
theorem dX3_turnTo_21 : decode cX3_turnTo 21 = .ok (.istore_n 2, 1) := by decide +kernel
theorem dX3_turnTo_22 : decode cX3_turnTo 22 = .ok (.iload_n 2, 1) := by decide +kernel
theorem dX3_turnTo_23 : decode cX3_turnTo 23 = .ok (.bipush 7, 2) := by decide +kernel
theorem dX3_turnTo_25 : decode cX3_turnTo 25 = .ok (.if_icmp .ge 19, 3) := by decide +kernel
theorem dX3_turnTo_28 : decode cX3_turnTo 28 = .ok (.aload_n 0, 1) := by decide +kernel
theorem dX3_turnTo_29 : decode cX3_turnTo 29 = .ok (.getfield 11, 3) := by decide +kernel
theorem dX3_turnTo_32 : decode cX3_turnTo 32 = .ok (.iload_n 2, 1) := by decide +kernel
theorem dX3_turnTo_33 : decode cX3_turnTo 33 = .ok (.aaload, 1) := by decide +kernel
theorem dX3_turnTo_34 : decode cX3_turnTo 34 = .ok (.iconst 0, 1) := by decide +kernel
theorem dX3_turnTo_35 : decode cX3_turnTo 35 = .ok (.putfield 33, 3) := by decide +kernel
theorem dX3_turnTo_38 : decode cX3_turnTo 38 = .ok (.iinc 2 1, 3) := by decide +kernel
theorem dX3_turnTo_41 : decode cX3_turnTo 41 = .ok (.goto (-19), 3) := by decide +kernel
theorem dX3_turnTo_44 : decode cX3_turnTo 44 = .ok (.return_, 1) := by decide +kernel
theorem dX4_init_0 : decode cX4_init 0 = .ok (.aload_n 0, 1) := by decide +kernel
theorem dX4_init_1 : decode cX4_init 1 = .ok (.invokespecial 3, 3) := by decide +kernel
theorem dX4_init_4 : decode cX4_init 4 = .ok (.aload_n 0, 1) := by decide +kernel
theorem dX4_init_5 : decode cX4_init 5 = .ok (.bipush 10, 2) := by decide +kernel
theorem dX4_init_7 : decode cX4_init 7 = .ok (.newarray .int, 2) := by decide +kernel
theorem dX4_init_9 : decode cX4_init 9 = .ok (.putfield 9, 3) := by decide +kernel
theorem dX4_init_12 : decode cX4_init 12 = .ok (.aload_n 0, 1) := by decide +kernel
theorem dX4_init_13 : decode cX4_init 13 = .ok (.bipush 10, 2) := by decide +kernel
theorem dX4_init_15 : decode cX4_init 15 = .ok (.anewarray 15, 3) := by decide +kernel
theorem dX4_init_18 : decode cX4_init 18 = .ok (.putfield 17, 3) := by decide +kernel
theorem dX4_init_21 : decode cX4_init 21 = .ok (.iconst 0, 1) := by decide +kernel
theorem dX4_init_22 : decode cX4_init 22 = .ok (.istore_n 1, 1) := by decide +kernel
theorem dX4_init_23 : decode cX4_init 23 = .ok (.iload_n 1, 1) := by decide +kernel
theorem dX4_init_24 : decode cX4_init 24 = .ok (.bipush 10, 2) := by decide +kernel
theorem dX4_init_26 : decode cX4_init 26 = .ok (.if_icmp .ge 22, 3) := by decide +kernel
theorem dX4_init_29 : decode cX4_init 29 = .ok (.aload_n 0, 1) := by decide +kernel
theorem dX4_init_30 : decode cX4_init 30 = .ok (.getfield 17, 3) := by decide +kernel
theorem dX4_init_33 : decode cX4_init 33 = .ok (.iload_n 1, 1) := by decide +kernel
theorem dX4_init_34 : decode cX4_init 34 = .ok (.new 15, 3) := by decide +kernel
theorem dX4_init_37 : decode cX4_init 37 = .ok (.dup, 1) := by decide +kernel
theorem dX4_init_38 : decode cX4_init 38 = .ok (.invokespecial 21, 3) := by decide +kernel
theorem dX4_init_41 : decode cX4_init 41 = .ok (.aastore, 1) := by decide +kernel
theorem dX4_init_42 : decode cX4_init 42 = .ok (.iinc 1 1, 3) := by decide +kernel
theorem dX4_init_45 : decode cX4_init 45 = .ok (.goto (-22), 3) := by decide +kernel
theorem dX4_init_48 : decode cX4_init 48 = .ok (.return_, 1) := by decide +kernel
theorem dX4_remember_0 : decode cX4_remember 0 = .ok (.aload_n 0, 1) := by decide +kernel
theorem dX4_remember_1 : decode cX4_remember 1 = .ok (.getfield 9, 3) := by decide +kernel
theorem dX4_remember_4 : decode cX4_remember 4 = .ok (.aload_n 0, 1) := by decide +kernel
theorem dX4_remember_5 : decode cX4_remember 5 = .ok (.getfield 22, 3) := by decide +kernel
theorem dX4_remember_8 : decode cX4_remember 8 = .ok (.iload_n 1, 1) := by decide +kernel
theorem dX4_remember_9 : decode cX4_remember 9 = .ok (.iastore, 1) := by decide +kernel
theorem dX4_remember_10 : decode cX4_remember 10 = .ok (.aload_n 0, 1) := by decide +kernel
theorem dX4_remember_11 : decode cX4_remember 11 = .ok (.getfield 17, 3) := by decide +kernel
theorem dX4_remember_14 : decode cX4_remember 14 = .ok (.aload_n 0, 1) := by decide +kernel
theorem dX4_remember_15 : decode cX4_remember 15 = .ok (.getfield 22, 3) := by decide +kernel
theorem dX4_remember_18 : decode cX4_remember 18 = .ok (.aaload, 1) := by decide +kernel
theorem dX4_remember_19 : decode cX4_remember 19 = .ok (.aload_n 2, 1) := by decide +kernel
theorem dX4_remember_20 : decode cX4_remember 20 = .ok (.invokevirtual 26, 3) := by decide +kernel
theorem dX4_remember_23 : decode cX4_remember 23 = .ok (.aload_n 0, 1) := by decide +kernel
theorem dX4_remember_24 : decode cX4_remember 24 = .ok (.aload_n 0, 1) := by decide +kernel
theorem dX4_remember_25 : decode cX4_remember 25 = .ok (.getfield 22, 3) := by decide +kernel
theorem dX4_remember_28 : decode cX4_remember 28 = .ok (.iconst 1, 1) := by decide +kernel
theorem dX4_remember_29 : decode cX4_remember 29 = .ok (.iadd, 1) := by decide +kernel
theorem dX4_remember_30 : decode cX4_remember 30 = .ok (.bipush 10, 2) := by decide +kernel
theorem dX4_remember_32 : decode cX4_remember 32 = .ok (.irem, 1) := by decide +kernel
theorem dX4_remember_33 : decode cX4_remember 33 = .ok (.putfield 22, 3) := by decide +kernel
theorem dX4_remember_36 : decode cX4_remember 36 = .ok (.aload_n 0, 1) := by decide +kernel
theorem dX4_remember_37 : decode cX4_remember 37 = .ok (.bipush 10, 2) := by decide +kernel
theorem dX4_remember_39 : decode cX4_remember 39 = .ok (.aload_n 0, 1) := by decide +kernel
theorem dX4_remember_40 : decode cX4_remember 40 = .ok (.getfield 30, 3) := by decide +kernel
theorem dX4_remember_43 : decode cX4_remember 43 = .ok (.iconst 1, 1) := by decide +kernel
theorem dX4_remember_44 : decode cX4_remember 44 = .ok (.iadd, 1) := by decide +kernel
theorem dX4_remember_45 : decode cX4_remember 45 = .ok (.invokestatic 33, 3) := by decide +kernel
theorem dX4_remember_48 : decode cX4_remember 48 = .ok (.putfield 30, 3) := by decide +kernel
theorem dX4_remember_51 : decode cX4_remember 51 = .ok (.return_, 1) := by decide +kernel
theorem dX4_takeBack_0 : decode cX4_takeBack 0 = .ok (.aload_n 0, 1) := by decide +kernel
theorem dX4_takeBack_1 : decode cX4_takeBack 1 = .ok (.aload_n 0, 1) := by decide +kernel
theorem dX4_takeBack_2 : decode cX4_takeBack 2 = .ok (.getfield 22, 3) := by decide +kernel
theorem dX4_takeBack_5 : decode cX4_takeBack 5 = .ok (.bipush 10, 2) := by decide +kernel
theorem dX4_takeBack_7 : decode cX4_takeBack 7 = .ok (.iadd, 1) := by decide +kernel
theorem dX4_takeBack_8 : decode cX4_takeBack 8 = .ok (.iconst 1, 1) := by decide +kernel
theorem dX4_takeBack_9 : decode cX4_takeBack 9 = .ok (.isub, 1) := by decide +kernel
theorem dX4_takeBack_10 : decode cX4_takeBack 10 = .ok (.bipush 10, 2) := by decide +kernel
theorem dX4_takeBack_12 : decode cX4_takeBack 12 = .ok (.irem, 1) := by decide +kernel
theorem dX4_takeBack_13 : decode cX4_takeBack 13 = .ok (.putfield 22, 3) := by decide +kernel
theorem dX4_takeBack_16 : decode cX4_takeBack 16 = .ok (.aload_n 0, 1) := by decide +kernel
theorem dX4_takeBack_17 : decode cX4_takeBack 17 = .ok (.dup, 1) := by decide +kernel
theorem dX4_takeBack_18 : decode cX4_takeBack 18 = .ok (.getfield 30, 3) := by decide +kernel
theorem dX4_takeBack_21 : decode cX4_takeBack 21 = .ok (.iconst 1, 1) := by decide +kernel
theorem dX4_takeBack_22 : decode cX4_takeBack 22 = .ok (.isub, 1) := by decide +kernel
theorem dX4_takeBack_23 : decode cX4_takeBack 23 = .ok (.putfield 30, 3) := by decide +kernel
theorem dX4_takeBack_26 : decode cX4_takeBack 26 = .ok (.aload_n 1, 1) := by decide +kernel
theorem dX4_takeBack_27 : decode cX4_takeBack 27 = .ok (.aload_n 0, 1) := by decide +kernel
theorem dX4_takeBack_28 : decode cX4_takeBack 28 = .ok (.getfield 9, 3) := by decide +kernel
theorem dX4_takeBack_31 : decode cX4_takeBack 31 = .ok (.aload_n 0, 1) := by decide +kernel
theorem dX4_takeBack_32 : decode cX4_takeBack 32 = .ok (.getfield 22, 3) := by decide +kernel
theorem dX4_takeBack_35 : decode cX4_takeBack 35 = .ok (.iaload, 1) := by decide +kernel
theorem dX4_takeBack_36 : decode cX4_takeBack 36 = .ok (.aaload, 1) := by decide +kernel
theorem dX4_takeBack_37 : decode cX4_takeBack 37 = .ok (.aload_n 0, 1) := by decide +kernel
theorem dX4_takeBack_38 : decode cX4_takeBack 38 = .ok (.getfield 17, 3) := by decide +kernel
theorem dX4_takeBack_41 : decode cX4_takeBack 41 = .ok (.aload_n 0, 1) := by decide +kernel
theorem dX4_takeBack_42 : decode cX4_takeBack 42 = .ok (.getfield 22, 3) := by decide +kernel
theorem dX4_takeBack_45 : decode cX4_takeBack 45 = .ok (.aaload, 1) := by decide +kernel
theorem dX4_takeBack_46 : decode cX4_takeBack 46 = .ok (.invokevirtual 26, 3) := by decide +kernel
theorem dX4_takeBack_49 : decode cX4_takeBack 49 = .ok (.return_, 1) := by decide +kernel
theorem dX5_aheadOf_0 : decode cX5_aheadOf 0 = .ok (.iconst 0, 1) := by decide +kernel
theorem dX5_aheadOf_1 : decode cX5_aheadOf 1 = .ok (.istore_n 2, 1) := by decide +kernel
theorem dX5_aheadOf_2 : decode cX5_aheadOf 2 = .ok (.iconst 0, 1) := by decide +kernel
theorem dX5_aheadOf_3 : decode cX5_aheadOf 3 = .ok (.istore_n 3, 1) := by decide +kernel
theorem dX5_aheadOf_4 : decode cX5_aheadOf 4 = .ok (.iload_n 3, 1) := by decide +kernel
theorem dX5_aheadOf_5 : decode cX5_aheadOf 5 = .ok (.iload_n 1, 1) := by decide +kernel
theorem dX5_aheadOf_6 : decode cX5_aheadOf 6 = .ok (.if_icmp .ge 20, 3) := by decide +kernel
theorem dX5_aheadOf_9 : decode cX5_aheadOf 9 = .ok (.iload_n 2, 1) := by decide +kernel
theorem dX5_aheadOf_10 : decode cX5_aheadOf 10 = .ok (.iconst 1, 1) := by decide +kernel
theorem dX5_aheadOf_11 : decode cX5_aheadOf 11 = .ok (.aload_n 0, 1) := by decide +kernel
theorem dX5_aheadOf_12 : decode cX5_aheadOf 12 = .ok (.getfield 15, 3) := by decide +kernel
theorem dX5_aheadOf_15 : decode cX5_aheadOf 15 = .ok (.iload_n 3, 1) := by decide +kernel
theorem dX5_aheadOf_16 : decode cX5_aheadOf 16 = .ok (.iaload, 1) := by decide +kernel
theorem dX5_aheadOf_17 : decode cX5_aheadOf 17 = .ok (.ishl, 1) := by decide +kernel
theorem dX5_aheadOf_18 : decode cX5_aheadOf 18 = .ok (.ior, 1) := by decide +kernel
theorem dX5_aheadOf_19 : decode cX5_aheadOf 19 = .ok (.istore_n 2, 1) := by decide +kernel
theorem dX5_aheadOf_20 : decode cX5_aheadOf 20 = .ok (.iinc 3 1, 3) := by decide +kernel
theorem dX5_aheadOf_23 : decode cX5_aheadOf 23 = .ok (.goto (-19), 3) := by decide +kernel
theorem dX5_aheadOf_26 : decode cX5_aheadOf 26 = .ok (.iload_n 2, 1) := by decide +kernel
theorem dX5_aheadOf_27 : decode cX5_aheadOf 27 = .ok (.ireturn, 1) := by decide +kernel
theorem dX5_allBits_0 : decode cX5_allBits 0 = .ok (.iconst 1, 1) := by decide +kernel
theorem dX5_allBits_1 : decode cX5_allBits 1 = .ok (.aload_n 0, 1) := by decide +kernel
theorem dX5_allBits_2 : decode cX5_allBits 2 = .ok (.getfield 21, 3) := by decide +kernel
theorem dX5_allBits_5 : decode cX5_allBits 5 = .ok (.ishl, 1) := by decide +kernel
theorem dX5_allBits_6 : decode cX5_allBits 6 = .ok (.iconst 1, 1) := by decide +kernel
theorem dX5_allBits_7 : decode cX5_allBits 7 = .ok (.isub, 1) := by decide +kernel
theorem dX5_allBits_8 : decode cX5_allBits 8 = .ok (.ireturn, 1) := by decide +kernel
theorem dX5_begin_0 : decode cX5_begin 0 = .ok (.aload_n 0, 1) := by decide +kernel
theorem dX5_begin_1 : decode cX5_begin 1 = .ok (.iload_n 1, 1) := by decide +kernel
theorem dX5_begin_2 : decode cX5_begin 2 = .ok (.putfield 21, 3) := by decide +kernel
theorem dX5_begin_5 : decode cX5_begin 5 = .ok (.aload_n 0, 1) := by decide +kernel
theorem dX5_begin_6 : decode cX5_begin 6 = .ok (.iconst 0, 1) := by decide +kernel
theorem dX5_begin_7 : decode cX5_begin 7 = .ok (.putfield 25, 3) := by decide +kernel
theorem dX5_begin_10 : decode cX5_begin 10 = .ok (.aload_n 0, 1) := by decide +kernel
theorem dX5_begin_11 : decode cX5_begin 11 = .ok (.getfield 9, 3) := by decide +kernel
theorem dX5_begin_14 : decode cX5_begin 14 = .ok (.iconst 0, 1) := by decide +kernel
theorem dX5_begin_15 : decode cX5_begin 15 = .ok (.invokestatic 28, 3) := by decide +kernel
theorem dX5_begin_18 : decode cX5_begin 18 = .ok (.aload_n 0, 1) := by decide +kernel
theorem dX5_begin_19 : decode cX5_begin 19 = .ok (.getfield 18, 3) := by decide +kernel
theorem dX5_begin_22 : decode cX5_begin 22 = .ok (.iconst 0, 1) := by decide +kernel
theorem dX5_begin_23 : decode cX5_begin 23 = .ok (.invokestatic 28, 3) := by decide +kernel
theorem dX5_begin_26 : decode cX5_begin 26 = .ok (.iconst 0, 1) := by decide +kernel
theorem dX5_begin_27 : decode cX5_begin 27 = .ok (.istore_n 2, 1) := by decide +kernel
theorem dX5_begin_28 : decode cX5_begin 28 = .ok (.iload_n 2, 1) := by decide +kernel
theorem dX5_begin_29 : decode cX5_begin 29 = .ok (.bipush 9, 2) := by decide +kernel
theorem dX5_begin_31 : decode cX5_begin 31 = .ok (.if_icmp .ge 16, 3) := by decide +kernel
theorem dX5_begin_34 : decode cX5_begin 34 = .ok (.aload_n 0, 1) := by decide +kernel
theorem dX5_begin_35 : decode cX5_begin 35 = .ok (.getfield 15, 3) := by decide +kernel
theorem dX5_begin_38 : decode cX5_begin 38 = .ok (.iload_n 2, 1) := by decide +kernel
theorem dX5_begin_39 : decode cX5_begin 39 = .ok (.iload_n 2, 1) := by decide +kernel
theorem dX5_begin_40 : decode cX5_begin 40 = .ok (.iastore, 1) := by decide +kernel
theorem dX5_begin_41 : decode cX5_begin 41 = .ok (.iinc 2 1, 3) := by decide +kernel
theorem dX5_begin_44 : decode cX5_begin 44 = .ok (.goto (-16), 3) := by decide +kernel
theorem dX5_begin_47 : decode cX5_begin 47 = .ok (.return_, 1) := by decide +kernel
theorem dX5_changeOver_0 : decode cX5_changeOver 0 = .ok (.aload_n 0, 1) := by decide +kernel
theorem dX5_changeOver_1 : decode cX5_changeOver 1 = .ok (.getfield 15, 3) := by decide +kernel
theorem dX5_changeOver_4 : decode cX5_changeOver 4 = .ok (.iload_n 1, 1) := by decide +kernel
theorem dX5_changeOver_5 : decode cX5_changeOver 5 = .ok (.iaload, 1) := by decide +kernel
theorem dX5_changeOver_6 : decode cX5_changeOver 6 = .ok (.istore_n 3, 1) := by decide +kernel
theorem dX5_changeOver_7 : decode cX5_changeOver 7 = .ok (.aload_n 0, 1) := by decide +kernel
theorem dX5_changeOver_8 : decode cX5_changeOver 8 = .ok (.getfield 15, 3) := by decide +kernel
theorem dX5_changeOver_11 : decode cX5_changeOver 11 = .ok (.iload_n 1, 1) := by decide +kernel
theorem dX5_changeOver_12 : decode cX5_changeOver 12 = .ok (.aload_n 0, 1) := by decide +kernel
theorem dX5_changeOver_13 : decode cX5_changeOver 13 = .ok (.getfield 15, 3) := by decide +kernel
theorem dX5_changeOver_16 : decode cX5_changeOver 16 = .ok (.iload_n 2, 1) := by decide +kernel
theorem dX5_changeOver_17 : decode cX5_changeOver 17 = .ok (.iaload, 1) := by decide +kernel
theorem dX5_changeOver_18 : decode cX5_changeOver 18 = .ok (.iastore, 1) := by decide +kernel
theorem dX5_changeOver_19 : decode cX5_changeOver 19 = .ok (.aload_n 0, 1) := by decide +kernel
theorem dX5_changeOver_20 : decode cX5_changeOver 20 = .ok (.getfield 15, 3) := by decide +kernel
theorem dX5_changeOver_23 : decode cX5_changeOver 23 = .ok (.iload_n 2, 1) := by decide +kernel
theorem dX5_changeOver_24 : decode cX5_changeOver 24 = .ok (.iload_n 3, 1) := by decide +kernel
theorem dX5_changeOver_25 : decode cX5_changeOver 25 = .ok (.iastore, 1) := by decide +kernel
theorem dX5_changeOver_26 : decode cX5_changeOver 26 = .ok (.return_, 1) := by decide +kernel
theorem dX5_copyFrom_0 : decode cX5_copyFrom 0 = .ok (.aload_n 0, 1) := by decide +kernel
theorem dX5_copyFrom_1 : decode cX5_copyFrom 1 = .ok (.aload_n 1, 1) := by decide +kernel
theorem dX5_copyFrom_2 : decode cX5_copyFrom 2 = .ok (.getfield 21, 3) := by decide +kernel
theorem dX5_copyFrom_5 : decode cX5_copyFrom 5 = .ok (.putfield 21, 3) := by decide +kernel
theorem dX5_copyFrom_8 : decode cX5_copyFrom 8 = .ok (.aload_n 0, 1) := by decide +kernel
theorem dX5_copyFrom_9 : decode cX5_copyFrom 9 = .ok (.aload_n 1, 1) := by decide +kernel
theorem dX5_copyFrom_10 : decode cX5_copyFrom 10 = .ok (.getfield 25, 3) := by decide +kernel
theorem dX5_copyFrom_13 : decode cX5_copyFrom 13 = .ok (.putfield 25, 3) := by decide +kernel
theorem dX5_copyFrom_16 : decode cX5_copyFrom 16 = .ok (.aload_n 1, 1) := by decide +kernel
theorem dX5_copyFrom_17 : decode cX5_copyFrom 17 = .ok (.getfield 9, 3) := by decide +kernel
theorem dX5_copyFrom_20 : decode cX5_copyFrom 20 = .ok (.iconst 0, 1) := by decide +kernel
theorem dX5_copyFrom_21 : decode cX5_copyFrom 21 = .ok (.aload_n 0, 1) := by decide +kernel
theorem dX5_copyFrom_22 : decode cX5_copyFrom 22 = .ok (.getfield 9, 3) := by decide +kernel
theorem dX5_copyFrom_25 : decode cX5_copyFrom 25 = .ok (.iconst 0, 1) := by decide +kernel
theorem dX5_copyFrom_26 : decode cX5_copyFrom 26 = .ok (.bipush 9, 2) := by decide +kernel
theorem dX5_copyFrom_28 : decode cX5_copyFrom 28 = .ok (.invokestatic 34, 3) := by decide +kernel
theorem dX5_copyFrom_31 : decode cX5_copyFrom 31 = .ok (.aload_n 1, 1) := by decide +kernel
theorem dX5_copyFrom_32 : decode cX5_copyFrom 32 = .ok (.getfield 15, 3) := by decide +kernel
theorem dX5_copyFrom_35 : decode cX5_copyFrom 35 = .ok (.iconst 0, 1) := by decide +kernel
theorem dX5_copyFrom_36 : decode cX5_copyFrom 36 = .ok (.aload_n 0, 1) := by decide +kernel
theorem dX5_copyFrom_37 : decode cX5_copyFrom 37 = .ok (.getfield 15, 3) := by decide +kernel
theorem dX5_copyFrom_40 : decode cX5_copyFrom 40 = .ok (.iconst 0, 1) := by decide +kernel
theorem dX5_copyFrom_41 : decode cX5_copyFrom 41 = .ok (.bipush 9, 2) := by decide +kernel
theorem dX5_copyFrom_43 : decode cX5_copyFrom 43 = .ok (.invokestatic 34, 3) := by decide +kernel
theorem dX5_copyFrom_46 : decode cX5_copyFrom 46 = .ok (.aload_n 1, 1) := by decide +kernel
theorem dX5_copyFrom_47 : decode cX5_copyFrom 47 = .ok (.getfield 18, 3) := by decide +kernel
theorem dX5_copyFrom_50 : decode cX5_copyFrom 50 = .ok (.iconst 0, 1) := by decide +kernel
theorem dX5_copyFrom_51 : decode cX5_copyFrom 51 = .ok (.aload_n 0, 1) := by decide +kernel
theorem dX5_copyFrom_52 : decode cX5_copyFrom 52 = .ok (.getfield 18, 3) := by decide +kernel
theorem dX5_copyFrom_55 : decode cX5_copyFrom 55 = .ok (.iconst 0, 1) := by decide +kernel
theorem dX5_copyFrom_56 : decode cX5_copyFrom 56 = .ok (.bipush 81, 2) := by decide +kernel
theorem dX5_copyFrom_58 : decode cX5_copyFrom 58 = .ok (.invokestatic 34, 3) := by decide +kernel
theorem dX5_copyFrom_61 : decode cX5_copyFrom 61 = .ok (.return_, 1) := by decide +kernel
theorem dX5_drawTogether_0 : decode cX5_drawTogether 0 = .ok (.iload_n 1, 1) := by decide +kernel
theorem dX5_drawTogether_1 : decode cX5_drawTogether 1 = .ok (.iload_n 2, 1) := by decide +kernel
theorem dX5_drawTogether_2 : decode cX5_drawTogether 2 = .ok (.invokestatic 66, 3) := by decide +kernel
theorem dX5_drawTogether_5 : decode cX5_drawTogether 5 = .ok (.istore_n 3, 1) := by decide +kernel
theorem dX5_drawTogether_6 : decode cX5_drawTogether 6 = .ok (.iload_n 1, 1) := by decide +kernel
theorem dX5_drawTogether_7 : decode cX5_drawTogether 7 = .ok (.iload_n 2, 1) := by decide +kernel
theorem dX5_drawTogether_8 : decode cX5_drawTogether 8 = .ok (.invokestatic 71, 3) := by decide +kernel
theorem dX5_drawTogether_11 : decode cX5_drawTogether 11 = .ok (.istore 4, 2) := by decide +kernel
theorem dX5_drawTogether_13 : decode cX5_drawTogether 13 = .ok (.iconst 0, 1) := by decide +kernel
theorem dX5_drawTogether_14 : decode cX5_drawTogether 14 = .ok (.istore 5, 2) := by decide +kernel
theorem dX5_drawTogether_16 : decode cX5_drawTogether 16 = .ok (.iload 5, 2) := by decide +kernel
theorem dX5_drawTogether_18 : decode cX5_drawTogether 18 = .ok (.aload_n 0, 1) := by decide +kernel
theorem dX5_drawTogether_19 : decode cX5_drawTogether 19 = .ok (.getfield 21, 3) := by decide +kernel
theorem dX5_drawTogether_22 : decode cX5_drawTogether 22 = .ok (.if_icmp .ge 65, 3) := by decide +kernel
theorem dX5_drawTogether_25 : decode cX5_drawTogether 25 = .ok (.iload 5, 2) := by decide +kernel
theorem dX5_drawTogether_27 : decode cX5_drawTogether 27 = .ok (.iload_n 3, 1) := by decide +kernel
theorem dX5_drawTogether_28 : decode cX5_drawTogether 28 = .ok (.if_icmp .eq 53, 3) := by decide +kernel
theorem dX5_drawTogether_31 : decode cX5_drawTogether 31 = .ok (.iload 5, 2) := by decide +kernel
theorem dX5_drawTogether_33 : decode cX5_drawTogether 33 = .ok (.iload 4, 2) := by decide +kernel
theorem dX5_drawTogether_35 : decode cX5_drawTogether 35 = .ok (.if_icmp .eq 46, 3) := by decide +kernel
theorem dX5_drawTogether_38 : decode cX5_drawTogether 38 = .ok (.aload_n 0, 1) := by decide +kernel
theorem dX5_drawTogether_39 : decode cX5_drawTogether 39 = .ok (.iload 4, 2) := by decide +kernel
theorem dX5_drawTogether_41 : decode cX5_drawTogether 41 = .ok (.iload 5, 2) := by decide +kernel
theorem dX5_drawTogether_43 : decode cX5_drawTogether 43 = .ok (.invokevirtual 40, 3) := by decide +kernel
theorem dX5_drawTogether_46 : decode cX5_drawTogether 46 = .ok (.ifCond .le 35, 3) := by decide +kernel
theorem dX5_drawTogether_49 : decode cX5_drawTogether 49 = .ok (.aload_n 0, 1) := by decide +kernel
theorem dX5_drawTogether_50 : decode cX5_drawTogether 50 = .ok (.iload_n 3, 1) := by decide +kernel
theorem dX5_drawTogether_51 : decode cX5_drawTogether 51 = .ok (.iload 5, 2) := by decide +kernel
theorem dX5_drawTogether_53 : decode cX5_drawTogether 53 = .ok (.invokevirtual 40, 3) := by decide +kernel
theorem dX5_drawTogether_56 : decode cX5_drawTogether 56 = .ok (.aload_n 0, 1) := by decide +kernel
theorem dX5_drawTogether_57 : decode cX5_drawTogether 57 = .ok (.iload 4, 2) := by decide +kernel
theorem dX5_drawTogether_59 : decode cX5_drawTogether 59 = .ok (.iload 5, 2) := by decide +kernel
theorem dX5_drawTogether_61 : decode cX5_drawTogether 61 = .ok (.invokevirtual 40, 3) := by decide +kernel
theorem dX5_drawTogether_64 : decode cX5_drawTogether 64 = .ok (.iadd, 1) := by decide +kernel
theorem dX5_drawTogether_65 : decode cX5_drawTogether 65 = .ok (.istore 6, 2) := by decide +kernel
theorem dX5_drawTogether_67 : decode cX5_drawTogether 67 = .ok (.aload_n 0, 1) := by decide +kernel
theorem dX5_drawTogether_68 : decode cX5_drawTogether 68 = .ok (.iload_n 3, 1) := by decide +kernel
theorem dX5_drawTogether_69 : decode cX5_drawTogether 69 = .ok (.iload 5, 2) := by decide +kernel
theorem dX5_drawTogether_71 : decode cX5_drawTogether 71 = .ok (.bipush 9, 2) := by decide +kernel
theorem dX5_drawTogether_73 : decode cX5_drawTogether 73 = .ok (.iload 6, 2) := by decide +kernel
theorem dX5_drawTogether_75 : decode cX5_drawTogether 75 = .ok (.invokestatic 66, 3) := by decide +kernel
theorem dX5_drawTogether_78 : decode cX5_drawTogether 78 = .ok (.invokevirtual 74, 3) := by decide +kernel
theorem dX5_drawTogether_81 : decode cX5_drawTogether 81 = .ok (.iinc 5 1, 3) := by decide +kernel
theorem dX5_drawTogether_84 : decode cX5_drawTogether 84 = .ok (.goto (-68), 3) := by decide +kernel
theorem dX5_drawTogether_87 : decode cX5_drawTogether 87 = .ok (.aload_n 0, 1) := by decide +kernel
theorem dX5_drawTogether_88 : decode cX5_drawTogether 88 = .ok (.iload 4, 2) := by decide +kernel
theorem dX5_drawTogether_90 : decode cX5_drawTogether 90 = .ok (.invokevirtual 78, 3) := by decide +kernel
theorem dX5_drawTogether_93 : decode cX5_drawTogether 93 = .ok (.return_, 1) := by decide +kernel
theorem dX5_has_0 : decode cX5_has 0 = .ok (.iload_n 1, 1) := by decide +kernel
theorem dX5_has_1 : decode cX5_has 1 = .ok (.ifCond .lt 15, 3) := by decide +kernel
theorem dX5_has_4 : decode cX5_has 4 = .ok (.iload_n 1, 1) := by decide +kernel
theorem dX5_has_5 : decode cX5_has 5 = .ok (.aload_n 0, 1) := by decide +kernel
theorem dX5_has_6 : decode cX5_has 6 = .ok (.getfield 21, 3) := by decide +kernel
theorem dX5_has_9 : decode cX5_has 9 = .ok (.if_icmp .ge 7, 3) := by decide +kernel
theorem dX5_has_12 : decode cX5_has 12 = .ok (.iconst 1, 1) := by decide +kernel
theorem dX5_has_13 : decode cX5_has 13 = .ok (.goto 4, 3) := by decide +kernel
theorem dX5_has_16 : decode cX5_has 16 = .ok (.iconst 0, 1) := by decide +kernel
theorem dX5_has_17 : decode cX5_has 17 = .ok (.ireturn, 1) := by decide +kernel
theorem dX5_hasTwo_0 : decode cX5_hasTwo 0 = .ok (.aload_n 0, 1) := by decide +kernel
theorem dX5_hasTwo_1 : decode cX5_hasTwo 1 = .ok (.iload_n 1, 1) := by decide +kernel
theorem dX5_hasTwo_2 : decode cX5_hasTwo 2 = .ok (.invokevirtual 52, 3) := by decide +kernel
theorem dX5_hasTwo_5 : decode cX5_hasTwo 5 = .ok (.ifCond .eq 20, 3) := by decide +kernel
theorem dX5_hasTwo_8 : decode cX5_hasTwo 8 = .ok (.aload_n 0, 1) := by decide +kernel
theorem dX5_hasTwo_9 : decode cX5_hasTwo 9 = .ok (.iload_n 2, 1) := by decide +kernel
theorem dX5_hasTwo_10 : decode cX5_hasTwo 10 = .ok (.invokevirtual 52, 3) := by decide +kernel
theorem dX5_hasTwo_13 : decode cX5_hasTwo 13 = .ok (.ifCond .eq 12, 3) := by decide +kernel
theorem dX5_hasTwo_16 : decode cX5_hasTwo 16 = .ok (.iload_n 1, 1) := by decide +kernel
theorem dX5_hasTwo_17 : decode cX5_hasTwo 17 = .ok (.iload_n 2, 1) := by decide +kernel
theorem dX5_hasTwo_18 : decode cX5_hasTwo 18 = .ok (.if_icmp .eq 7, 3) := by decide +kernel
theorem dX5_hasTwo_21 : decode cX5_hasTwo 21 = .ok (.iconst 1, 1) := by decide +kernel
theorem dX5_hasTwo_22 : decode cX5_hasTwo 22 = .ok (.goto 4, 3) := by decide +kernel
theorem dX5_hasTwo_25 : decode cX5_hasTwo 25 = .ok (.iconst 0, 1) := by decide +kernel
theorem dX5_hasTwo_26 : decode cX5_hasTwo 26 = .ok (.ireturn, 1) := by decide +kernel
theorem dX5_init_0 : decode cX5_init 0 = .ok (.aload_n 0, 1) := by decide +kernel
theorem dX5_init_1 : decode cX5_init 1 = .ok (.invokespecial 3, 3) := by decide +kernel
theorem dX5_init_4 : decode cX5_init 4 = .ok (.aload_n 0, 1) := by decide +kernel
theorem dX5_init_5 : decode cX5_init 5 = .ok (.bipush 9, 2) := by decide +kernel
theorem dX5_init_7 : decode cX5_init 7 = .ok (.newarray .int, 2) := by decide +kernel
theorem dX5_init_9 : decode cX5_init 9 = .ok (.putfield 9, 3) := by decide +kernel
theorem dX5_init_12 : decode cX5_init 12 = .ok (.aload_n 0, 1) := by decide +kernel
theorem dX5_init_13 : decode cX5_init 13 = .ok (.bipush 9, 2) := by decide +kernel
theorem dX5_init_15 : decode cX5_init 15 = .ok (.newarray .int, 2) := by decide +kernel
theorem dX5_init_17 : decode cX5_init 17 = .ok (.putfield 15, 3) := by decide +kernel
theorem dX5_init_20 : decode cX5_init 20 = .ok (.aload_n 0, 1) := by decide +kernel
theorem dX5_init_21 : decode cX5_init 21 = .ok (.bipush 81, 2) := by decide +kernel
theorem dX5_init_23 : decode cX5_init 23 = .ok (.newarray .int, 2) := by decide +kernel
theorem dX5_init_25 : decode cX5_init 25 = .ok (.putfield 18, 3) := by decide +kernel
theorem dX5_init_28 : decode cX5_init 28 = .ok (.return_, 1) := by decide +kernel
theorem dX5_lineCount_0 : decode cX5_lineCount 0 = .ok (.aload_n 0, 1) := by decide +kernel
theorem dX5_lineCount_1 : decode cX5_lineCount 1 = .ok (.getfield 9, 3) := by decide +kernel
theorem dX5_lineCount_4 : decode cX5_lineCount 4 = .ok (.iload_n 1, 1) := by decide +kernel
theorem dX5_lineCount_5 : decode cX5_lineCount 5 = .ok (.iaload, 1) := by decide +kernel
theorem dX5_lineCount_6 : decode cX5_lineCount 6 = .ok (.invokestatic 56, 3) := by decide +kernel
theorem dX5_lineCount_9 : decode cX5_lineCount 9 = .ok (.ireturn, 1) := by decide +kernel
theorem dX5_placeOf_0 : decode cX5_placeOf 0 = .ok (.iconst 0, 1) := by decide +kernel
theorem dX5_placeOf_1 : decode cX5_placeOf 1 = .ok (.istore_n 2, 1) := by decide +kernel
theorem dX5_placeOf_2 : decode cX5_placeOf 2 = .ok (.iload_n 2, 1) := by decide +kernel
theorem dX5_placeOf_3 : decode cX5_placeOf 3 = .ok (.aload_n 0, 1) := by decide +kernel
theorem dX5_placeOf_4 : decode cX5_placeOf 4 = .ok (.getfield 21, 3) := by decide +kernel
theorem dX5_placeOf_7 : decode cX5_placeOf 7 = .ok (.if_icmp .ge 21, 3) := by decide +kernel
theorem dX5_placeOf_10 : decode cX5_placeOf 10 = .ok (.aload_n 0, 1) := by decide +kernel
theorem dX5_placeOf_11 : decode cX5_placeOf 11 = .ok (.getfield 15, 3) := by decide +kernel
theorem dX5_placeOf_14 : decode cX5_placeOf 14 = .ok (.iload_n 2, 1) := by decide +kernel
theorem dX5_placeOf_15 : decode cX5_placeOf 15 = .ok (.iaload, 1) := by decide +kernel
theorem dX5_placeOf_16 : decode cX5_placeOf 16 = .ok (.iload_n 1, 1) := by decide +kernel
theorem dX5_placeOf_17 : decode cX5_placeOf 17 = .ok (.if_icmp .ne 5, 3) := by decide +kernel
theorem dX5_placeOf_20 : decode cX5_placeOf 20 = .ok (.iload_n 2, 1) := by decide +kernel
theorem dX5_placeOf_21 : decode cX5_placeOf 21 = .ok (.ireturn, 1) := by decide +kernel
theorem dX5_placeOf_22 : decode cX5_placeOf 22 = .ok (.iinc 2 1, 3) := by decide +kernel
theorem dX5_placeOf_25 : decode cX5_placeOf 25 = .ok (.goto (-23), 3) := by decide +kernel
theorem dX5_placeOf_28 : decode cX5_placeOf 28 = .ok (.iconst (-1), 1) := by decide +kernel
theorem dX5_placeOf_29 : decode cX5_placeOf 29 = .ok (.ireturn, 1) := by decide +kernel
theorem dX5_placesUnlike_0 : decode cX5_placesUnlike 0 = .ok (.iconst 0, 1) := by decide +kernel
theorem dX5_placesUnlike_1 : decode cX5_placesUnlike 1 = .ok (.istore_n 2, 1) := by decide +kernel
theorem dX5_placesUnlike_2 : decode cX5_placesUnlike 2 = .ok (.iconst 0, 1) := by decide +kernel
theorem dX5_placesUnlike_3 : decode cX5_placesUnlike 3 = .ok (.istore_n 3, 1) := by decide +kernel
theorem dX5_placesUnlike_4 : decode cX5_placesUnlike 4 = .ok (.iload_n 3, 1) := by decide +kernel
theorem dX5_placesUnlike_5 : decode cX5_placesUnlike 5 = .ok (.aload_n 0, 1) := by decide +kernel
theorem dX5_placesUnlike_6 : decode cX5_placesUnlike 6 = .ok (.getfield 21, 3) := by decide +kernel
theorem dX5_placesUnlike_9 : decode cX5_placesUnlike 9 = .ok (.if_icmp .ge 27, 3) := by decide +kernel
theorem dX5_placesUnlike_12 : decode cX5_placesUnlike 12 = .ok (.aload_n 0, 1) := by decide +kernel
theorem dX5_placesUnlike_13 : decode cX5_placesUnlike 13 = .ok (.getfield 15, 3) := by decide +kernel
theorem dX5_placesUnlike_16 : decode cX5_placesUnlike 16 = .ok (.iload_n 3, 1) := by decide +kernel
theorem dX5_placesUnlike_17 : decode cX5_placesUnlike 17 = .ok (.iaload, 1) := by decide +kernel
theorem dX5_placesUnlike_18 : decode cX5_placesUnlike 18 = .ok (.aload_n 1, 1) := by decide +kernel
theorem dX5_placesUnlike_19 : decode cX5_placesUnlike 19 = .ok (.getfield 15, 3) := by decide +kernel
theorem dX5_placesUnlike_22 : decode cX5_placesUnlike 22 = .ok (.iload_n 3, 1) := by decide +kernel
theorem dX5_placesUnlike_23 : decode cX5_placesUnlike 23 = .ok (.iaload, 1) := by decide +kernel
theorem dX5_placesUnlike_24 : decode cX5_placesUnlike 24 = .ok (.if_icmp .eq 6, 3) := by decide +kernel
theorem dX5_placesUnlike_27 : decode cX5_placesUnlike 27 = .ok (.iinc 2 1, 3) := by decide +kernel
theorem dX5_placesUnlike_30 : decode cX5_placesUnlike 30 = .ok (.iinc 3 1, 3) := by decide +kernel
theorem dX5_placesUnlike_33 : decode cX5_placesUnlike 33 = .ok (.goto (-29), 3) := by decide +kernel
theorem dX5_placesUnlike_36 : decode cX5_placesUnlike 36 = .ok (.iload_n 2, 1) := by decide +kernel
theorem dX5_placesUnlike_37 : decode cX5_placesUnlike 37 = .ok (.ireturn, 1) := by decide +kernel
theorem dX5_sameAs_0 : decode cX5_sameAs 0 = .ok (.aload_n 0, 1) := by decide +kernel
theorem dX5_sameAs_1 : decode cX5_sameAs 1 = .ok (.aload_n 1, 1) := by decide +kernel
theorem dX5_sameAs_2 : decode cX5_sameAs 2 = .ok (.invokevirtual 44, 3) := by decide +kernel
theorem dX5_sameAs_5 : decode cX5_sameAs 5 = .ok (.ifCond .eq 15, 3) := by decide +kernel
theorem dX5_sameAs_8 : decode cX5_sameAs 8 = .ok (.aload_n 0, 1) := by decide +kernel
theorem dX5_sameAs_9 : decode cX5_sameAs 9 = .ok (.aload_n 1, 1) := by decide +kernel
theorem dX5_sameAs_10 : decode cX5_sameAs 10 = .ok (.invokevirtual 48, 3) := by decide +kernel
theorem dX5_sameAs_13 : decode cX5_sameAs 13 = .ok (.ifCond .ne 7, 3) := by decide +kernel
theorem dX5_sameAs_16 : decode cX5_sameAs 16 = .ok (.iconst 1, 1) := by decide +kernel
theorem dX5_sameAs_17 : decode cX5_sameAs 17 = .ok (.goto 4, 3) := by decide +kernel
theorem dX5_sameAs_20 : decode cX5_sameAs 20 = .ok (.iconst 0, 1) := by decide +kernel
theorem dX5_sameAs_21 : decode cX5_sameAs 21 = .ok (.ireturn, 1) := by decide +kernel
theorem dX5_sameLines_0 : decode cX5_sameLines 0 = .ok (.aload_n 0, 1) := by decide +kernel
theorem dX5_sameLines_1 : decode cX5_sameLines 1 = .ok (.getfield 21, 3) := by decide +kernel
theorem dX5_sameLines_4 : decode cX5_sameLines 4 = .ok (.aload_n 1, 1) := by decide +kernel
theorem dX5_sameLines_5 : decode cX5_sameLines 5 = .ok (.getfield 21, 3) := by decide +kernel
theorem dX5_sameLines_8 : decode cX5_sameLines 8 = .ok (.if_icmp .ne 14, 3) := by decide +kernel
theorem dX5_sameLines_11 : decode cX5_sameLines 11 = .ok (.aload_n 0, 1) := by decide +kernel
theorem dX5_sameLines_12 : decode cX5_sameLines 12 = .ok (.getfield 25, 3) := by decide +kernel
theorem dX5_sameLines_15 : decode cX5_sameLines 15 = .ok (.aload_n 1, 1) := by decide +kernel
theorem dX5_sameLines_16 : decode cX5_sameLines 16 = .ok (.getfield 25, 3) := by decide +kernel
theorem dX5_sameLines_19 : decode cX5_sameLines 19 = .ok (.if_icmp .eq 5, 3) := by decide +kernel
theorem dX5_sameLines_22 : decode cX5_sameLines 22 = .ok (.iconst 0, 1) := by decide +kernel
theorem dX5_sameLines_23 : decode cX5_sameLines 23 = .ok (.ireturn, 1) := by decide +kernel
theorem dX5_sameLines_24 : decode cX5_sameLines 24 = .ok (.iconst 0, 1) := by decide +kernel
theorem dX5_sameLines_25 : decode cX5_sameLines 25 = .ok (.istore_n 2, 1) := by decide +kernel
theorem dX5_sameLines_26 : decode cX5_sameLines 26 = .ok (.iload_n 2, 1) := by decide +kernel
theorem dX5_sameLines_27 : decode cX5_sameLines 27 = .ok (.aload_n 0, 1) := by decide +kernel
theorem dX5_sameLines_28 : decode cX5_sameLines 28 = .ok (.getfield 21, 3) := by decide +kernel
theorem dX5_sameLines_31 : decode cX5_sameLines 31 = .ok (.if_icmp .ge 39, 3) := by decide +kernel
theorem dX5_sameLines_34 : decode cX5_sameLines 34 = .ok (.iconst 0, 1) := by decide +kernel
theorem dX5_sameLines_35 : decode cX5_sameLines 35 = .ok (.istore_n 3, 1) := by decide +kernel
theorem dX5_sameLines_36 : decode cX5_sameLines 36 = .ok (.iload_n 3, 1) := by decide +kernel
theorem dX5_sameLines_37 : decode cX5_sameLines 37 = .ok (.iload_n 2, 1) := by decide +kernel
theorem dX5_sameLines_38 : decode cX5_sameLines 38 = .ok (.if_icmp .ge 26, 3) := by decide +kernel
theorem dX5_sameLines_41 : decode cX5_sameLines 41 = .ok (.aload_n 0, 1) := by decide +kernel
theorem dX5_sameLines_42 : decode cX5_sameLines 42 = .ok (.iload_n 2, 1) := by decide +kernel
theorem dX5_sameLines_43 : decode cX5_sameLines 43 = .ok (.iload_n 3, 1) := by decide +kernel
theorem dX5_sameLines_44 : decode cX5_sameLines 44 = .ok (.invokevirtual 40, 3) := by decide +kernel
theorem dX5_sameLines_47 : decode cX5_sameLines 47 = .ok (.aload_n 1, 1) := by decide +kernel
theorem dX5_sameLines_48 : decode cX5_sameLines 48 = .ok (.iload_n 2, 1) := by decide +kernel
theorem dX5_sameLines_49 : decode cX5_sameLines 49 = .ok (.iload_n 3, 1) := by decide +kernel
theorem dX5_sameLines_50 : decode cX5_sameLines 50 = .ok (.invokevirtual 40, 3) := by decide +kernel
theorem dX5_sameLines_53 : decode cX5_sameLines 53 = .ok (.if_icmp .eq 5, 3) := by decide +kernel
theorem dX5_sameLines_56 : decode cX5_sameLines 56 = .ok (.iconst 0, 1) := by decide +kernel
theorem dX5_sameLines_57 : decode cX5_sameLines 57 = .ok (.ireturn, 1) := by decide +kernel
theorem dX5_sameLines_58 : decode cX5_sameLines 58 = .ok (.iinc 3 1, 3) := by decide +kernel
theorem dX5_sameLines_61 : decode cX5_sameLines 61 = .ok (.goto (-25), 3) := by decide +kernel
theorem dX5_sameLines_64 : decode cX5_sameLines 64 = .ok (.iinc 2 1, 3) := by decide +kernel
theorem dX5_sameLines_67 : decode cX5_sameLines 67 = .ok (.goto (-41), 3) := by decide +kernel
theorem dX5_sameLines_70 : decode cX5_sameLines 70 = .ok (.iconst 1, 1) := by decide +kernel
theorem dX5_sameLines_71 : decode cX5_sameLines 71 = .ok (.ireturn, 1) := by decide +kernel
theorem dX5_setWeight_0 : decode cX5_setWeight 0 = .ok (.aload_n 0, 1) := by decide +kernel
theorem dX5_setWeight_1 : decode cX5_setWeight 1 = .ok (.iload_n 1, 1) := by decide +kernel
theorem dX5_setWeight_2 : decode cX5_setWeight 2 = .ok (.iload_n 2, 1) := by decide +kernel
theorem dX5_setWeight_3 : decode cX5_setWeight 3 = .ok (.invokevirtual 40, 3) := by decide +kernel
theorem dX5_setWeight_6 : decode cX5_setWeight 6 = .ok (.ifCond .le 13, 3) := by decide +kernel
theorem dX5_setWeight_9 : decode cX5_setWeight 9 = .ok (.aload_n 0, 1) := by decide +kernel
theorem dX5_setWeight_10 : decode cX5_setWeight 10 = .ok (.dup, 1) := by decide +kernel
theorem dX5_setWeight_11 : decode cX5_setWeight 11 = .ok (.getfield 25, 3) := by decide +kernel
theorem dX5_setWeight_14 : decode cX5_setWeight 14 = .ok (.iconst 1, 1) := by decide +kernel
theorem dX5_setWeight_15 : decode cX5_setWeight 15 = .ok (.isub, 1) := by decide +kernel
theorem dX5_setWeight_16 : decode cX5_setWeight 16 = .ok (.putfield 25, 3) := by decide +kernel
theorem dX5_setWeight_19 : decode cX5_setWeight 19 = .ok (.aload_n 0, 1) := by decide +kernel
theorem dX5_setWeight_20 : decode cX5_setWeight 20 = .ok (.getfield 18, 3) := by decide +kernel
theorem dX5_setWeight_23 : decode cX5_setWeight 23 = .ok (.iload_n 1, 1) := by decide +kernel
theorem dX5_setWeight_24 : decode cX5_setWeight 24 = .ok (.bipush 9, 2) := by decide +kernel
theorem dX5_setWeight_26 : decode cX5_setWeight 26 = .ok (.imul, 1) := by decide +kernel
theorem dX5_setWeight_27 : decode cX5_setWeight 27 = .ok (.iload_n 2, 1) := by decide +kernel
theorem dX5_setWeight_28 : decode cX5_setWeight 28 = .ok (.iadd, 1) := by decide +kernel
theorem dX5_setWeight_29 : decode cX5_setWeight 29 = .ok (.iload_n 3, 1) := by decide +kernel
theorem dX5_setWeight_30 : decode cX5_setWeight 30 = .ok (.iastore, 1) := by decide +kernel
theorem dX5_setWeight_31 : decode cX5_setWeight 31 = .ok (.aload_n 0, 1) := by decide +kernel
theorem dX5_setWeight_32 : decode cX5_setWeight 32 = .ok (.getfield 18, 3) := by decide +kernel
theorem dX5_setWeight_35 : decode cX5_setWeight 35 = .ok (.iload_n 2, 1) := by decide +kernel
theorem dX5_setWeight_36 : decode cX5_setWeight 36 = .ok (.bipush 9, 2) := by decide +kernel
theorem dX5_setWeight_38 : decode cX5_setWeight 38 = .ok (.imul, 1) := by decide +kernel
theorem dX5_setWeight_39 : decode cX5_setWeight 39 = .ok (.iload_n 1, 1) := by decide +kernel
theorem dX5_setWeight_40 : decode cX5_setWeight 40 = .ok (.iadd, 1) := by decide +kernel
theorem dX5_setWeight_41 : decode cX5_setWeight 41 = .ok (.iload_n 3, 1) := by decide +kernel
theorem dX5_setWeight_42 : decode cX5_setWeight 42 = .ok (.iastore, 1) := by decide +kernel
theorem dX5_setWeight_43 : decode cX5_setWeight 43 = .ok (.iload_n 3, 1) := by decide +kernel
theorem dX5_setWeight_44 : decode cX5_setWeight 44 = .ok (.ifCond .le 40, 3) := by decide +kernel
theorem dX5_setWeight_47 : decode cX5_setWeight 47 = .ok (.aload_n 0, 1) := by decide +kernel
theorem dX5_setWeight_48 : decode cX5_setWeight 48 = .ok (.dup, 1) := by decide +kernel
theorem dX5_setWeight_49 : decode cX5_setWeight 49 = .ok (.getfield 25, 3) := by decide +kernel
theorem dX5_setWeight_52 : decode cX5_setWeight 52 = .ok (.iconst 1, 1) := by decide +kernel
theorem dX5_setWeight_53 : decode cX5_setWeight 53 = .ok (.iadd, 1) := by decide +kernel
theorem dX5_setWeight_54 : decode cX5_setWeight 54 = .ok (.putfield 25, 3) := by decide +kernel
theorem dX5_setWeight_57 : decode cX5_setWeight 57 = .ok (.aload_n 0, 1) := by decide +kernel
theorem dX5_setWeight_58 : decode cX5_setWeight 58 = .ok (.getfield 9, 3) := by decide +kernel
theorem dX5_setWeight_61 : decode cX5_setWeight 61 = .ok (.iload_n 1, 1) := by decide +kernel
theorem dX5_setWeight_62 : decode cX5_setWeight 62 = .ok (.dup2, 1) := by decide +kernel
theorem dX5_setWeight_63 : decode cX5_setWeight 63 = .ok (.iaload, 1) := by decide +kernel
theorem dX5_setWeight_64 : decode cX5_setWeight 64 = .ok (.iconst 1, 1) := by decide +kernel
theorem dX5_setWeight_65 : decode cX5_setWeight 65 = .ok (.iload_n 2, 1) := by decide +kernel
theorem dX5_setWeight_66 : decode cX5_setWeight 66 = .ok (.ishl, 1) := by decide +kernel
theorem dX5_setWeight_67 : decode cX5_setWeight 67 = .ok (.ior, 1) := by decide +kernel
theorem dX5_setWeight_68 : decode cX5_setWeight 68 = .ok (.iastore, 1) := by decide +kernel
theorem dX5_setWeight_69 : decode cX5_setWeight 69 = .ok (.aload_n 0, 1) := by decide +kernel
theorem dX5_setWeight_70 : decode cX5_setWeight 70 = .ok (.getfield 9, 3) := by decide +kernel
theorem dX5_setWeight_73 : decode cX5_setWeight 73 = .ok (.iload_n 2, 1) := by decide +kernel
theorem dX5_setWeight_74 : decode cX5_setWeight 74 = .ok (.dup2, 1) := by decide +kernel
theorem dX5_setWeight_75 : decode cX5_setWeight 75 = .ok (.iaload, 1) := by decide +kernel
theorem dX5_setWeight_76 : decode cX5_setWeight 76 = .ok (.iconst 1, 1) := by decide +kernel
theorem dX5_setWeight_77 : decode cX5_setWeight 77 = .ok (.iload_n 1, 1) := by decide +kernel
theorem dX5_setWeight_78 : decode cX5_setWeight 78 = .ok (.ishl, 1) := by decide +kernel
theorem dX5_setWeight_79 : decode cX5_setWeight 79 = .ok (.ior, 1) := by decide +kernel
theorem dX5_setWeight_80 : decode cX5_setWeight 80 = .ok (.iastore, 1) := by decide +kernel
theorem dX5_setWeight_81 : decode cX5_setWeight 81 = .ok (.goto 31, 3) := by decide +kernel
theorem dX5_setWeight_84 : decode cX5_setWeight 84 = .ok (.aload_n 0, 1) := by decide +kernel
theorem dX5_setWeight_85 : decode cX5_setWeight 85 = .ok (.getfield 9, 3) := by decide +kernel
theorem dX5_setWeight_88 : decode cX5_setWeight 88 = .ok (.iload_n 1, 1) := by decide +kernel
theorem dX5_setWeight_89 : decode cX5_setWeight 89 = .ok (.dup2, 1) := by decide +kernel
theorem dX5_setWeight_90 : decode cX5_setWeight 90 = .ok (.iaload, 1) := by decide +kernel
theorem dX5_setWeight_91 : decode cX5_setWeight 91 = .ok (.iconst 1, 1) := by decide +kernel
theorem dX5_setWeight_92 : decode cX5_setWeight 92 = .ok (.iload_n 2, 1) := by decide +kernel
theorem dX5_setWeight_93 : decode cX5_setWeight 93 = .ok (.ishl, 1) := by decide +kernel
theorem dX5_setWeight_94 : decode cX5_setWeight 94 = .ok (.iconst (-1), 1) := by decide +kernel
theorem dX5_setWeight_95 : decode cX5_setWeight 95 = .ok (.ixor, 1) := by decide +kernel
theorem dX5_setWeight_96 : decode cX5_setWeight 96 = .ok (.iand, 1) := by decide +kernel
theorem dX5_setWeight_97 : decode cX5_setWeight 97 = .ok (.iastore, 1) := by decide +kernel
theorem dX5_setWeight_98 : decode cX5_setWeight 98 = .ok (.aload_n 0, 1) := by decide +kernel
theorem dX5_setWeight_99 : decode cX5_setWeight 99 = .ok (.getfield 9, 3) := by decide +kernel
theorem dX5_setWeight_102 : decode cX5_setWeight 102 = .ok (.iload_n 2, 1) := by decide +kernel
theorem dX5_setWeight_103 : decode cX5_setWeight 103 = .ok (.dup2, 1) := by decide +kernel
theorem dX5_setWeight_104 : decode cX5_setWeight 104 = .ok (.iaload, 1) := by decide +kernel
theorem dX5_setWeight_105 : decode cX5_setWeight 105 = .ok (.iconst 1, 1) := by decide +kernel
theorem dX5_setWeight_106 : decode cX5_setWeight 106 = .ok (.iload_n 1, 1) := by decide +kernel
theorem dX5_setWeight_107 : decode cX5_setWeight 107 = .ok (.ishl, 1) := by decide +kernel
theorem dX5_setWeight_108 : decode cX5_setWeight 108 = .ok (.iconst (-1), 1) := by decide +kernel
theorem dX5_setWeight_109 : decode cX5_setWeight 109 = .ok (.ixor, 1) := by decide +kernel
theorem dX5_setWeight_110 : decode cX5_setWeight 110 = .ok (.iand, 1) := by decide +kernel
theorem dX5_setWeight_111 : decode cX5_setWeight 111 = .ok (.iastore, 1) := by decide +kernel
theorem dX5_setWeight_112 : decode cX5_setWeight 112 = .ok (.return_, 1) := by decide +kernel
theorem dX5_shift_0 : decode cX5_shift 0 = .ok (.iload_n 1, 1) := by decide +kernel
theorem dX5_shift_1 : decode cX5_shift 1 = .ok (.istore_n 3, 1) := by decide +kernel
theorem dX5_shift_2 : decode cX5_shift 2 = .ok (.iload_n 3, 1) := by decide +kernel
theorem dX5_shift_3 : decode cX5_shift 3 = .ok (.iload_n 2, 1) := by decide +kernel
theorem dX5_shift_4 : decode cX5_shift 4 = .ok (.if_icmp .ge 17, 3) := by decide +kernel
theorem dX5_shift_7 : decode cX5_shift 7 = .ok (.aload_n 0, 1) := by decide +kernel
theorem dX5_shift_8 : decode cX5_shift 8 = .ok (.iload_n 3, 1) := by decide +kernel
theorem dX5_shift_9 : decode cX5_shift 9 = .ok (.iload_n 3, 1) := by decide +kernel
theorem dX5_shift_10 : decode cX5_shift 10 = .ok (.iconst 1, 1) := by decide +kernel
theorem dX5_shift_11 : decode cX5_shift 11 = .ok (.iadd, 1) := by decide +kernel
theorem dX5_shift_12 : decode cX5_shift 12 = .ok (.invokevirtual 62, 3) := by decide +kernel
theorem dX5_shift_15 : decode cX5_shift 15 = .ok (.iinc 3 1, 3) := by decide +kernel
theorem dX5_shift_18 : decode cX5_shift 18 = .ok (.goto (-16), 3) := by decide +kernel
theorem dX5_shift_21 : decode cX5_shift 21 = .ok (.iload_n 1, 1) := by decide +kernel
theorem dX5_shift_22 : decode cX5_shift 22 = .ok (.istore_n 3, 1) := by decide +kernel
theorem dX5_shift_23 : decode cX5_shift 23 = .ok (.iload_n 3, 1) := by decide +kernel
theorem dX5_shift_24 : decode cX5_shift 24 = .ok (.iload_n 2, 1) := by decide +kernel
theorem dX5_shift_25 : decode cX5_shift 25 = .ok (.if_icmp .le 17, 3) := by decide +kernel
theorem dX5_shift_28 : decode cX5_shift 28 = .ok (.aload_n 0, 1) := by decide +kernel
theorem dX5_shift_29 : decode cX5_shift 29 = .ok (.iload_n 3, 1) := by decide +kernel
theorem dX5_shift_30 : decode cX5_shift 30 = .ok (.iload_n 3, 1) := by decide +kernel
theorem dX5_shift_31 : decode cX5_shift 31 = .ok (.iconst 1, 1) := by decide +kernel
theorem dX5_shift_32 : decode cX5_shift 32 = .ok (.isub, 1) := by decide +kernel
theorem dX5_shift_33 : decode cX5_shift 33 = .ok (.invokevirtual 62, 3) := by decide +kernel
theorem dX5_shift_36 : decode cX5_shift 36 = .ok (.iinc 3 (-1), 3) := by decide +kernel
theorem dX5_shift_39 : decode cX5_shift 39 = .ok (.goto (-16), 3) := by decide +kernel
theorem dX5_shift_42 : decode cX5_shift 42 = .ok (.return_, 1) := by decide +kernel
theorem dX5_takeFromRow_0 : decode cX5_takeFromRow 0 = .ok (.iconst 0, 1) := by decide +kernel
theorem dX5_takeFromRow_1 : decode cX5_takeFromRow 1 = .ok (.istore_n 2, 1) := by decide +kernel
theorem dX5_takeFromRow_2 : decode cX5_takeFromRow 2 = .ok (.iconst 0, 1) := by decide +kernel
theorem dX5_takeFromRow_3 : decode cX5_takeFromRow 3 = .ok (.istore_n 3, 1) := by decide +kernel
theorem dX5_takeFromRow_4 : decode cX5_takeFromRow 4 = .ok (.iload_n 3, 1) := by decide +kernel
theorem dX5_takeFromRow_5 : decode cX5_takeFromRow 5 = .ok (.aload_n 0, 1) := by decide +kernel
theorem dX5_takeFromRow_6 : decode cX5_takeFromRow 6 = .ok (.getfield 21, 3) := by decide +kernel
theorem dX5_takeFromRow_9 : decode cX5_takeFromRow 9 = .ok (.if_icmp .ge 47, 3) := by decide +kernel
theorem dX5_takeFromRow_12 : decode cX5_takeFromRow 12 = .ok (.aload_n 0, 1) := by decide +kernel
theorem dX5_takeFromRow_13 : decode cX5_takeFromRow 13 = .ok (.getfield 15, 3) := by decide +kernel
theorem dX5_takeFromRow_16 : decode cX5_takeFromRow 16 = .ok (.iload_n 3, 1) := by decide +kernel
theorem dX5_takeFromRow_17 : decode cX5_takeFromRow 17 = .ok (.iaload, 1) := by decide +kernel
theorem dX5_takeFromRow_18 : decode cX5_takeFromRow 18 = .ok (.istore 4, 2) := by decide +kernel
theorem dX5_takeFromRow_20 : decode cX5_takeFromRow 20 = .ok (.iload 4, 2) := by decide +kernel
theorem dX5_takeFromRow_22 : decode cX5_takeFromRow 22 = .ok (.iload_n 1, 1) := by decide +kernel
theorem dX5_takeFromRow_23 : decode cX5_takeFromRow 23 = .ok (.if_icmp .eq 27, 3) := by decide +kernel
theorem dX5_takeFromRow_26 : decode cX5_takeFromRow 26 = .ok (.aload_n 0, 1) := by decide +kernel
theorem dX5_takeFromRow_27 : decode cX5_takeFromRow 27 = .ok (.getfield 15, 3) := by decide +kernel
theorem dX5_takeFromRow_30 : decode cX5_takeFromRow 30 = .ok (.iload_n 2, 1) := by decide +kernel
theorem dX5_takeFromRow_31 : decode cX5_takeFromRow 31 = .ok (.iload 4, 2) := by decide +kernel
theorem dX5_takeFromRow_33 : decode cX5_takeFromRow 33 = .ok (.iload_n 1, 1) := by decide +kernel
theorem dX5_takeFromRow_34 : decode cX5_takeFromRow 34 = .ok (.if_icmp .ge 8, 3) := by decide +kernel
theorem dX5_takeFromRow_37 : decode cX5_takeFromRow 37 = .ok (.iload 4, 2) := by decide +kernel
theorem dX5_takeFromRow_39 : decode cX5_takeFromRow 39 = .ok (.goto 7, 3) := by decide +kernel
theorem dX5_takeFromRow_42 : decode cX5_takeFromRow 42 = .ok (.iload 4, 2) := by decide +kernel
theorem dX5_takeFromRow_44 : decode cX5_takeFromRow 44 = .ok (.iconst 1, 1) := by decide +kernel
theorem dX5_takeFromRow_45 : decode cX5_takeFromRow 45 = .ok (.isub, 1) := by decide +kernel
theorem dX5_takeFromRow_46 : decode cX5_takeFromRow 46 = .ok (.iastore, 1) := by decide +kernel
theorem dX5_takeFromRow_47 : decode cX5_takeFromRow 47 = .ok (.iinc 2 1, 3) := by decide +kernel
theorem dX5_takeFromRow_50 : decode cX5_takeFromRow 50 = .ok (.iinc 3 1, 3) := by decide +kernel
theorem dX5_takeFromRow_53 : decode cX5_takeFromRow 53 = .ok (.goto (-49), 3) := by decide +kernel
theorem dX5_takeFromRow_56 : decode cX5_takeFromRow 56 = .ok (.return_, 1) := by decide +kernel
theorem dX5_takeOut_0 : decode cX5_takeOut 0 = .ok (.aload_n 0, 1) := by decide +kernel
theorem dX5_takeOut_1 : decode cX5_takeOut 1 = .ok (.getfield 21, 3) := by decide +kernel
theorem dX5_takeOut_4 : decode cX5_takeOut 4 = .ok (.iconst 1, 1) := by decide +kernel
theorem dX5_takeOut_5 : decode cX5_takeOut 5 = .ok (.isub, 1) := by decide +kernel
theorem dX5_takeOut_6 : decode cX5_takeOut 6 = .ok (.istore_n 2, 1) := by decide +kernel
theorem dX5_takeOut_7 : decode cX5_takeOut 7 = .ok (.iconst 0, 1) := by decide +kernel
theorem dX5_takeOut_8 : decode cX5_takeOut 8 = .ok (.istore_n 3, 1) := by decide +kernel
theorem dX5_takeOut_9 : decode cX5_takeOut 9 = .ok (.iload_n 3, 1) := by decide +kernel
theorem dX5_takeOut_10 : decode cX5_takeOut 10 = .ok (.iload_n 2, 1) := by decide +kernel
theorem dX5_takeOut_11 : decode cX5_takeOut 11 = .ok (.if_icmp .ge 64, 3) := by decide +kernel
theorem dX5_takeOut_14 : decode cX5_takeOut 14 = .ok (.iload_n 3, 1) := by decide +kernel
theorem dX5_takeOut_15 : decode cX5_takeOut 15 = .ok (.iconst 1, 1) := by decide +kernel
theorem dX5_takeOut_16 : decode cX5_takeOut 16 = .ok (.iadd, 1) := by decide +kernel
theorem dX5_takeOut_17 : decode cX5_takeOut 17 = .ok (.istore 4, 2) := by decide +kernel
theorem dX5_takeOut_19 : decode cX5_takeOut 19 = .ok (.iload 4, 2) := by decide +kernel
theorem dX5_takeOut_21 : decode cX5_takeOut 21 = .ok (.iload_n 2, 1) := by decide +kernel
theorem dX5_takeOut_22 : decode cX5_takeOut 22 = .ok (.if_icmp .ge 47, 3) := by decide +kernel
theorem dX5_takeOut_25 : decode cX5_takeOut 25 = .ok (.aload_n 0, 1) := by decide +kernel
theorem dX5_takeOut_26 : decode cX5_takeOut 26 = .ok (.iload_n 3, 1) := by decide +kernel
theorem dX5_takeOut_27 : decode cX5_takeOut 27 = .ok (.iload 4, 2) := by decide +kernel
theorem dX5_takeOut_29 : decode cX5_takeOut 29 = .ok (.aload_n 0, 1) := by decide +kernel
theorem dX5_takeOut_30 : decode cX5_takeOut 30 = .ok (.iload_n 3, 1) := by decide +kernel
theorem dX5_takeOut_31 : decode cX5_takeOut 31 = .ok (.iload_n 1, 1) := by decide +kernel
theorem dX5_takeOut_32 : decode cX5_takeOut 32 = .ok (.if_icmp .ge 7, 3) := by decide +kernel
theorem dX5_takeOut_35 : decode cX5_takeOut 35 = .ok (.iload_n 3, 1) := by decide +kernel
theorem dX5_takeOut_36 : decode cX5_takeOut 36 = .ok (.goto 6, 3) := by decide +kernel
theorem dX5_takeOut_39 : decode cX5_takeOut 39 = .ok (.iload_n 3, 1) := by decide +kernel
theorem dX5_takeOut_40 : decode cX5_takeOut 40 = .ok (.iconst 1, 1) := by decide +kernel
theorem dX5_takeOut_41 : decode cX5_takeOut 41 = .ok (.iadd, 1) := by decide +kernel
theorem dX5_takeOut_42 : decode cX5_takeOut 42 = .ok (.iload 4, 2) := by decide +kernel
theorem dX5_takeOut_44 : decode cX5_takeOut 44 = .ok (.iload_n 1, 1) := by decide +kernel
theorem dX5_takeOut_45 : decode cX5_takeOut 45 = .ok (.if_icmp .ge 8, 3) := by decide +kernel
theorem dX5_takeOut_48 : decode cX5_takeOut 48 = .ok (.iload 4, 2) := by decide +kernel
theorem dX5_takeOut_50 : decode cX5_takeOut 50 = .ok (.goto 7, 3) := by decide +kernel
theorem dX5_takeOut_53 : decode cX5_takeOut 53 = .ok (.iload 4, 2) := by decide +kernel
theorem dX5_takeOut_55 : decode cX5_takeOut 55 = .ok (.iconst 1, 1) := by decide +kernel
theorem dX5_takeOut_56 : decode cX5_takeOut 56 = .ok (.iadd, 1) := by decide +kernel
theorem dX5_takeOut_57 : decode cX5_takeOut 57 = .ok (.invokevirtual 40, 3) := by decide +kernel
theorem dX5_takeOut_60 : decode cX5_takeOut 60 = .ok (.invokevirtual 74, 3) := by decide +kernel
theorem dX5_takeOut_63 : decode cX5_takeOut 63 = .ok (.iinc 4 1, 3) := by decide +kernel
theorem dX5_takeOut_66 : decode cX5_takeOut 66 = .ok (.goto (-47), 3) := by decide +kernel
theorem dX5_takeOut_69 : decode cX5_takeOut 69 = .ok (.iinc 3 1, 3) := by decide +kernel
theorem dX5_takeOut_72 : decode cX5_takeOut 72 = .ok (.goto (-63), 3) := by decide +kernel
theorem dX5_takeOut_75 : decode cX5_takeOut 75 = .ok (.iconst 0, 1) := by decide +kernel
theorem dX5_takeOut_76 : decode cX5_takeOut 76 = .ok (.istore_n 3, 1) := by decide +kernel
theorem dX5_takeOut_77 : decode cX5_takeOut 77 = .ok (.iload_n 3, 1) := by decide +kernel
theorem dX5_takeOut_78 : decode cX5_takeOut 78 = .ok (.iload_n 2, 1) := by decide +kernel
theorem dX5_takeOut_79 : decode cX5_takeOut 79 = .ok (.if_icmp .ge 16, 3) := by decide +kernel
theorem dX5_takeOut_82 : decode cX5_takeOut 82 = .ok (.aload_n 0, 1) := by decide +kernel
theorem dX5_takeOut_83 : decode cX5_takeOut 83 = .ok (.iload_n 3, 1) := by decide +kernel
theorem dX5_takeOut_84 : decode cX5_takeOut 84 = .ok (.iload_n 2, 1) := by decide +kernel
theorem dX5_takeOut_85 : decode cX5_takeOut 85 = .ok (.iconst 0, 1) := by decide +kernel
theorem dX5_takeOut_86 : decode cX5_takeOut 86 = .ok (.invokevirtual 74, 3) := by decide +kernel
theorem dX5_takeOut_89 : decode cX5_takeOut 89 = .ok (.iinc 3 1, 3) := by decide +kernel
theorem dX5_takeOut_92 : decode cX5_takeOut 92 = .ok (.goto (-15), 3) := by decide +kernel
theorem dX5_takeOut_95 : decode cX5_takeOut 95 = .ok (.aload_n 0, 1) := by decide +kernel
theorem dX5_takeOut_96 : decode cX5_takeOut 96 = .ok (.iload_n 1, 1) := by decide +kernel
theorem dX5_takeOut_97 : decode cX5_takeOut 97 = .ok (.invokevirtual 82, 3) := by decide +kernel
theorem dX5_takeOut_100 : decode cX5_takeOut 100 = .ok (.aload_n 0, 1) := by decide +kernel
theorem dX5_takeOut_101 : decode cX5_takeOut 101 = .ok (.iload_n 2, 1) := by decide +kernel
theorem dX5_takeOut_102 : decode cX5_takeOut 102 = .ok (.putfield 21, 3) := by decide +kernel
theorem dX5_takeOut_105 : decode cX5_takeOut 105 = .ok (.return_, 1) := by decide +kernel
theorem dX5_turnRound_0 : decode cX5_turnRound 0 = .ok (.iconst 0, 1) := by decide +kernel
theorem dX5_turnRound_1 : decode cX5_turnRound 1 = .ok (.istore_n 1, 1) := by decide +kernel
theorem dX5_turnRound_2 : decode cX5_turnRound 2 = .ok (.iload_n 1, 1) := by decide +kernel
theorem dX5_turnRound_3 : decode cX5_turnRound 3 = .ok (.aload_n 0, 1) := by decide +kernel
theorem dX5_turnRound_4 : decode cX5_turnRound 4 = .ok (.getfield 21, 3) := by decide +kernel
theorem dX5_turnRound_7 : decode cX5_turnRound 7 = .ok (.iconst 1, 1) := by decide +kernel
theorem dX5_turnRound_8 : decode cX5_turnRound 8 = .ok (.isub, 1) := by decide +kernel
theorem dX5_turnRound_9 : decode cX5_turnRound 9 = .ok (.iload_n 1, 1) := by decide +kernel
theorem dX5_turnRound_10 : decode cX5_turnRound 10 = .ok (.isub, 1) := by decide +kernel
theorem dX5_turnRound_11 : decode cX5_turnRound 11 = .ok (.if_icmp .ge 22, 3) := by decide +kernel
theorem dX5_turnRound_14 : decode cX5_turnRound 14 = .ok (.aload_n 0, 1) := by decide +kernel
theorem dX5_turnRound_15 : decode cX5_turnRound 15 = .ok (.iload_n 1, 1) := by decide +kernel
theorem dX5_turnRound_16 : decode cX5_turnRound 16 = .ok (.aload_n 0, 1) := by decide +kernel
theorem dX5_turnRound_17 : decode cX5_turnRound 17 = .ok (.getfield 21, 3) := by decide +kernel
theorem dX5_turnRound_20 : decode cX5_turnRound 20 = .ok (.iconst 1, 1) := by decide +kernel
theorem dX5_turnRound_21 : decode cX5_turnRound 21 = .ok (.isub, 1) := by decide +kernel
theorem dX5_turnRound_22 : decode cX5_turnRound 22 = .ok (.iload_n 1, 1) := by decide +kernel
theorem dX5_turnRound_23 : decode cX5_turnRound 23 = .ok (.isub, 1) := by decide +kernel
theorem dX5_turnRound_24 : decode cX5_turnRound 24 = .ok (.invokevirtual 62, 3) := by decide +kernel
theorem dX5_turnRound_27 : decode cX5_turnRound 27 = .ok (.iinc 1 1, 3) := by decide +kernel
theorem dX5_turnRound_30 : decode cX5_turnRound 30 = .ok (.goto (-28), 3) := by decide +kernel
theorem dX5_turnRound_33 : decode cX5_turnRound 33 = .ok (.return_, 1) := by decide +kernel
theorem dX5_weightOf_0 : decode cX5_weightOf 0 = .ok (.aload_n 0, 1) := by decide +kernel
theorem dX5_weightOf_1 : decode cX5_weightOf 1 = .ok (.getfield 18, 3) := by decide +kernel
theorem dX5_weightOf_4 : decode cX5_weightOf 4 = .ok (.iload_n 1, 1) := by decide +kernel
theorem dX5_weightOf_5 : decode cX5_weightOf 5 = .ok (.bipush 9, 2) := by decide +kernel
theorem dX5_weightOf_7 : decode cX5_weightOf 7 = .ok (.imul, 1) := by decide +kernel
theorem dX5_weightOf_8 : decode cX5_weightOf 8 = .ok (.iload_n 2, 1) := by decide +kernel
theorem dX5_weightOf_9 : decode cX5_weightOf 9 = .ok (.iadd, 1) := by decide +kernel
theorem dX5_weightOf_10 : decode cX5_weightOf 10 = .ok (.iaload, 1) := by decide +kernel
theorem dX5_weightOf_11 : decode cX5_weightOf 11 = .ok (.ireturn, 1) := by decide +kernel
theorem dX6_aboveOf_0 : decode cX6_aboveOf 0 = .ok (.iload_n 0, 1) := by decide +kernel
theorem dX6_aboveOf_1 : decode cX6_aboveOf 1 = .ok (.iconst 2, 1) := by decide +kernel
theorem dX6_aboveOf_2 : decode cX6_aboveOf 2 = .ok (.iload_n 1, 1) := by decide +kernel
theorem dX6_aboveOf_3 : decode cX6_aboveOf 3 = .ok (.ishl, 1) := by decide +kernel
theorem dX6_aboveOf_4 : decode cX6_aboveOf 4 = .ok (.ineg, 1) := by decide +kernel
theorem dX6_aboveOf_5 : decode cX6_aboveOf 5 = .ok (.iand, 1) := by decide +kernel
theorem dX6_aboveOf_6 : decode cX6_aboveOf 6 = .ok (.ireturn, 1) := by decide +kernel
theorem dX6_aheadAtStep_0 : decode cX6_aheadAtStep 0 = .ok (.iload_n 0, 1) := by decide +kernel
theorem dX6_aheadAtStep_1 : decode cX6_aheadAtStep 1 = .ok (.invokestatic 9, 3) := by decide +kernel
theorem dX6_aheadAtStep_4 : decode cX6_aheadAtStep 4 = .ok (.ifCond .eq 7, 3) := by decide +kernel
theorem dX6_aheadAtStep_7 : decode cX6_aheadAtStep 7 = .ok (.iload_n 1, 1) := by decide +kernel
theorem dX6_aheadAtStep_8 : decode cX6_aheadAtStep 8 = .ok (.goto 8, 3) := by decide +kernel
theorem dX6_aheadAtStep_11 : decode cX6_aheadAtStep 11 = .ok (.iload_n 1, 1) := by decide +kernel
theorem dX6_aheadAtStep_12 : decode cX6_aheadAtStep 12 = .ok (.iconst 1, 1) := by decide +kernel
theorem dX6_aheadAtStep_13 : decode cX6_aheadAtStep 13 = .ok (.iload_n 2, 1) := by decide +kernel
theorem dX6_aheadAtStep_14 : decode cX6_aheadAtStep 14 = .ok (.ishl, 1) := by decide +kernel
theorem dX6_aheadAtStep_15 : decode cX6_aheadAtStep 15 = .ok (.ior, 1) := by decide +kernel
theorem dX6_aheadAtStep_16 : decode cX6_aheadAtStep 16 = .ok (.ireturn, 1) := by decide +kernel
theorem dX6_atPlace_0 : decode cX6_atPlace 0 = .ok (.aload_n 0, 1) := by decide +kernel
theorem dX6_atPlace_1 : decode cX6_atPlace 1 = .ok (.iload_n 1, 1) := by decide +kernel
theorem dX6_atPlace_2 : decode cX6_atPlace 2 = .ok (.aload_n 0, 1) := by decide +kernel
theorem dX6_atPlace_3 : decode cX6_atPlace 3 = .ok (.iload_n 2, 1) := by decide +kernel
theorem dX6_atPlace_4 : decode cX6_atPlace 4 = .ok (.invokevirtual 21, 3) := by decide +kernel
theorem dX6_atPlace_7 : decode cX6_atPlace 7 = .ok (.aload_n 0, 1) := by decide +kernel
theorem dX6_atPlace_8 : decode cX6_atPlace 8 = .ok (.getfield 27, 3) := by decide +kernel
theorem dX6_atPlace_11 : decode cX6_atPlace 11 = .ok (.iload_n 2, 1) := by decide +kernel
theorem dX6_atPlace_12 : decode cX6_atPlace 12 = .ok (.iaload, 1) := by decide +kernel
theorem dX6_atPlace_13 : decode cX6_atPlace 13 = .ok (.invokestatic 31, 3) := by decide +kernel
theorem dX6_atPlace_16 : decode cX6_atPlace 16 = .ok (.ireturn, 1) := by decide +kernel
theorem dX6_cutWeight_0 : decode cX6_cutWeight 0 = .ok (.iconst 0, 1) := by decide +kernel
theorem dX6_cutWeight_1 : decode cX6_cutWeight 1 = .ok (.istore_n 2, 1) := by decide +kernel
theorem dX6_cutWeight_2 : decode cX6_cutWeight 2 = .ok (.iconst 0, 1) := by decide +kernel
theorem dX6_cutWeight_3 : decode cX6_cutWeight 3 = .ok (.istore_n 3, 1) := by decide +kernel
theorem dX6_cutWeight_4 : decode cX6_cutWeight 4 = .ok (.iload_n 3, 1) := by decide +kernel
theorem dX6_cutWeight_5 : decode cX6_cutWeight 5 = .ok (.aload_n 0, 1) := by decide +kernel
theorem dX6_cutWeight_6 : decode cX6_cutWeight 6 = .ok (.getfield 57, 3) := by decide +kernel
theorem dX6_cutWeight_9 : decode cX6_cutWeight 9 = .ok (.if_icmp .ge 75, 3) := by decide +kernel
theorem dX6_cutWeight_12 : decode cX6_cutWeight 12 = .ok (.aload_n 0, 1) := by decide +kernel
theorem dX6_cutWeight_13 : decode cX6_cutWeight 13 = .ok (.getfield 61, 3) := by decide +kernel
theorem dX6_cutWeight_16 : decode cX6_cutWeight 16 = .ok (.iload_n 3, 1) := by decide +kernel
theorem dX6_cutWeight_17 : decode cX6_cutWeight 17 = .ok (.iaload, 1) := by decide +kernel
theorem dX6_cutWeight_18 : decode cX6_cutWeight 18 = .ok (.iload_n 1, 1) := by decide +kernel
theorem dX6_cutWeight_19 : decode cX6_cutWeight 19 = .ok (.iconst (-1), 1) := by decide +kernel
theorem dX6_cutWeight_20 : decode cX6_cutWeight 20 = .ok (.ixor, 1) := by decide +kernel
theorem dX6_cutWeight_21 : decode cX6_cutWeight 21 = .ok (.iand, 1) := by decide +kernel
theorem dX6_cutWeight_22 : decode cX6_cutWeight 22 = .ok (.istore 4, 2) := by decide +kernel
theorem dX6_cutWeight_24 : decode cX6_cutWeight 24 = .ok (.iload_n 1, 1) := by decide +kernel
theorem dX6_cutWeight_25 : decode cX6_cutWeight 25 = .ok (.iload_n 3, 1) := by decide +kernel
theorem dX6_cutWeight_26 : decode cX6_cutWeight 26 = .ok (.ishr, 1) := by decide +kernel
theorem dX6_cutWeight_27 : decode cX6_cutWeight 27 = .ok (.iconst 1, 1) := by decide +kernel
theorem dX6_cutWeight_28 : decode cX6_cutWeight 28 = .ok (.iand, 1) := by decide +kernel
theorem dX6_cutWeight_29 : decode cX6_cutWeight 29 = .ok (.ifCond .eq 49, 3) := by decide +kernel
theorem dX6_cutWeight_32 : decode cX6_cutWeight 32 = .ok (.iload 4, 2) := by decide +kernel
theorem dX6_cutWeight_34 : decode cX6_cutWeight 34 = .ok (.ifCond .ne 6, 3) := by decide +kernel
theorem dX6_cutWeight_37 : decode cX6_cutWeight 37 = .ok (.goto 41, 3) := by decide +kernel
theorem dX6_cutWeight_40 : decode cX6_cutWeight 40 = .ok (.iconst 0, 1) := by decide +kernel
theorem dX6_cutWeight_41 : decode cX6_cutWeight 41 = .ok (.istore 5, 2) := by decide +kernel
theorem dX6_cutWeight_43 : decode cX6_cutWeight 43 = .ok (.iload 5, 2) := by decide +kernel
theorem dX6_cutWeight_45 : decode cX6_cutWeight 45 = .ok (.aload_n 0, 1) := by decide +kernel
theorem dX6_cutWeight_46 : decode cX6_cutWeight 46 = .ok (.getfield 57, 3) := by decide +kernel
theorem dX6_cutWeight_49 : decode cX6_cutWeight 49 = .ok (.if_icmp .ge 29, 3) := by decide +kernel
theorem dX6_cutWeight_52 : decode cX6_cutWeight 52 = .ok (.iload 4, 2) := by decide +kernel
theorem dX6_cutWeight_54 : decode cX6_cutWeight 54 = .ok (.iload 5, 2) := by decide +kernel
