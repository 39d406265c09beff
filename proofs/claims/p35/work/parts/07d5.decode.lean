/-! decode rows -/
theorem dX5_setWeight_62 : decode cX5_setWeight 62 = .ok (.dup2, 1) := dc_92 (gB_c lq_cX5_setWeight q1_cX5_setWeight 30 (o := 92) rfl)
theorem dX5_setWeight_63 : decode cX5_setWeight 63 = .ok (.iaload, 1) := dc_46 (gB_c lq_cX5_setWeight q1_cX5_setWeight 31 (o := 46) rfl)
theorem dX5_setWeight_64 : decode cX5_setWeight 64 = .ok (.iconst 1, 1) := dc_4 (gB_c lq_cX5_setWeight q2_cX5_setWeight 0 (o := 4) rfl)
theorem dX5_setWeight_65 : decode cX5_setWeight 65 = .ok (.iload_n 2, 1) := dc_28 (gB_c lq_cX5_setWeight q2_cX5_setWeight 1 (o := 28) rfl)
theorem dX5_setWeight_66 : decode cX5_setWeight 66 = .ok (.ishl, 1) := dc_120 (gB_c lq_cX5_setWeight q2_cX5_setWeight 2 (o := 120) rfl)
theorem dX5_setWeight_67 : decode cX5_setWeight 67 = .ok (.ior, 1) := dc_128 (gB_c lq_cX5_setWeight q2_cX5_setWeight 3 (o := 128) rfl)
theorem dX5_setWeight_68 : decode cX5_setWeight 68 = .ok (.iastore, 1) := dc_79 (gB_c lq_cX5_setWeight q2_cX5_setWeight 4 (o := 79) rfl)
theorem dX5_setWeight_69 : decode cX5_setWeight 69 = .ok (.aload_n 0, 1) := dc_42 (gB_c lq_cX5_setWeight q2_cX5_setWeight 5 (o := 42) rfl)
theorem dX5_setWeight_70 : decode cX5_setWeight 70 = .ok (.getfield 9, 3) := dc_180 (gB_c lq_cX5_setWeight q2_cX5_setWeight 6 (o := 180) rfl) (gB_c lq_cX5_setWeight q2_cX5_setWeight 7 (o := 0) rfl) (gB_c lq_cX5_setWeight q2_cX5_setWeight 8 (o := 9) rfl) rfl
theorem dX5_setWeight_73 : decode cX5_setWeight 73 = .ok (.iload_n 2, 1) := dc_28 (gB_c lq_cX5_setWeight q2_cX5_setWeight 9 (o := 28) rfl)
theorem dX5_setWeight_74 : decode cX5_setWeight 74 = .ok (.dup2, 1) := dc_92 (gB_c lq_cX5_setWeight q2_cX5_setWeight 10 (o := 92) rfl)
theorem dX5_setWeight_75 : decode cX5_setWeight 75 = .ok (.iaload, 1) := dc_46 (gB_c lq_cX5_setWeight q2_cX5_setWeight 11 (o := 46) rfl)
theorem dX5_setWeight_76 : decode cX5_setWeight 76 = .ok (.iconst 1, 1) := dc_4 (gB_c lq_cX5_setWeight q2_cX5_setWeight 12 (o := 4) rfl)
theorem dX5_setWeight_77 : decode cX5_setWeight 77 = .ok (.iload_n 1, 1) := dc_27 (gB_c lq_cX5_setWeight q2_cX5_setWeight 13 (o := 27) rfl)
theorem dX5_setWeight_78 : decode cX5_setWeight 78 = .ok (.ishl, 1) := dc_120 (gB_c lq_cX5_setWeight q2_cX5_setWeight 14 (o := 120) rfl)
theorem dX5_setWeight_79 : decode cX5_setWeight 79 = .ok (.ior, 1) := dc_128 (gB_c lq_cX5_setWeight q2_cX5_setWeight 15 (o := 128) rfl)
theorem dX5_setWeight_80 : decode cX5_setWeight 80 = .ok (.iastore, 1) := dc_79 (gB_c lq_cX5_setWeight q2_cX5_setWeight 16 (o := 79) rfl)
theorem dX5_setWeight_81 : decode cX5_setWeight 81 = .ok (.goto 31, 3) := dc_167 (gB_c lq_cX5_setWeight q2_cX5_setWeight 17 (o := 167) rfl) (gB_c lq_cX5_setWeight q2_cX5_setWeight 18 (o := 0) rfl) (gB_c lq_cX5_setWeight q2_cX5_setWeight 19 (o := 31) rfl) rfl
theorem dX5_setWeight_84 : decode cX5_setWeight 84 = .ok (.aload_n 0, 1) := dc_42 (gB_c lq_cX5_setWeight q2_cX5_setWeight 20 (o := 42) rfl)
theorem dX5_setWeight_85 : decode cX5_setWeight 85 = .ok (.getfield 9, 3) := dc_180 (gB_c lq_cX5_setWeight q2_cX5_setWeight 21 (o := 180) rfl) (gB_c lq_cX5_setWeight q2_cX5_setWeight 22 (o := 0) rfl) (gB_c lq_cX5_setWeight q2_cX5_setWeight 23 (o := 9) rfl) rfl
theorem dX5_setWeight_88 : decode cX5_setWeight 88 = .ok (.iload_n 1, 1) := dc_27 (gB_c lq_cX5_setWeight q2_cX5_setWeight 24 (o := 27) rfl)
theorem dX5_setWeight_89 : decode cX5_setWeight 89 = .ok (.dup2, 1) := dc_92 (gB_c lq_cX5_setWeight q2_cX5_setWeight 25 (o := 92) rfl)
theorem dX5_setWeight_90 : decode cX5_setWeight 90 = .ok (.iaload, 1) := dc_46 (gB_c lq_cX5_setWeight q2_cX5_setWeight 26 (o := 46) rfl)
theorem dX5_setWeight_91 : decode cX5_setWeight 91 = .ok (.iconst 1, 1) := dc_4 (gB_c lq_cX5_setWeight q2_cX5_setWeight 27 (o := 4) rfl)
theorem dX5_setWeight_92 : decode cX5_setWeight 92 = .ok (.iload_n 2, 1) := dc_28 (gB_c lq_cX5_setWeight q2_cX5_setWeight 28 (o := 28) rfl)
theorem dX5_setWeight_93 : decode cX5_setWeight 93 = .ok (.ishl, 1) := dc_120 (gB_c lq_cX5_setWeight q2_cX5_setWeight 29 (o := 120) rfl)
theorem dX5_setWeight_94 : decode cX5_setWeight 94 = .ok (.iconst (-1), 1) := dc_2 (gB_c lq_cX5_setWeight q2_cX5_setWeight 30 (o := 2) rfl)
theorem dX5_setWeight_95 : decode cX5_setWeight 95 = .ok (.ixor, 1) := dc_130 (gB_c lq_cX5_setWeight q2_cX5_setWeight 31 (o := 130) rfl)
theorem dX5_setWeight_96 : decode cX5_setWeight 96 = .ok (.iand, 1) := dc_126 (gB_c lq_cX5_setWeight q3_cX5_setWeight 0 (o := 126) rfl)
theorem dX5_setWeight_97 : decode cX5_setWeight 97 = .ok (.iastore, 1) := dc_79 (gB_c lq_cX5_setWeight q3_cX5_setWeight 1 (o := 79) rfl)
theorem dX5_setWeight_98 : decode cX5_setWeight 98 = .ok (.aload_n 0, 1) := dc_42 (gB_c lq_cX5_setWeight q3_cX5_setWeight 2 (o := 42) rfl)
theorem dX5_setWeight_99 : decode cX5_setWeight 99 = .ok (.getfield 9, 3) := dc_180 (gB_c lq_cX5_setWeight q3_cX5_setWeight 3 (o := 180) rfl) (gB_c lq_cX5_setWeight q3_cX5_setWeight 4 (o := 0) rfl) (gB_c lq_cX5_setWeight q3_cX5_setWeight 5 (o := 9) rfl) rfl
theorem dX5_setWeight_102 : decode cX5_setWeight 102 = .ok (.iload_n 2, 1) := dc_28 (gB_c lq_cX5_setWeight q3_cX5_setWeight 6 (o := 28) rfl)
theorem dX5_setWeight_103 : decode cX5_setWeight 103 = .ok (.dup2, 1) := dc_92 (gB_c lq_cX5_setWeight q3_cX5_setWeight 7 (o := 92) rfl)
theorem dX5_setWeight_104 : decode cX5_setWeight 104 = .ok (.iaload, 1) := dc_46 (gB_c lq_cX5_setWeight q3_cX5_setWeight 8 (o := 46) rfl)
theorem dX5_setWeight_105 : decode cX5_setWeight 105 = .ok (.iconst 1, 1) := dc_4 (gB_c lq_cX5_setWeight q3_cX5_setWeight 9 (o := 4) rfl)
theorem dX5_setWeight_106 : decode cX5_setWeight 106 = .ok (.iload_n 1, 1) := dc_27 (gB_c lq_cX5_setWeight q3_cX5_setWeight 10 (o := 27) rfl)
theorem dX5_setWeight_107 : decode cX5_setWeight 107 = .ok (.ishl, 1) := dc_120 (gB_c lq_cX5_setWeight q3_cX5_setWeight 11 (o := 120) rfl)
theorem dX5_setWeight_108 : decode cX5_setWeight 108 = .ok (.iconst (-1), 1) := dc_2 (gB_c lq_cX5_setWeight q3_cX5_setWeight 12 (o := 2) rfl)
theorem dX5_setWeight_109 : decode cX5_setWeight 109 = .ok (.ixor, 1) := dc_130 (gB_c lq_cX5_setWeight q3_cX5_setWeight 13 (o := 130) rfl)
theorem dX5_setWeight_110 : decode cX5_setWeight 110 = .ok (.iand, 1) := dc_126 (gB_c lq_cX5_setWeight q3_cX5_setWeight 14 (o := 126) rfl)
theorem dX5_setWeight_111 : decode cX5_setWeight 111 = .ok (.iastore, 1) := dc_79 (gB_c lq_cX5_setWeight q3_cX5_setWeight 15 (o := 79) rfl)
theorem dX5_setWeight_112 : decode cX5_setWeight 112 = .ok (.return_, 1) := dc_177 (gB_c lq_cX5_setWeight q3_cX5_setWeight 16 (o := 177) rfl)
abbrev r1_cX5_shift : List Nat := [100, 182, 0, 62, 132, 3, 255, 167, 255, 240, 177]
def a0_cX5_shift : List Nat := [27, 62, 29, 28, 162, 0, 17, 42, 29, 29, 4, 96, 182, 0, 62, 132, 3, 1, 167, 255, 240, 27, 62, 29, 28, 164, 0, 17, 42, 29, 29, 4]
abbrev r0_cX5_shift : List Nat := a0_cX5_shift ++ r1_cX5_shift
theorem lq_cX5_shift : (cX5_shift).data.toList.map UInt8.toNat = r0_cX5_shift := by decide +kernel
theorem q1_cX5_shift : ∀ i, (r0_cX5_shift)[32 + i]? = (r1_cX5_shift)[i]? := chn (A := a0_cX5_shift) (B := r1_cX5_shift) (n := 0) (k := 32) rfl (ch0 (R := r0_cX5_shift))
theorem dX5_shift_0 : decode cX5_shift 0 = .ok (.iload_n 1, 1) := dc_27 (gB_l lq_cX5_shift (p := 0) (o := 27) rfl)
theorem dX5_shift_1 : decode cX5_shift 1 = .ok (.istore_n 3, 1) := dc_62 (gB_l lq_cX5_shift (p := 1) (o := 62) rfl)
theorem dX5_shift_2 : decode cX5_shift 2 = .ok (.iload_n 3, 1) := dc_29 (gB_l lq_cX5_shift (p := 2) (o := 29) rfl)
theorem dX5_shift_3 : decode cX5_shift 3 = .ok (.iload_n 2, 1) := dc_28 (gB_l lq_cX5_shift (p := 3) (o := 28) rfl)
theorem dX5_shift_4 : decode cX5_shift 4 = .ok (.if_icmp .ge 17, 3) := dc_162 (gB_l lq_cX5_shift (p := 4) (o := 162) rfl) (gB_l lq_cX5_shift (p := 5) (o := 0) rfl) (gB_l lq_cX5_shift (p := 6) (o := 17) rfl) rfl
theorem dX5_shift_7 : decode cX5_shift 7 = .ok (.aload_n 0, 1) := dc_42 (gB_l lq_cX5_shift (p := 7) (o := 42) rfl)
theorem dX5_shift_8 : decode cX5_shift 8 = .ok (.iload_n 3, 1) := dc_29 (gB_l lq_cX5_shift (p := 8) (o := 29) rfl)
theorem dX5_shift_9 : decode cX5_shift 9 = .ok (.iload_n 3, 1) := dc_29 (gB_l lq_cX5_shift (p := 9) (o := 29) rfl)
theorem dX5_shift_10 : decode cX5_shift 10 = .ok (.iconst 1, 1) := dc_4 (gB_l lq_cX5_shift (p := 10) (o := 4) rfl)
theorem dX5_shift_11 : decode cX5_shift 11 = .ok (.iadd, 1) := dc_96 (gB_l lq_cX5_shift (p := 11) (o := 96) rfl)
theorem dX5_shift_12 : decode cX5_shift 12 = .ok (.invokevirtual 62, 3) := dc_182 (gB_l lq_cX5_shift (p := 12) (o := 182) rfl) (gB_l lq_cX5_shift (p := 13) (o := 0) rfl) (gB_l lq_cX5_shift (p := 14) (o := 62) rfl) rfl
theorem dX5_shift_15 : decode cX5_shift 15 = .ok (.iinc 3 1, 3) := dc_132 (gB_l lq_cX5_shift (p := 15) (o := 132) rfl) (gB_l lq_cX5_shift (p := 16) (o := 3) rfl) (gB_l lq_cX5_shift (p := 17) (o := 1) rfl) rfl
theorem dX5_shift_18 : decode cX5_shift 18 = .ok (.goto (-16), 3) := dc_167 (gB_l lq_cX5_shift (p := 18) (o := 167) rfl) (gB_l lq_cX5_shift (p := 19) (o := 255) rfl) (gB_l lq_cX5_shift (p := 20) (o := 240) rfl) rfl
theorem dX5_shift_21 : decode cX5_shift 21 = .ok (.iload_n 1, 1) := dc_27 (gB_l lq_cX5_shift (p := 21) (o := 27) rfl)
theorem dX5_shift_22 : decode cX5_shift 22 = .ok (.istore_n 3, 1) := dc_62 (gB_l lq_cX5_shift (p := 22) (o := 62) rfl)
theorem dX5_shift_23 : decode cX5_shift 23 = .ok (.iload_n 3, 1) := dc_29 (gB_l lq_cX5_shift (p := 23) (o := 29) rfl)
theorem dX5_shift_24 : decode cX5_shift 24 = .ok (.iload_n 2, 1) := dc_28 (gB_l lq_cX5_shift (p := 24) (o := 28) rfl)
theorem dX5_shift_25 : decode cX5_shift 25 = .ok (.if_icmp .le 17, 3) := dc_164 (gB_l lq_cX5_shift (p := 25) (o := 164) rfl) (gB_l lq_cX5_shift (p := 26) (o := 0) rfl) (gB_l lq_cX5_shift (p := 27) (o := 17) rfl) rfl
theorem dX5_shift_28 : decode cX5_shift 28 = .ok (.aload_n 0, 1) := dc_42 (gB_l lq_cX5_shift (p := 28) (o := 42) rfl)
theorem dX5_shift_29 : decode cX5_shift 29 = .ok (.iload_n 3, 1) := dc_29 (gB_l lq_cX5_shift (p := 29) (o := 29) rfl)
theorem dX5_shift_30 : decode cX5_shift 30 = .ok (.iload_n 3, 1) := dc_29 (gB_l lq_cX5_shift (p := 30) (o := 29) rfl)
theorem dX5_shift_31 : decode cX5_shift 31 = .ok (.iconst 1, 1) := dc_4 (gB_l lq_cX5_shift (p := 31) (o := 4) rfl)
theorem dX5_shift_32 : decode cX5_shift 32 = .ok (.isub, 1) := dc_100 (gB_c lq_cX5_shift q1_cX5_shift 0 (o := 100) rfl)
theorem dX5_shift_33 : decode cX5_shift 33 = .ok (.invokevirtual 62, 3) := dc_182 (gB_c lq_cX5_shift q1_cX5_shift 1 (o := 182) rfl) (gB_c lq_cX5_shift q1_cX5_shift 2 (o := 0) rfl) (gB_c lq_cX5_shift q1_cX5_shift 3 (o := 62) rfl) rfl
theorem dX5_shift_36 : decode cX5_shift 36 = .ok (.iinc 3 (-1), 3) := dc_132 (gB_c lq_cX5_shift q1_cX5_shift 4 (o := 132) rfl) (gB_c lq_cX5_shift q1_cX5_shift 5 (o := 3) rfl) (gB_c lq_cX5_shift q1_cX5_shift 6 (o := 255) rfl) rfl
theorem dX5_shift_39 : decode cX5_shift 39 = .ok (.goto (-16), 3) := dc_167 (gB_c lq_cX5_shift q1_cX5_shift 7 (o := 167) rfl) (gB_c lq_cX5_shift q1_cX5_shift 8 (o := 255) rfl) (gB_c lq_cX5_shift q1_cX5_shift 9 (o := 240) rfl) rfl
theorem dX5_shift_42 : decode cX5_shift 42 = .ok (.return_, 1) := dc_177 (gB_c lq_cX5_shift q1_cX5_shift 10 (o := 177) rfl)
abbrev r1_cX5_takeFromRow : List Nat := [4, 27, 162, 0, 8, 21, 4, 167, 0, 7, 21, 4, 4, 100, 79, 132, 2, 1, 132, 3, 1, 167, 255, 207, 177]
def a0_cX5_takeFromRow : List Nat := [3, 61, 3, 62, 29, 42, 180, 0, 21, 162, 0, 47, 42, 180, 0, 15, 29, 46, 54, 4, 21, 4, 27, 159, 0, 27, 42, 180, 0, 15, 28, 21]
abbrev r0_cX5_takeFromRow : List Nat := a0_cX5_takeFromRow ++ r1_cX5_takeFromRow
theorem lq_cX5_takeFromRow : (cX5_takeFromRow).data.toList.map UInt8.toNat = r0_cX5_takeFromRow := by decide +kernel
theorem q1_cX5_takeFromRow : ∀ i, (r0_cX5_takeFromRow)[32 + i]? = (r1_cX5_takeFromRow)[i]? := chn (A := a0_cX5_takeFromRow) (B := r1_cX5_takeFromRow) (n := 0) (k := 32) rfl (ch0 (R := r0_cX5_takeFromRow))
theorem dX5_takeFromRow_0 : decode cX5_takeFromRow 0 = .ok (.iconst 0, 1) := dc_3 (gB_l lq_cX5_takeFromRow (p := 0) (o := 3) rfl)
theorem dX5_takeFromRow_1 : decode cX5_takeFromRow 1 = .ok (.istore_n 2, 1) := dc_61 (gB_l lq_cX5_takeFromRow (p := 1) (o := 61) rfl)
theorem dX5_takeFromRow_2 : decode cX5_takeFromRow 2 = .ok (.iconst 0, 1) := dc_3 (gB_l lq_cX5_takeFromRow (p := 2) (o := 3) rfl)
theorem dX5_takeFromRow_3 : decode cX5_takeFromRow 3 = .ok (.istore_n 3, 1) := dc_62 (gB_l lq_cX5_takeFromRow (p := 3) (o := 62) rfl)
theorem dX5_takeFromRow_4 : decode cX5_takeFromRow 4 = .ok (.iload_n 3, 1) := dc_29 (gB_l lq_cX5_takeFromRow (p := 4) (o := 29) rfl)
theorem dX5_takeFromRow_5 : decode cX5_takeFromRow 5 = .ok (.aload_n 0, 1) := dc_42 (gB_l lq_cX5_takeFromRow (p := 5) (o := 42) rfl)
theorem dX5_takeFromRow_6 : decode cX5_takeFromRow 6 = .ok (.getfield 21, 3) := dc_180 (gB_l lq_cX5_takeFromRow (p := 6) (o := 180) rfl) (gB_l lq_cX5_takeFromRow (p := 7) (o := 0) rfl) (gB_l lq_cX5_takeFromRow (p := 8) (o := 21) rfl) rfl
theorem dX5_takeFromRow_9 : decode cX5_takeFromRow 9 = .ok (.if_icmp .ge 47, 3) := dc_162 (gB_l lq_cX5_takeFromRow (p := 9) (o := 162) rfl) (gB_l lq_cX5_takeFromRow (p := 10) (o := 0) rfl) (gB_l lq_cX5_takeFromRow (p := 11) (o := 47) rfl) rfl
theorem dX5_takeFromRow_12 : decode cX5_takeFromRow 12 = .ok (.aload_n 0, 1) := dc_42 (gB_l lq_cX5_takeFromRow (p := 12) (o := 42) rfl)
theorem dX5_takeFromRow_13 : decode cX5_takeFromRow 13 = .ok (.getfield 15, 3) := dc_180 (gB_l lq_cX5_takeFromRow (p := 13) (o := 180) rfl) (gB_l lq_cX5_takeFromRow (p := 14) (o := 0) rfl) (gB_l lq_cX5_takeFromRow (p := 15) (o := 15) rfl) rfl
theorem dX5_takeFromRow_16 : decode cX5_takeFromRow 16 = .ok (.iload_n 3, 1) := dc_29 (gB_l lq_cX5_takeFromRow (p := 16) (o := 29) rfl)
theorem dX5_takeFromRow_17 : decode cX5_takeFromRow 17 = .ok (.iaload, 1) := dc_46 (gB_l lq_cX5_takeFromRow (p := 17) (o := 46) rfl)
theorem dX5_takeFromRow_18 : decode cX5_takeFromRow 18 = .ok (.istore 4, 2) := dc_54 (gB_l lq_cX5_takeFromRow (p := 18) (o := 54) rfl) (gB_l lq_cX5_takeFromRow (p := 19) (o := 4) rfl)
theorem dX5_takeFromRow_20 : decode cX5_takeFromRow 20 = .ok (.iload 4, 2) := dc_21 (gB_l lq_cX5_takeFromRow (p := 20) (o := 21) rfl) (gB_l lq_cX5_takeFromRow (p := 21) (o := 4) rfl)
theorem dX5_takeFromRow_22 : decode cX5_takeFromRow 22 = .ok (.iload_n 1, 1) := dc_27 (gB_l lq_cX5_takeFromRow (p := 22) (o := 27) rfl)
theorem dX5_takeFromRow_23 : decode cX5_takeFromRow 23 = .ok (.if_icmp .eq 27, 3) := dc_159 (gB_l lq_cX5_takeFromRow (p := 23) (o := 159) rfl) (gB_l lq_cX5_takeFromRow (p := 24) (o := 0) rfl) (gB_l lq_cX5_takeFromRow (p := 25) (o := 27) rfl) rfl
theorem dX5_takeFromRow_26 : decode cX5_takeFromRow 26 = .ok (.aload_n 0, 1) := dc_42 (gB_l lq_cX5_takeFromRow (p := 26) (o := 42) rfl)
theorem dX5_takeFromRow_27 : decode cX5_takeFromRow 27 = .ok (.getfield 15, 3) := dc_180 (gB_l lq_cX5_takeFromRow (p := 27) (o := 180) rfl) (gB_l lq_cX5_takeFromRow (p := 28) (o := 0) rfl) (gB_l lq_cX5_takeFromRow (p := 29) (o := 15) rfl) rfl
theorem dX5_takeFromRow_30 : decode cX5_takeFromRow 30 = .ok (.iload_n 2, 1) := dc_28 (gB_l lq_cX5_takeFromRow (p := 30) (o := 28) rfl)
theorem dX5_takeFromRow_31 : decode cX5_takeFromRow 31 = .ok (.iload 4, 2) := dc_21 (gB_l lq_cX5_takeFromRow (p := 31) (o := 21) rfl) (gB_c lq_cX5_takeFromRow q1_cX5_takeFromRow 0 (o := 4) rfl)
theorem dX5_takeFromRow_33 : decode cX5_takeFromRow 33 = .ok (.iload_n 1, 1) := dc_27 (gB_c lq_cX5_takeFromRow q1_cX5_takeFromRow 1 (o := 27) rfl)
theorem dX5_takeFromRow_34 : decode cX5_takeFromRow 34 = .ok (.if_icmp .ge 8, 3) := dc_162 (gB_c lq_cX5_takeFromRow q1_cX5_takeFromRow 2 (o := 162) rfl) (gB_c lq_cX5_takeFromRow q1_cX5_takeFromRow 3 (o := 0) rfl) (gB_c lq_cX5_takeFromRow q1_cX5_takeFromRow 4 (o := 8) rfl) rfl
theorem dX5_takeFromRow_37 : decode cX5_takeFromRow 37 = .ok (.iload 4, 2) := dc_21 (gB_c lq_cX5_takeFromRow q1_cX5_takeFromRow 5 (o := 21) rfl) (gB_c lq_cX5_takeFromRow q1_cX5_takeFromRow 6 (o := 4) rfl)
theorem dX5_takeFromRow_39 : decode cX5_takeFromRow 39 = .ok (.goto 7, 3) := dc_167 (gB_c lq_cX5_takeFromRow q1_cX5_takeFromRow 7 (o := 167) rfl) (gB_c lq_cX5_takeFromRow q1_cX5_takeFromRow 8 (o := 0) rfl) (gB_c lq_cX5_takeFromRow q1_cX5_takeFromRow 9 (o := 7) rfl) rfl
theorem dX5_takeFromRow_42 : decode cX5_takeFromRow 42 = .ok (.iload 4, 2) := dc_21 (gB_c lq_cX5_takeFromRow q1_cX5_takeFromRow 10 (o := 21) rfl) (gB_c lq_cX5_takeFromRow q1_cX5_takeFromRow 11 (o := 4) rfl)
theorem dX5_takeFromRow_44 : decode cX5_takeFromRow 44 = .ok (.iconst 1, 1) := dc_4 (gB_c lq_cX5_takeFromRow q1_cX5_takeFromRow 12 (o := 4) rfl)
theorem dX5_takeFromRow_45 : decode cX5_takeFromRow 45 = .ok (.isub, 1) := dc_100 (gB_c lq_cX5_takeFromRow q1_cX5_takeFromRow 13 (o := 100) rfl)
theorem dX5_takeFromRow_46 : decode cX5_takeFromRow 46 = .ok (.iastore, 1) := dc_79 (gB_c lq_cX5_takeFromRow q1_cX5_takeFromRow 14 (o := 79) rfl)
theorem dX5_takeFromRow_47 : decode cX5_takeFromRow 47 = .ok (.iinc 2 1, 3) := dc_132 (gB_c lq_cX5_takeFromRow q1_cX5_takeFromRow 15 (o := 132) rfl) (gB_c lq_cX5_takeFromRow q1_cX5_takeFromRow 16 (o := 2) rfl) (gB_c lq_cX5_takeFromRow q1_cX5_takeFromRow 17 (o := 1) rfl) rfl
theorem dX5_takeFromRow_50 : decode cX5_takeFromRow 50 = .ok (.iinc 3 1, 3) := dc_132 (gB_c lq_cX5_takeFromRow q1_cX5_takeFromRow 18 (o := 132) rfl) (gB_c lq_cX5_takeFromRow q1_cX5_takeFromRow 19 (o := 3) rfl) (gB_c lq_cX5_takeFromRow q1_cX5_takeFromRow 20 (o := 1) rfl) rfl
theorem dX5_takeFromRow_53 : decode cX5_takeFromRow 53 = .ok (.goto (-49), 3) := dc_167 (gB_c lq_cX5_takeFromRow q1_cX5_takeFromRow 21 (o := 167) rfl) (gB_c lq_cX5_takeFromRow q1_cX5_takeFromRow 22 (o := 255) rfl) (gB_c lq_cX5_takeFromRow q1_cX5_takeFromRow 23 (o := 207) rfl) rfl
theorem dX5_takeFromRow_56 : decode cX5_takeFromRow 56 = .ok (.return_, 1) := dc_177 (gB_c lq_cX5_takeFromRow q1_cX5_takeFromRow 24 (o := 177) rfl)
abbrev r3_cX5_takeOut : List Nat := [27, 182, 0, 82, 42, 28, 181, 0, 21, 177]
def a2_cX5_takeOut : List Nat := [4, 1, 167, 255, 209, 132, 3, 1, 167, 255, 193, 3, 62, 29, 28, 162, 0, 16, 42, 29, 28, 3, 182, 0, 74, 132, 3, 1, 167, 255, 241, 42]
abbrev r2_cX5_takeOut : List Nat := a2_cX5_takeOut ++ r3_cX5_takeOut
def a1_cX5_takeOut : List Nat := [162, 0, 7, 29, 167, 0, 6, 29, 4, 96, 21, 4, 27, 162, 0, 8, 21, 4, 167, 0, 7, 21, 4, 4, 96, 182, 0, 40, 182, 0, 74, 132]
abbrev r1_cX5_takeOut : List Nat := a1_cX5_takeOut ++ r2_cX5_takeOut
def a0_cX5_takeOut : List Nat := [42, 180, 0, 21, 4, 100, 61, 3, 62, 29, 28, 162, 0, 64, 29, 4, 96, 54, 4, 21, 4, 28, 162, 0, 47, 42, 29, 21, 4, 42, 29, 27]
abbrev r0_cX5_takeOut : List Nat := a0_cX5_takeOut ++ r1_cX5_takeOut
theorem lq_cX5_takeOut : (cX5_takeOut).data.toList.map UInt8.toNat = r0_cX5_takeOut := by decide +kernel
theorem q1_cX5_takeOut : ∀ i, (r0_cX5_takeOut)[32 + i]? = (r1_cX5_takeOut)[i]? := chn (A := a0_cX5_takeOut) (B := r1_cX5_takeOut) (n := 0) (k := 32) rfl (ch0 (R := r0_cX5_takeOut))
theorem q2_cX5_takeOut : ∀ i, (r0_cX5_takeOut)[64 + i]? = (r2_cX5_takeOut)[i]? := chn (A := a1_cX5_takeOut) (B := r2_cX5_takeOut) (n := 32) (k := 32) rfl q1_cX5_takeOut
theorem q3_cX5_takeOut : ∀ i, (r0_cX5_takeOut)[96 + i]? = (r3_cX5_takeOut)[i]? := chn (A := a2_cX5_takeOut) (B := r3_cX5_takeOut) (n := 64) (k := 32) rfl q2_cX5_takeOut
theorem dX5_takeOut_0 : decode cX5_takeOut 0 = .ok (.aload_n 0, 1) := dc_42 (gB_l lq_cX5_takeOut (p := 0) (o := 42) rfl)
theorem dX5_takeOut_1 : decode cX5_takeOut 1 = .ok (.getfield 21, 3) := dc_180 (gB_l lq_cX5_takeOut (p := 1) (o := 180) rfl) (gB_l lq_cX5_takeOut (p := 2) (o := 0) rfl) (gB_l lq_cX5_takeOut (p := 3) (o := 21) rfl) rfl
theorem dX5_takeOut_4 : decode cX5_takeOut 4 = .ok (.iconst 1, 1) := dc_4 (gB_l lq_cX5_takeOut (p := 4) (o := 4) rfl)
theorem dX5_takeOut_5 : decode cX5_takeOut 5 = .ok (.isub, 1) := dc_100 (gB_l lq_cX5_takeOut (p := 5) (o := 100) rfl)
theorem dX5_takeOut_6 : decode cX5_takeOut 6 = .ok (.istore_n 2, 1) := dc_61 (gB_l lq_cX5_takeOut (p := 6) (o := 61) rfl)
theorem dX5_takeOut_7 : decode cX5_takeOut 7 = .ok (.iconst 0, 1) := dc_3 (gB_l lq_cX5_takeOut (p := 7) (o := 3) rfl)
theorem dX5_takeOut_8 : decode cX5_takeOut 8 = .ok (.istore_n 3, 1) := dc_62 (gB_l lq_cX5_takeOut (p := 8) (o := 62) rfl)
theorem dX5_takeOut_9 : decode cX5_takeOut 9 = .ok (.iload_n 3, 1) := dc_29 (gB_l lq_cX5_takeOut (p := 9) (o := 29) rfl)
theorem dX5_takeOut_10 : decode cX5_takeOut 10 = .ok (.iload_n 2, 1) := dc_28 (gB_l lq_cX5_takeOut (p := 10) (o := 28) rfl)
theorem dX5_takeOut_11 : decode cX5_takeOut 11 = .ok (.if_icmp .ge 64, 3) := dc_162 (gB_l lq_cX5_takeOut (p := 11) (o := 162) rfl) (gB_l lq_cX5_takeOut (p := 12) (o := 0) rfl) (gB_l lq_cX5_takeOut (p := 13) (o := 64) rfl) rfl
theorem dX5_takeOut_14 : decode cX5_takeOut 14 = .ok (.iload_n 3, 1) := dc_29 (gB_l lq_cX5_takeOut (p := 14) (o := 29) rfl)
theorem dX5_takeOut_15 : decode cX5_takeOut 15 = .ok (.iconst 1, 1) := dc_4 (gB_l lq_cX5_takeOut (p := 15) (o := 4) rfl)
theorem dX5_takeOut_16 : decode cX5_takeOut 16 = .ok (.iadd, 1) := dc_96 (gB_l lq_cX5_takeOut (p := 16) (o := 96) rfl)
theorem dX5_takeOut_17 : decode cX5_takeOut 17 = .ok (.istore 4, 2) := dc_54 (gB_l lq_cX5_takeOut (p := 17) (o := 54) rfl) (gB_l lq_cX5_takeOut (p := 18) (o := 4) rfl)
theorem dX5_takeOut_19 : decode cX5_takeOut 19 = .ok (.iload 4, 2) := dc_21 (gB_l lq_cX5_takeOut (p := 19) (o := 21) rfl) (gB_l lq_cX5_takeOut (p := 20) (o := 4) rfl)
theorem dX5_takeOut_21 : decode cX5_takeOut 21 = .ok (.iload_n 2, 1) := dc_28 (gB_l lq_cX5_takeOut (p := 21) (o := 28) rfl)
theorem dX5_takeOut_22 : decode cX5_takeOut 22 = .ok (.if_icmp .ge 47, 3) := dc_162 (gB_l lq_cX5_takeOut (p := 22) (o := 162) rfl) (gB_l lq_cX5_takeOut (p := 23) (o := 0) rfl) (gB_l lq_cX5_takeOut (p := 24) (o := 47) rfl) rfl
theorem dX5_takeOut_25 : decode cX5_takeOut 25 = .ok (.aload_n 0, 1) := dc_42 (gB_l lq_cX5_takeOut (p := 25) (o := 42) rfl)
theorem dX5_takeOut_26 : decode cX5_takeOut 26 = .ok (.iload_n 3, 1) := dc_29 (gB_l lq_cX5_takeOut (p := 26) (o := 29) rfl)
theorem dX5_takeOut_27 : decode cX5_takeOut 27 = .ok (.iload 4, 2) := dc_21 (gB_l lq_cX5_takeOut (p := 27) (o := 21) rfl) (gB_l lq_cX5_takeOut (p := 28) (o := 4) rfl)
theorem dX5_takeOut_29 : decode cX5_takeOut 29 = .ok (.aload_n 0, 1) := dc_42 (gB_l lq_cX5_takeOut (p := 29) (o := 42) rfl)
theorem dX5_takeOut_30 : decode cX5_takeOut 30 = .ok (.iload_n 3, 1) := dc_29 (gB_l lq_cX5_takeOut (p := 30) (o := 29) rfl)
theorem dX5_takeOut_31 : decode cX5_takeOut 31 = .ok (.iload_n 1, 1) := dc_27 (gB_l lq_cX5_takeOut (p := 31) (o := 27) rfl)
theorem dX5_takeOut_32 : decode cX5_takeOut 32 = .ok (.if_icmp .ge 7, 3) := dc_162 (gB_c lq_cX5_takeOut q1_cX5_takeOut 0 (o := 162) rfl) (gB_c lq_cX5_takeOut q1_cX5_takeOut 1 (o := 0) rfl) (gB_c lq_cX5_takeOut q1_cX5_takeOut 2 (o := 7) rfl) rfl
theorem dX5_takeOut_35 : decode cX5_takeOut 35 = .ok (.iload_n 3, 1) := dc_29 (gB_c lq_cX5_takeOut q1_cX5_takeOut 3 (o := 29) rfl)
theorem dX5_takeOut_36 : decode cX5_takeOut 36 = .ok (.goto 6, 3) := dc_167 (gB_c lq_cX5_takeOut q1_cX5_takeOut 4 (o := 167) rfl) (gB_c lq_cX5_takeOut q1_cX5_takeOut 5 (o := 0) rfl) (gB_c lq_cX5_takeOut q1_cX5_takeOut 6 (o := 6) rfl) rfl
theorem dX5_takeOut_39 : decode cX5_takeOut 39 = .ok (.iload_n 3, 1) := dc_29 (gB_c lq_cX5_takeOut q1_cX5_takeOut 7 (o := 29) rfl)
theorem dX5_takeOut_40 : decode cX5_takeOut 40 = .ok (.iconst 1, 1) := dc_4 (gB_c lq_cX5_takeOut q1_cX5_takeOut 8 (o := 4) rfl)
theorem dX5_takeOut_41 : decode cX5_takeOut 41 = .ok (.iadd, 1) := dc_96 (gB_c lq_cX5_takeOut q1_cX5_takeOut 9 (o := 96) rfl)
theorem dX5_takeOut_42 : decode cX5_takeOut 42 = .ok (.iload 4, 2) := dc_21 (gB_c lq_cX5_takeOut q1_cX5_takeOut 10 (o := 21) rfl) (gB_c lq_cX5_takeOut q1_cX5_takeOut 11 (o := 4) rfl)
theorem dX5_takeOut_44 : decode cX5_takeOut 44 = .ok (.iload_n 1, 1) := dc_27 (gB_c lq_cX5_takeOut q1_cX5_takeOut 12 (o := 27) rfl)
theorem dX5_takeOut_45 : decode cX5_takeOut 45 = .ok (.if_icmp .ge 8, 3) := dc_162 (gB_c lq_cX5_takeOut q1_cX5_takeOut 13 (o := 162) rfl) (gB_c lq_cX5_takeOut q1_cX5_takeOut 14 (o := 0) rfl) (gB_c lq_cX5_takeOut q1_cX5_takeOut 15 (o := 8) rfl) rfl
theorem dX5_takeOut_48 : decode cX5_takeOut 48 = .ok (.iload 4, 2) := dc_21 (gB_c lq_cX5_takeOut q1_cX5_takeOut 16 (o := 21) rfl) (gB_c lq_cX5_takeOut q1_cX5_takeOut 17 (o := 4) rfl)
theorem dX5_takeOut_50 : decode cX5_takeOut 50 = .ok (.goto 7, 3) := dc_167 (gB_c lq_cX5_takeOut q1_cX5_takeOut 18 (o := 167) rfl) (gB_c lq_cX5_takeOut q1_cX5_takeOut 19 (o := 0) rfl) (gB_c lq_cX5_takeOut q1_cX5_takeOut 20 (o := 7) rfl) rfl
theorem dX5_takeOut_53 : decode cX5_takeOut 53 = .ok (.iload 4, 2) := dc_21 (gB_c lq_cX5_takeOut q1_cX5_takeOut 21 (o := 21) rfl) (gB_c lq_cX5_takeOut q1_cX5_takeOut 22 (o := 4) rfl)
theorem dX5_takeOut_55 : decode cX5_takeOut 55 = .ok (.iconst 1, 1) := dc_4 (gB_c lq_cX5_takeOut q1_cX5_takeOut 23 (o := 4) rfl)
theorem dX5_takeOut_56 : decode cX5_takeOut 56 = .ok (.iadd, 1) := dc_96 (gB_c lq_cX5_takeOut q1_cX5_takeOut 24 (o := 96) rfl)
theorem dX5_takeOut_57 : decode cX5_takeOut 57 = .ok (.invokevirtual 40, 3) := dc_182 (gB_c lq_cX5_takeOut q1_cX5_takeOut 25 (o := 182) rfl) (gB_c lq_cX5_takeOut q1_cX5_takeOut 26 (o := 0) rfl) (gB_c lq_cX5_takeOut q1_cX5_takeOut 27 (o := 40) rfl) rfl
theorem dX5_takeOut_60 : decode cX5_takeOut 60 = .ok (.invokevirtual 74, 3) := dc_182 (gB_c lq_cX5_takeOut q1_cX5_takeOut 28 (o := 182) rfl) (gB_c lq_cX5_takeOut q1_cX5_takeOut 29 (o := 0) rfl) (gB_c lq_cX5_takeOut q1_cX5_takeOut 30 (o := 74) rfl) rfl
theorem dX5_takeOut_63 : decode cX5_takeOut 63 = .ok (.iinc 4 1, 3) := dc_132 (gB_c lq_cX5_takeOut q1_cX5_takeOut 31 (o := 132) rfl) (gB_c lq_cX5_takeOut q2_cX5_takeOut 0 (o := 4) rfl) (gB_c lq_cX5_takeOut q2_cX5_takeOut 1 (o := 1) rfl) rfl
theorem dX5_takeOut_66 : decode cX5_takeOut 66 = .ok (.goto (-47), 3) := dc_167 (gB_c lq_cX5_takeOut q2_cX5_takeOut 2 (o := 167) rfl) (gB_c lq_cX5_takeOut q2_cX5_takeOut 3 (o := 255) rfl) (gB_c lq_cX5_takeOut q2_cX5_takeOut 4 (o := 209) rfl) rfl
theorem dX5_takeOut_69 : decode cX5_takeOut 69 = .ok (.iinc 3 1, 3) := dc_132 (gB_c lq_cX5_takeOut q2_cX5_takeOut 5 (o := 132) rfl) (gB_c lq_cX5_takeOut q2_cX5_takeOut 6 (o := 3) rfl) (gB_c lq_cX5_takeOut q2_cX5_takeOut 7 (o := 1) rfl) rfl
theorem dX5_takeOut_72 : decode cX5_takeOut 72 = .ok (.goto (-63), 3) := dc_167 (gB_c lq_cX5_takeOut q2_cX5_takeOut 8 (o := 167) rfl) (gB_c lq_cX5_takeOut q2_cX5_takeOut 9 (o := 255) rfl) (gB_c lq_cX5_takeOut q2_cX5_takeOut 10 (o := 193) rfl) rfl
theorem dX5_takeOut_75 : decode cX5_takeOut 75 = .ok (.iconst 0, 1) := dc_3 (gB_c lq_cX5_takeOut q2_cX5_takeOut 11 (o := 3) rfl)
theorem dX5_takeOut_76 : decode cX5_takeOut 76 = .ok (.istore_n 3, 1) := dc_62 (gB_c lq_cX5_takeOut q2_cX5_takeOut 12 (o := 62) rfl)
theorem dX5_takeOut_77 : decode cX5_takeOut 77 = .ok (.iload_n 3, 1) := dc_29 (gB_c lq_cX5_takeOut q2_cX5_takeOut 13 (o := 29) rfl)
theorem dX5_takeOut_78 : decode cX5_takeOut 78 = .ok (.iload_n 2, 1) := dc_28 (gB_c lq_cX5_takeOut q2_cX5_takeOut 14 (o := 28) rfl)
theorem dX5_takeOut_79 : decode cX5_takeOut 79 = .ok (.if_icmp .ge 16, 3) := dc_162 (gB_c lq_cX5_takeOut q2_cX5_takeOut 15 (o := 162) rfl) (gB_c lq_cX5_takeOut q2_cX5_takeOut 16 (o := 0) rfl) (gB_c lq_cX5_takeOut q2_cX5_takeOut 17 (o := 16) rfl) rfl
theorem dX5_takeOut_82 : decode cX5_takeOut 82 = .ok (.aload_n 0, 1) := dc_42 (gB_c lq_cX5_takeOut q2_cX5_takeOut 18 (o := 42) rfl)
theorem dX5_takeOut_83 : decode cX5_takeOut 83 = .ok (.iload_n 3, 1) := dc_29 (gB_c lq_cX5_takeOut q2_cX5_takeOut 19 (o := 29) rfl)
theorem dX5_takeOut_84 : decode cX5_takeOut 84 = .ok (.iload_n 2, 1) := dc_28 (gB_c lq_cX5_takeOut q2_cX5_takeOut 20 (o := 28) rfl)
theorem dX5_takeOut_85 : decode cX5_takeOut 85 = .ok (.iconst 0, 1) := dc_3 (gB_c lq_cX5_takeOut q2_cX5_takeOut 21 (o := 3) rfl)
theorem dX5_takeOut_86 : decode cX5_takeOut 86 = .ok (.invokevirtual 74, 3) := dc_182 (gB_c lq_cX5_takeOut q2_cX5_takeOut 22 (o := 182) rfl) (gB_c lq_cX5_takeOut q2_cX5_takeOut 23 (o := 0) rfl) (gB_c lq_cX5_takeOut q2_cX5_takeOut 24 (o := 74) rfl) rfl
theorem dX5_takeOut_89 : decode cX5_takeOut 89 = .ok (.iinc 3 1, 3) := dc_132 (gB_c lq_cX5_takeOut q2_cX5_takeOut 25 (o := 132) rfl) (gB_c lq_cX5_takeOut q2_cX5_takeOut 26 (o := 3) rfl) (gB_c lq_cX5_takeOut q2_cX5_takeOut 27 (o := 1) rfl) rfl
theorem dX5_takeOut_92 : decode cX5_takeOut 92 = .ok (.goto (-15), 3) := dc_167 (gB_c lq_cX5_takeOut q2_cX5_takeOut 28 (o := 167) rfl) (gB_c lq_cX5_takeOut q2_cX5_takeOut 29 (o := 255) rfl) (gB_c lq_cX5_takeOut q2_cX5_takeOut 30 (o := 241) rfl) rfl
theorem dX5_takeOut_95 : decode cX5_takeOut 95 = .ok (.aload_n 0, 1) := dc_42 (gB_c lq_cX5_takeOut q2_cX5_takeOut 31 (o := 42) rfl)
theorem dX5_takeOut_96 : decode cX5_takeOut 96 = .ok (.iload_n 1, 1) := dc_27 (gB_c lq_cX5_takeOut q3_cX5_takeOut 0 (o := 27) rfl)
theorem dX5_takeOut_97 : decode cX5_takeOut 97 = .ok (.invokevirtual 82, 3) := dc_182 (gB_c lq_cX5_takeOut q3_cX5_takeOut 1 (o := 182) rfl) (gB_c lq_cX5_takeOut q3_cX5_takeOut 2 (o := 0) rfl) (gB_c lq_cX5_takeOut q3_cX5_takeOut 3 (o := 82) rfl) rfl
theorem dX5_takeOut_100 : decode cX5_takeOut 100 = .ok (.aload_n 0, 1) := dc_42 (gB_c lq_cX5_takeOut q3_cX5_takeOut 4 (o := 42) rfl)
theorem dX5_takeOut_101 : decode cX5_takeOut 101 = .ok (.iload_n 2, 1) := dc_28 (gB_c lq_cX5_takeOut q3_cX5_takeOut 5 (o := 28) rfl)
theorem dX5_takeOut_102 : decode cX5_takeOut 102 = .ok (.putfield 21, 3) := dc_181 (gB_c lq_cX5_takeOut q3_cX5_takeOut 6 (o := 181) rfl) (gB_c lq_cX5_takeOut q3_cX5_takeOut 7 (o := 0) rfl) (gB_c lq_cX5_takeOut q3_cX5_takeOut 8 (o := 21) rfl) rfl
theorem dX5_takeOut_105 : decode cX5_takeOut 105 = .ok (.return_, 1) := dc_177 (gB_c lq_cX5_takeOut q3_cX5_takeOut 9 (o := 177) rfl)
abbrev r1_cX5_turnRound : List Nat := [228, 177]
def a0_cX5_turnRound : List Nat := [3, 60, 27, 42, 180, 0, 21, 4, 100, 27, 100, 162, 0, 22, 42, 27, 42, 180, 0, 21, 4, 100, 27, 100, 182, 0, 62, 132, 1, 1, 167, 255]
abbrev r0_cX5_turnRound : List Nat := a0_cX5_turnRound ++ r1_cX5_turnRound
theorem lq_cX5_turnRound : (cX5_turnRound).data.toList.map UInt8.toNat = r0_cX5_turnRound := by decide +kernel
theorem q1_cX5_turnRound : ∀ i, (r0_cX5_turnRound)[32 + i]? = (r1_cX5_turnRound)[i]? := chn (A := a0_cX5_turnRound) (B := r1_cX5_turnRound) (n := 0) (k := 32) rfl (ch0 (R := r0_cX5_turnRound))
theorem dX5_turnRound_0 : decode cX5_turnRound 0 = .ok (.iconst 0, 1) := dc_3 (gB_l lq_cX5_turnRound (p := 0) (o := 3) rfl)
theorem dX5_turnRound_1 : decode cX5_turnRound 1 = .ok (.istore_n 1, 1) := dc_60 (gB_l lq_cX5_turnRound (p := 1) (o := 60) rfl)
theorem dX5_turnRound_2 : decode cX5_turnRound 2 = .ok (.iload_n 1, 1) := dc_27 (gB_l lq_cX5_turnRound (p := 2) (o := 27) rfl)
theorem dX5_turnRound_3 : decode cX5_turnRound 3 = .ok (.aload_n 0, 1) := dc_42 (gB_l lq_cX5_turnRound (p := 3) (o := 42) rfl)
theorem dX5_turnRound_4 : decode cX5_turnRound 4 = .ok (.getfield 21, 3) := dc_180 (gB_l lq_cX5_turnRound (p := 4) (o := 180) rfl) (gB_l lq_cX5_turnRound (p := 5) (o := 0) rfl) (gB_l lq_cX5_turnRound (p := 6) (o := 21) rfl) rfl
theorem dX5_turnRound_7 : decode cX5_turnRound 7 = .ok (.iconst 1, 1) := dc_4 (gB_l lq_cX5_turnRound (p := 7) (o := 4) rfl)
theorem dX5_turnRound_8 : decode cX5_turnRound 8 = .ok (.isub, 1) := dc_100 (gB_l lq_cX5_turnRound (p := 8) (o := 100) rfl)
theorem dX5_turnRound_9 : decode cX5_turnRound 9 = .ok (.iload_n 1, 1) := dc_27 (gB_l lq_cX5_turnRound (p := 9) (o := 27) rfl)
theorem dX5_turnRound_10 : decode cX5_turnRound 10 = .ok (.isub, 1) := dc_100 (gB_l lq_cX5_turnRound (p := 10) (o := 100) rfl)
theorem dX5_turnRound_11 : decode cX5_turnRound 11 = .ok (.if_icmp .ge 22, 3) := dc_162 (gB_l lq_cX5_turnRound (p := 11) (o := 162) rfl) (gB_l lq_cX5_turnRound (p := 12) (o := 0) rfl) (gB_l lq_cX5_turnRound (p := 13) (o := 22) rfl) rfl
theorem dX5_turnRound_14 : decode cX5_turnRound 14 = .ok (.aload_n 0, 1) := dc_42 (gB_l lq_cX5_turnRound (p := 14) (o := 42) rfl)
theorem dX5_turnRound_15 : decode cX5_turnRound 15 = .ok (.iload_n 1, 1) := dc_27 (gB_l lq_cX5_turnRound (p := 15) (o := 27) rfl)
theorem dX5_turnRound_16 : decode cX5_turnRound 16 = .ok (.aload_n 0, 1) := dc_42 (gB_l lq_cX5_turnRound (p := 16) (o := 42) rfl)
theorem dX5_turnRound_17 : decode cX5_turnRound 17 = .ok (.getfield 21, 3) := dc_180 (gB_l lq_cX5_turnRound (p := 17) (o := 180) rfl) (gB_l lq_cX5_turnRound (p := 18) (o := 0) rfl) (gB_l lq_cX5_turnRound (p := 19) (o := 21) rfl) rfl
theorem dX5_turnRound_20 : decode cX5_turnRound 20 = .ok (.iconst 1, 1) := dc_4 (gB_l lq_cX5_turnRound (p := 20) (o := 4) rfl)
theorem dX5_turnRound_21 : decode cX5_turnRound 21 = .ok (.isub, 1) := dc_100 (gB_l lq_cX5_turnRound (p := 21) (o := 100) rfl)
theorem dX5_turnRound_22 : decode cX5_turnRound 22 = .ok (.iload_n 1, 1) := dc_27 (gB_l lq_cX5_turnRound (p := 22) (o := 27) rfl)
theorem dX5_turnRound_23 : decode cX5_turnRound 23 = .ok (.isub, 1) := dc_100 (gB_l lq_cX5_turnRound (p := 23) (o := 100) rfl)
theorem dX5_turnRound_24 : decode cX5_turnRound 24 = .ok (.invokevirtual 62, 3) := dc_182 (gB_l lq_cX5_turnRound (p := 24) (o := 182) rfl) (gB_l lq_cX5_turnRound (p := 25) (o := 0) rfl) (gB_l lq_cX5_turnRound (p := 26) (o := 62) rfl) rfl
theorem dX5_turnRound_27 : decode cX5_turnRound 27 = .ok (.iinc 1 1, 3) := dc_132 (gB_l lq_cX5_turnRound (p := 27) (o := 132) rfl) (gB_l lq_cX5_turnRound (p := 28) (o := 1) rfl) (gB_l lq_cX5_turnRound (p := 29) (o := 1) rfl) rfl
theorem dX5_turnRound_30 : decode cX5_turnRound 30 = .ok (.goto (-28), 3) := dc_167 (gB_l lq_cX5_turnRound (p := 30) (o := 167) rfl) (gB_l lq_cX5_turnRound (p := 31) (o := 255) rfl) (gB_c lq_cX5_turnRound q1_cX5_turnRound 0 (o := 228) rfl) rfl
theorem dX5_turnRound_33 : decode cX5_turnRound 33 = .ok (.return_, 1) := dc_177 (gB_c lq_cX5_turnRound q1_cX5_turnRound 1 (o := 177) rfl)
abbrev r0_cX5_weightOf : List Nat := [42, 180, 0, 18, 27, 16, 9, 104, 28, 96, 46, 172]
theorem lq_cX5_weightOf : (cX5_weightOf).data.toList.map UInt8.toNat = r0_cX5_weightOf := by decide +kernel
theorem dX5_weightOf_0 : decode cX5_weightOf 0 = .ok (.aload_n 0, 1) := dc_42 (gB_l lq_cX5_weightOf (p := 0) (o := 42) rfl)
theorem dX5_weightOf_1 : decode cX5_weightOf 1 = .ok (.getfield 18, 3) := dc_180 (gB_l lq_cX5_weightOf (p := 1) (o := 180) rfl) (gB_l lq_cX5_weightOf (p := 2) (o := 0) rfl) (gB_l lq_cX5_weightOf (p := 3) (o := 18) rfl) rfl
theorem dX5_weightOf_4 : decode cX5_weightOf 4 = .ok (.iload_n 1, 1) := dc_27 (gB_l lq_cX5_weightOf (p := 4) (o := 27) rfl)
theorem dX5_weightOf_5 : decode cX5_weightOf 5 = .ok (.bipush 9, 2) := dc_16 (gB_l lq_cX5_weightOf (p := 5) (o := 16) rfl) (gB_l lq_cX5_weightOf (p := 6) (o := 9) rfl) rfl
theorem dX5_weightOf_7 : decode cX5_weightOf 7 = .ok (.imul, 1) := dc_104 (gB_l lq_cX5_weightOf (p := 7) (o := 104) rfl)
theorem dX5_weightOf_8 : decode cX5_weightOf 8 = .ok (.iload_n 2, 1) := dc_28 (gB_l lq_cX5_weightOf (p := 8) (o := 28) rfl)
theorem dX5_weightOf_9 : decode cX5_weightOf 9 = .ok (.iadd, 1) := dc_96 (gB_l lq_cX5_weightOf (p := 9) (o := 96) rfl)
theorem dX5_weightOf_10 : decode cX5_weightOf 10 = .ok (.iaload, 1) := dc_46 (gB_l lq_cX5_weightOf (p := 10) (o := 46) rfl)
theorem dX5_weightOf_11 : decode cX5_weightOf 11 = .ok (.ireturn, 1) := dc_172 (gB_l lq_cX5_weightOf (p := 11) (o := 172) rfl)
abbrev r0_cX6_aboveOf : List Nat := [26, 5, 27, 120, 116, 126, 172]
theorem lq_cX6_aboveOf : (cX6_aboveOf).data.toList.map UInt8.toNat = r0_cX6_aboveOf := by decide +kernel
theorem dX6_aboveOf_0 : decode cX6_aboveOf 0 = .ok (.iload_n 0, 1) := dc_26 (gB_l lq_cX6_aboveOf (p := 0) (o := 26) rfl)
theorem dX6_aboveOf_1 : decode cX6_aboveOf 1 = .ok (.iconst 2, 1) := dc_5 (gB_l lq_cX6_aboveOf (p := 1) (o := 5) rfl)
theorem dX6_aboveOf_2 : decode cX6_aboveOf 2 = .ok (.iload_n 1, 1) := dc_27 (gB_l lq_cX6_aboveOf (p := 2) (o := 27) rfl)
theorem dX6_aboveOf_3 : decode cX6_aboveOf 3 = .ok (.ishl, 1) := dc_120 (gB_l lq_cX6_aboveOf (p := 3) (o := 120) rfl)
theorem dX6_aboveOf_4 : decode cX6_aboveOf 4 = .ok (.ineg, 1) := dc_116 (gB_l lq_cX6_aboveOf (p := 4) (o := 116) rfl)
theorem dX6_aboveOf_5 : decode cX6_aboveOf 5 = .ok (.iand, 1) := dc_126 (gB_l lq_cX6_aboveOf (p := 5) (o := 126) rfl)
theorem dX6_aboveOf_6 : decode cX6_aboveOf 6 = .ok (.ireturn, 1) := dc_172 (gB_l lq_cX6_aboveOf (p := 6) (o := 172) rfl)
abbrev r0_cX6_aheadAtStep : List Nat := [26, 184, 0, 9, 153, 0, 7, 27, 167, 0, 8, 27, 4, 28, 120, 128, 172]
theorem lq_cX6_aheadAtStep : (cX6_aheadAtStep).data.toList.map UInt8.toNat = r0_cX6_aheadAtStep := by decide +kernel
theorem dX6_aheadAtStep_0 : decode cX6_aheadAtStep 0 = .ok (.iload_n 0, 1) := dc_26 (gB_l lq_cX6_aheadAtStep (p := 0) (o := 26) rfl)
theorem dX6_aheadAtStep_1 : decode cX6_aheadAtStep 1 = .ok (.invokestatic 9, 3) := dc_184 (gB_l lq_cX6_aheadAtStep (p := 1) (o := 184) rfl) (gB_l lq_cX6_aheadAtStep (p := 2) (o := 0) rfl) (gB_l lq_cX6_aheadAtStep (p := 3) (o := 9) rfl) rfl
theorem dX6_aheadAtStep_4 : decode cX6_aheadAtStep 4 = .ok (.ifCond .eq 7, 3) := dc_153 (gB_l lq_cX6_aheadAtStep (p := 4) (o := 153) rfl) (gB_l lq_cX6_aheadAtStep (p := 5) (o := 0) rfl) (gB_l lq_cX6_aheadAtStep (p := 6) (o := 7) rfl) rfl
theorem dX6_aheadAtStep_7 : decode cX6_aheadAtStep 7 = .ok (.iload_n 1, 1) := dc_27 (gB_l lq_cX6_aheadAtStep (p := 7) (o := 27) rfl)
theorem dX6_aheadAtStep_8 : decode cX6_aheadAtStep 8 = .ok (.goto 8, 3) := dc_167 (gB_l lq_cX6_aheadAtStep (p := 8) (o := 167) rfl) (gB_l lq_cX6_aheadAtStep (p := 9) (o := 0) rfl) (gB_l lq_cX6_aheadAtStep (p := 10) (o := 8) rfl) rfl
theorem dX6_aheadAtStep_11 : decode cX6_aheadAtStep 11 = .ok (.iload_n 1, 1) := dc_27 (gB_l lq_cX6_aheadAtStep (p := 11) (o := 27) rfl)
theorem dX6_aheadAtStep_12 : decode cX6_aheadAtStep 12 = .ok (.iconst 1, 1) := dc_4 (gB_l lq_cX6_aheadAtStep (p := 12) (o := 4) rfl)
theorem dX6_aheadAtStep_13 : decode cX6_aheadAtStep 13 = .ok (.iload_n 2, 1) := dc_28 (gB_l lq_cX6_aheadAtStep (p := 13) (o := 28) rfl)
theorem dX6_aheadAtStep_14 : decode cX6_aheadAtStep 14 = .ok (.ishl, 1) := dc_120 (gB_l lq_cX6_aheadAtStep (p := 14) (o := 120) rfl)
theorem dX6_aheadAtStep_15 : decode cX6_aheadAtStep 15 = .ok (.ior, 1) := dc_128 (gB_l lq_cX6_aheadAtStep (p := 15) (o := 128) rfl)
theorem dX6_aheadAtStep_16 : decode cX6_aheadAtStep 16 = .ok (.ireturn, 1) := dc_172 (gB_l lq_cX6_aheadAtStep (p := 16) (o := 172) rfl)
abbrev r0_cX6_atPlace : List Nat := [42, 27, 42, 28, 182, 0, 21, 42, 180, 0, 27, 28, 46, 184, 0, 31, 172]
theorem lq_cX6_atPlace : (cX6_atPlace).data.toList.map UInt8.toNat = r0_cX6_atPlace := by decide +kernel
theorem dX6_atPlace_0 : decode cX6_atPlace 0 = .ok (.aload_n 0, 1) := dc_42 (gB_l lq_cX6_atPlace (p := 0) (o := 42) rfl)
theorem dX6_atPlace_1 : decode cX6_atPlace 1 = .ok (.iload_n 1, 1) := dc_27 (gB_l lq_cX6_atPlace (p := 1) (o := 27) rfl)
theorem dX6_atPlace_2 : decode cX6_atPlace 2 = .ok (.aload_n 0, 1) := dc_42 (gB_l lq_cX6_atPlace (p := 2) (o := 42) rfl)
theorem dX6_atPlace_3 : decode cX6_atPlace 3 = .ok (.iload_n 2, 1) := dc_28 (gB_l lq_cX6_atPlace (p := 3) (o := 28) rfl)
theorem dX6_atPlace_4 : decode cX6_atPlace 4 = .ok (.invokevirtual 21, 3) := dc_182 (gB_l lq_cX6_atPlace (p := 4) (o := 182) rfl) (gB_l lq_cX6_atPlace (p := 5) (o := 0) rfl) (gB_l lq_cX6_atPlace (p := 6) (o := 21) rfl) rfl
theorem dX6_atPlace_7 : decode cX6_atPlace 7 = .ok (.aload_n 0, 1) := dc_42 (gB_l lq_cX6_atPlace (p := 7) (o := 42) rfl)
theorem dX6_atPlace_8 : decode cX6_atPlace 8 = .ok (.getfield 27, 3) := dc_180 (gB_l lq_cX6_atPlace (p := 8) (o := 180) rfl) (gB_l lq_cX6_atPlace (p := 9) (o := 0) rfl) (gB_l lq_cX6_atPlace (p := 10) (o := 27) rfl) rfl
theorem dX6_atPlace_11 : decode cX6_atPlace 11 = .ok (.iload_n 2, 1) := dc_28 (gB_l lq_cX6_atPlace (p := 11) (o := 28) rfl)
theorem dX6_atPlace_12 : decode cX6_atPlace 12 = .ok (.iaload, 1) := dc_46 (gB_l lq_cX6_atPlace (p := 12) (o := 46) rfl)
theorem dX6_atPlace_13 : decode cX6_atPlace 13 = .ok (.invokestatic 31, 3) := dc_184 (gB_l lq_cX6_atPlace (p := 13) (o := 184) rfl) (gB_l lq_cX6_atPlace (p := 14) (o := 0) rfl) (gB_l lq_cX6_atPlace (p := 15) (o := 31) rfl) rfl
theorem dX6_atPlace_16 : decode cX6_atPlace 16 = .ok (.ireturn, 1) := dc_172 (gB_l lq_cX6_atPlace (p := 16) (o := 172) rfl)
abbrev r2_cX6_cutWeight : List Nat := [29, 21, 5, 182, 0, 64, 96, 61, 132, 5, 1, 167, 255, 224, 132, 3, 1, 167, 255, 179, 28, 172]
def a1_cX6_cutWeight : List Nat := [21, 4, 154, 0, 6, 167, 0, 41, 3, 54, 5, 21, 5, 42, 180, 0, 57, 162, 0, 29, 21, 4, 21, 5, 122, 4, 126, 153, 0, 13, 28, 42]
abbrev r1_cX6_cutWeight : List Nat := a1_cX6_cutWeight ++ r2_cX6_cutWeight
def a0_cX6_cutWeight : List Nat := [3, 61, 3, 62, 29, 42, 180, 0, 57, 162, 0, 75, 42, 180, 0, 61, 29, 46, 27, 2, 130, 126, 54, 4, 27, 29, 122, 4, 126, 153, 0, 49]
abbrev r0_cX6_cutWeight : List Nat := a0_cX6_cutWeight ++ r1_cX6_cutWeight
theorem lq_cX6_cutWeight : (cX6_cutWeight).data.toList.map UInt8.toNat = r0_cX6_cutWeight := by decide +kernel
theorem q1_cX6_cutWeight : ∀ i, (r0_cX6_cutWeight)[32 + i]? = (r1_cX6_cutWeight)[i]? := chn (A := a0_cX6_cutWeight) (B := r1_cX6_cutWeight) (n := 0) (k := 32) rfl (ch0 (R := r0_cX6_cutWeight))
theorem q2_cX6_cutWeight : ∀ i, (r0_cX6_cutWeight)[64 + i]? = (r2_cX6_cutWeight)[i]? := chn (A := a1_cX6_cutWeight) (B := r2_cX6_cutWeight) (n := 32) (k := 32) rfl q1_cX6_cutWeight
theorem dX6_cutWeight_0 : decode cX6_cutWeight 0 = .ok (.iconst 0, 1) := dc_3 (gB_l lq_cX6_cutWeight (p := 0) (o := 3) rfl)
theorem dX6_cutWeight_1 : decode cX6_cutWeight 1 = .ok (.istore_n 2, 1) := dc_61 (gB_l lq_cX6_cutWeight (p := 1) (o := 61) rfl)
theorem dX6_cutWeight_2 : decode cX6_cutWeight 2 = .ok (.iconst 0, 1) := dc_3 (gB_l lq_cX6_cutWeight (p := 2) (o := 3) rfl)
theorem dX6_cutWeight_3 : decode cX6_cutWeight 3 = .ok (.istore_n 3, 1) := dc_62 (gB_l lq_cX6_cutWeight (p := 3) (o := 62) rfl)
theorem dX6_cutWeight_4 : decode cX6_cutWeight 4 = .ok (.iload_n 3, 1) := dc_29 (gB_l lq_cX6_cutWeight (p := 4) (o := 29) rfl)
theorem dX6_cutWeight_5 : decode cX6_cutWeight 5 = .ok (.aload_n 0, 1) := dc_42 (gB_l lq_cX6_cutWeight (p := 5) (o := 42) rfl)
theorem dX6_cutWeight_6 : decode cX6_cutWeight 6 = .ok (.getfield 57, 3) := dc_180 (gB_l lq_cX6_cutWeight (p := 6) (o := 180) rfl) (gB_l lq_cX6_cutWeight (p := 7) (o := 0) rfl) (gB_l lq_cX6_cutWeight (p := 8) (o := 57) rfl) rfl
theorem dX6_cutWeight_9 : decode cX6_cutWeight 9 = .ok (.if_icmp .ge 75, 3) := dc_162 (gB_l lq_cX6_cutWeight (p := 9) (o := 162) rfl) (gB_l lq_cX6_cutWeight (p := 10) (o := 0) rfl) (gB_l lq_cX6_cutWeight (p := 11) (o := 75) rfl) rfl
theorem dX6_cutWeight_12 : decode cX6_cutWeight 12 = .ok (.aload_n 0, 1) := dc_42 (gB_l lq_cX6_cutWeight (p := 12) (o := 42) rfl)
theorem dX6_cutWeight_13 : decode cX6_cutWeight 13 = .ok (.getfield 61, 3) := dc_180 (gB_l lq_cX6_cutWeight (p := 13) (o := 180) rfl) (gB_l lq_cX6_cutWeight (p := 14) (o := 0) rfl) (gB_l lq_cX6_cutWeight (p := 15) (o := 61) rfl) rfl
theorem dX6_cutWeight_16 : decode cX6_cutWeight 16 = .ok (.iload_n 3, 1) := dc_29 (gB_l lq_cX6_cutWeight (p := 16) (o := 29) rfl)
theorem dX6_cutWeight_17 : decode cX6_cutWeight 17 = .ok (.iaload, 1) := dc_46 (gB_l lq_cX6_cutWeight (p := 17) (o := 46) rfl)
theorem dX6_cutWeight_18 : decode cX6_cutWeight 18 = .ok (.iload_n 1, 1) := dc_27 (gB_l lq_cX6_cutWeight (p := 18) (o := 27) rfl)
theorem dX6_cutWeight_19 : decode cX6_cutWeight 19 = .ok (.iconst (-1), 1) := dc_2 (gB_l lq_cX6_cutWeight (p := 19) (o := 2) rfl)
theorem dX6_cutWeight_20 : decode cX6_cutWeight 20 = .ok (.ixor, 1) := dc_130 (gB_l lq_cX6_cutWeight (p := 20) (o := 130) rfl)
theorem dX6_cutWeight_21 : decode cX6_cutWeight 21 = .ok (.iand, 1) := dc_126 (gB_l lq_cX6_cutWeight (p := 21) (o := 126) rfl)
theorem dX6_cutWeight_22 : decode cX6_cutWeight 22 = .ok (.istore 4, 2) := dc_54 (gB_l lq_cX6_cutWeight (p := 22) (o := 54) rfl) (gB_l lq_cX6_cutWeight (p := 23) (o := 4) rfl)
theorem dX6_cutWeight_24 : decode cX6_cutWeight 24 = .ok (.iload_n 1, 1) := dc_27 (gB_l lq_cX6_cutWeight (p := 24) (o := 27) rfl)
theorem dX6_cutWeight_25 : decode cX6_cutWeight 25 = .ok (.iload_n 3, 1) := dc_29 (gB_l lq_cX6_cutWeight (p := 25) (o := 29) rfl)
theorem dX6_cutWeight_26 : decode cX6_cutWeight 26 = .ok (.ishr, 1) := dc_122 (gB_l lq_cX6_cutWeight (p := 26) (o := 122) rfl)
theorem dX6_cutWeight_27 : decode cX6_cutWeight 27 = .ok (.iconst 1, 1) := dc_4 (gB_l lq_cX6_cutWeight (p := 27) (o := 4) rfl)
theorem dX6_cutWeight_28 : decode cX6_cutWeight 28 = .ok (.iand, 1) := dc_126 (gB_l lq_cX6_cutWeight (p := 28) (o := 126) rfl)
theorem dX6_cutWeight_29 : decode cX6_cutWeight 29 = .ok (.ifCond .eq 49, 3) := dc_153 (gB_l lq_cX6_cutWeight (p := 29) (o := 153) rfl) (gB_l lq_cX6_cutWeight (p := 30) (o := 0) rfl) (gB_l lq_cX6_cutWeight (p := 31) (o := 49) rfl) rfl
theorem dX6_cutWeight_32 : decode cX6_cutWeight 32 = .ok (.iload 4, 2) := dc_21 (gB_c lq_cX6_cutWeight q1_cX6_cutWeight 0 (o := 21) rfl) (gB_c lq_cX6_cutWeight q1_cX6_cutWeight 1 (o := 4) rfl)
theorem dX6_cutWeight_34 : decode cX6_cutWeight 34 = .ok (.ifCond .ne 6, 3) := dc_154 (gB_c lq_cX6_cutWeight q1_cX6_cutWeight 2 (o := 154) rfl) (gB_c lq_cX6_cutWeight q1_cX6_cutWeight 3 (o := 0) rfl) (gB_c lq_cX6_cutWeight q1_cX6_cutWeight 4 (o := 6) rfl) rfl
theorem dX6_cutWeight_37 : decode cX6_cutWeight 37 = .ok (.goto 41, 3) := dc_167 (gB_c lq_cX6_cutWeight q1_cX6_cutWeight 5 (o := 167) rfl) (gB_c lq_cX6_cutWeight q1_cX6_cutWeight 6 (o := 0) rfl) (gB_c lq_cX6_cutWeight q1_cX6_cutWeight 7 (o := 41) rfl) rfl
theorem dX6_cutWeight_40 : decode cX6_cutWeight 40 = .ok (.iconst 0, 1) := dc_3 (gB_c lq_cX6_cutWeight q1_cX6_cutWeight 8 (o := 3) rfl)
theorem dX6_cutWeight_41 : decode cX6_cutWeight 41 = .ok (.istore 5, 2) := dc_54 (gB_c lq_cX6_cutWeight q1_cX6_cutWeight 9 (o := 54) rfl) (gB_c lq_cX6_cutWeight q1_cX6_cutWeight 10 (o := 5) rfl)
theorem dX6_cutWeight_43 : decode cX6_cutWeight 43 = .ok (.iload 5, 2) := dc_21 (gB_c lq_cX6_cutWeight q1_cX6_cutWeight 11 (o := 21) rfl) (gB_c lq_cX6_cutWeight q1_cX6_cutWeight 12 (o := 5) rfl)
theorem dX6_cutWeight_45 : decode cX6_cutWeight 45 = .ok (.aload_n 0, 1) := dc_42 (gB_c lq_cX6_cutWeight q1_cX6_cutWeight 13 (o := 42) rfl)
theorem dX6_cutWeight_46 : decode cX6_cutWeight 46 = .ok (.getfield 57, 3) := dc_180 (gB_c lq_cX6_cutWeight q1_cX6_cutWeight 14 (o := 180) rfl) (gB_c lq_cX6_cutWeight q1_cX6_cutWeight 15 (o := 0) rfl) (gB_c lq_cX6_cutWeight q1_cX6_cutWeight 16 (o := 57) rfl) rfl
theorem dX6_cutWeight_49 : decode cX6_cutWeight 49 = .ok (.if_icmp .ge 29, 3) := dc_162 (gB_c lq_cX6_cutWeight q1_cX6_cutWeight 17 (o := 162) rfl) (gB_c lq_cX6_cutWeight q1_cX6_cutWeight 18 (o := 0) rfl) (gB_c lq_cX6_cutWeight q1_cX6_cutWeight 19 (o := 29) rfl) rfl
theorem dX6_cutWeight_52 : decode cX6_cutWeight 52 = .ok (.iload 4, 2) := dc_21 (gB_c lq_cX6_cutWeight q1_cX6_cutWeight 20 (o := 21) rfl) (gB_c lq_cX6_cutWeight q1_cX6_cutWeight 21 (o := 4) rfl)
theorem dX6_cutWeight_54 : decode cX6_cutWeight 54 = .ok (.iload 5, 2) := dc_21 (gB_c lq_cX6_cutWeight q1_cX6_cutWeight 22 (o := 21) rfl) (gB_c lq_cX6_cutWeight q1_cX6_cutWeight 23 (o := 5) rfl)
theorem dX6_cutWeight_56 : decode cX6_cutWeight 56 = .ok (.ishr, 1) := dc_122 (gB_c lq_cX6_cutWeight q1_cX6_cutWeight 24 (o := 122) rfl)
theorem dX6_cutWeight_57 : decode cX6_cutWeight 57 = .ok (.iconst 1, 1) := dc_4 (gB_c lq_cX6_cutWeight q1_cX6_cutWeight 25 (o := 4) rfl)
theorem dX6_cutWeight_58 : decode cX6_cutWeight 58 = .ok (.iand, 1) := dc_126 (gB_c lq_cX6_cutWeight q1_cX6_cutWeight 26 (o := 126) rfl)
theorem dX6_cutWeight_59 : decode cX6_cutWeight 59 = .ok (.ifCond .eq 13, 3) := dc_153 (gB_c lq_cX6_cutWeight q1_cX6_cutWeight 27 (o := 153) rfl) (gB_c lq_cX6_cutWeight q1_cX6_cutWeight 28 (o := 0) rfl) (gB_c lq_cX6_cutWeight q1_cX6_cutWeight 29 (o := 13) rfl) rfl
theorem dX6_cutWeight_62 : decode cX6_cutWeight 62 = .ok (.iload_n 2, 1) := dc_28 (gB_c lq_cX6_cutWeight q1_cX6_cutWeight 30 (o := 28) rfl)
theorem dX6_cutWeight_63 : decode cX6_cutWeight 63 = .ok (.aload_n 0, 1) := dc_42 (gB_c lq_cX6_cutWeight q1_cX6_cutWeight 31 (o := 42) rfl)
theorem dX6_cutWeight_64 : decode cX6_cutWeight 64 = .ok (.iload_n 3, 1) := dc_29 (gB_c lq_cX6_cutWeight q2_cX6_cutWeight 0 (o := 29) rfl)
theorem dX6_cutWeight_65 : decode cX6_cutWeight 65 = .ok (.iload 5, 2) := dc_21 (gB_c lq_cX6_cutWeight q2_cX6_cutWeight 1 (o := 21) rfl) (gB_c lq_cX6_cutWeight q2_cX6_cutWeight 2 (o := 5) rfl)
theorem dX6_cutWeight_67 : decode cX6_cutWeight 67 = .ok (.invokevirtual 64, 3) := dc_182 (gB_c lq_cX6_cutWeight q2_cX6_cutWeight 3 (o := 182) rfl) (gB_c lq_cX6_cutWeight q2_cX6_cutWeight 4 (o := 0) rfl) (gB_c lq_cX6_cutWeight q2_cX6_cutWeight 5 (o := 64) rfl) rfl
theorem dX6_cutWeight_70 : decode cX6_cutWeight 70 = .ok (.iadd, 1) := dc_96 (gB_c lq_cX6_cutWeight q2_cX6_cutWeight 6 (o := 96) rfl)
theorem dX6_cutWeight_71 : decode cX6_cutWeight 71 = .ok (.istore_n 2, 1) := dc_61 (gB_c lq_cX6_cutWeight q2_cX6_cutWeight 7 (o := 61) rfl)
theorem dX6_cutWeight_72 : decode cX6_cutWeight 72 = .ok (.iinc 5 1, 3) := dc_132 (gB_c lq_cX6_cutWeight q2_cX6_cutWeight 8 (o := 132) rfl) (gB_c lq_cX6_cutWeight q2_cX6_cutWeight 9 (o := 5) rfl) (gB_c lq_cX6_cutWeight q2_cX6_cutWeight 10 (o := 1) rfl) rfl
theorem dX6_cutWeight_75 : decode cX6_cutWeight 75 = .ok (.goto (-32), 3) := dc_167 (gB_c lq_cX6_cutWeight q2_cX6_cutWeight 11 (o := 167) rfl) (gB_c lq_cX6_cutWeight q2_cX6_cutWeight 12 (o := 255) rfl) (gB_c lq_cX6_cutWeight q2_cX6_cutWeight 13 (o := 224) rfl) rfl
theorem dX6_cutWeight_78 : decode cX6_cutWeight 78 = .ok (.iinc 3 1, 3) := dc_132 (gB_c lq_cX6_cutWeight q2_cX6_cutWeight 14 (o := 132) rfl) (gB_c lq_cX6_cutWeight q2_cX6_cutWeight 15 (o := 3) rfl) (gB_c lq_cX6_cutWeight q2_cX6_cutWeight 16 (o := 1) rfl) rfl
theorem dX6_cutWeight_81 : decode cX6_cutWeight 81 = .ok (.goto (-77), 3) := dc_167 (gB_c lq_cX6_cutWeight q2_cX6_cutWeight 17 (o := 167) rfl) (gB_c lq_cX6_cutWeight q2_cX6_cutWeight 18 (o := 255) rfl) (gB_c lq_cX6_cutWeight q2_cX6_cutWeight 19 (o := 179) rfl) rfl
theorem dX6_cutWeight_84 : decode cX6_cutWeight 84 = .ok (.iload_n 2, 1) := dc_28 (gB_c lq_cX6_cutWeight q2_cX6_cutWeight 20 (o := 28) rfl)
theorem dX6_cutWeight_85 : decode cX6_cutWeight 85 = .ok (.ireturn, 1) := dc_172 (gB_c lq_cX6_cutWeight q2_cX6_cutWeight 21 (o := 172) rfl)
abbrev r0_cX6_firstStep : List Nat := [26, 184, 0, 9, 153, 0, 7, 3, 167, 0, 4, 4, 172]
theorem lq_cX6_firstStep : (cX6_firstStep).data.toList.map UInt8.toNat = r0_cX6_firstStep := by decide +kernel
theorem dX6_firstStep_0 : decode cX6_firstStep 0 = .ok (.iload_n 0, 1) := dc_26 (gB_l lq_cX6_firstStep (p := 0) (o := 26) rfl)
theorem dX6_firstStep_1 : decode cX6_firstStep 1 = .ok (.invokestatic 9, 3) := dc_184 (gB_l lq_cX6_firstStep (p := 1) (o := 184) rfl) (gB_l lq_cX6_firstStep (p := 2) (o := 0) rfl) (gB_l lq_cX6_firstStep (p := 3) (o := 9) rfl) rfl
theorem dX6_firstStep_4 : decode cX6_firstStep 4 = .ok (.ifCond .eq 7, 3) := dc_153 (gB_l lq_cX6_firstStep (p := 4) (o := 153) rfl) (gB_l lq_cX6_firstStep (p := 5) (o := 0) rfl) (gB_l lq_cX6_firstStep (p := 6) (o := 7) rfl) rfl
theorem dX6_firstStep_7 : decode cX6_firstStep 7 = .ok (.iconst 0, 1) := dc_3 (gB_l lq_cX6_firstStep (p := 7) (o := 3) rfl)
theorem dX6_firstStep_8 : decode cX6_firstStep 8 = .ok (.goto 4, 3) := dc_167 (gB_l lq_cX6_firstStep (p := 8) (o := 167) rfl) (gB_l lq_cX6_firstStep (p := 9) (o := 0) rfl) (gB_l lq_cX6_firstStep (p := 10) (o := 4) rfl) rfl
theorem dX6_firstStep_11 : decode cX6_firstStep 11 = .ok (.iconst 1, 1) := dc_4 (gB_l lq_cX6_firstStep (p := 11) (o := 4) rfl)
theorem dX6_firstStep_12 : decode cX6_firstStep 12 = .ok (.ireturn, 1) := dc_172 (gB_l lq_cX6_firstStep (p := 12) (o := 172) rfl)
abbrev r0_cX6_fringeSize : List Nat := [42, 27, 2, 130, 27, 184, 0, 67, 184, 0, 46, 172]
theorem lq_cX6_fringeSize : (cX6_fringeSize).data.toList.map UInt8.toNat = r0_cX6_fringeSize := by decide +kernel
theorem dX6_fringeSize_0 : decode cX6_fringeSize 0 = .ok (.aload_n 0, 1) := dc_42 (gB_l lq_cX6_fringeSize (p := 0) (o := 42) rfl)
theorem dX6_fringeSize_1 : decode cX6_fringeSize 1 = .ok (.iload_n 1, 1) := dc_27 (gB_l lq_cX6_fringeSize (p := 1) (o := 27) rfl)
theorem dX6_fringeSize_2 : decode cX6_fringeSize 2 = .ok (.iconst (-1), 1) := dc_2 (gB_l lq_cX6_fringeSize (p := 2) (o := 2) rfl)
theorem dX6_fringeSize_3 : decode cX6_fringeSize 3 = .ok (.ixor, 1) := dc_130 (gB_l lq_cX6_fringeSize (p := 3) (o := 130) rfl)
theorem dX6_fringeSize_4 : decode cX6_fringeSize 4 = .ok (.iload_n 1, 1) := dc_27 (gB_l lq_cX6_fringeSize (p := 4) (o := 27) rfl)
theorem dX6_fringeSize_5 : decode cX6_fringeSize 5 = .ok (.invokestatic 67, 3) := dc_184 (gB_l lq_cX6_fringeSize (p := 5) (o := 184) rfl) (gB_l lq_cX6_fringeSize (p := 6) (o := 0) rfl) (gB_l lq_cX6_fringeSize (p := 7) (o := 67) rfl) rfl
theorem dX6_fringeSize_8 : decode cX6_fringeSize 8 = .ok (.invokestatic 46, 3) := dc_184 (gB_l lq_cX6_fringeSize (p := 8) (o := 184) rfl) (gB_l lq_cX6_fringeSize (p := 9) (o := 0) rfl) (gB_l lq_cX6_fringeSize (p := 10) (o := 46) rfl) rfl
theorem dX6_fringeSize_11 : decode cX6_fringeSize 11 = .ok (.ireturn, 1) := dc_172 (gB_l lq_cX6_fringeSize (p := 11) (o := 172) rfl)
abbrev r0_cX6_gateSize : List Nat := [42, 27, 27, 2, 130, 184, 0, 67, 184, 0, 46, 172]
theorem lq_cX6_gateSize : (cX6_gateSize).data.toList.map UInt8.toNat = r0_cX6_gateSize := by decide +kernel
theorem dX6_gateSize_0 : decode cX6_gateSize 0 = .ok (.aload_n 0, 1) := dc_42 (gB_l lq_cX6_gateSize (p := 0) (o := 42) rfl)
theorem dX6_gateSize_1 : decode cX6_gateSize 1 = .ok (.iload_n 1, 1) := dc_27 (gB_l lq_cX6_gateSize (p := 1) (o := 27) rfl)
theorem dX6_gateSize_2 : decode cX6_gateSize 2 = .ok (.iload_n 1, 1) := dc_27 (gB_l lq_cX6_gateSize (p := 2) (o := 27) rfl)
theorem dX6_gateSize_3 : decode cX6_gateSize 3 = .ok (.iconst (-1), 1) := dc_2 (gB_l lq_cX6_gateSize (p := 3) (o := 2) rfl)
theorem dX6_gateSize_4 : decode cX6_gateSize 4 = .ok (.ixor, 1) := dc_130 (gB_l lq_cX6_gateSize (p := 4) (o := 130) rfl)
theorem dX6_gateSize_5 : decode cX6_gateSize 5 = .ok (.invokestatic 67, 3) := dc_184 (gB_l lq_cX6_gateSize (p := 5) (o := 184) rfl) (gB_l lq_cX6_gateSize (p := 6) (o := 0) rfl) (gB_l lq_cX6_gateSize (p := 7) (o := 67) rfl) rfl
theorem dX6_gateSize_8 : decode cX6_gateSize 8 = .ok (.invokestatic 46, 3) := dc_184 (gB_l lq_cX6_gateSize (p := 8) (o := 184) rfl) (gB_l lq_cX6_gateSize (p := 9) (o := 0) rfl) (gB_l lq_cX6_gateSize (p := 10) (o := 46) rfl) rfl
theorem dX6_gateSize_11 : decode cX6_gateSize 11 = .ok (.ireturn, 1) := dc_172 (gB_l lq_cX6_gateSize (p := 11) (o := 172) rfl)
abbrev r0_cX6_isTakenOut : List Nat := [26, 8, 159, 0, 9, 26, 16, 6, 160, 0, 7, 4, 167, 0, 4, 3, 172]
theorem lq_cX6_isTakenOut : (cX6_isTakenOut).data.toList.map UInt8.toNat = r0_cX6_isTakenOut := by decide +kernel
theorem dX6_isTakenOut_0 : decode cX6_isTakenOut 0 = .ok (.iload_n 0, 1) := dc_26 (gB_l lq_cX6_isTakenOut (p := 0) (o := 26) rfl)
theorem dX6_isTakenOut_1 : decode cX6_isTakenOut 1 = .ok (.iconst 5, 1) := dc_8 (gB_l lq_cX6_isTakenOut (p := 1) (o := 8) rfl)
theorem dX6_isTakenOut_2 : decode cX6_isTakenOut 2 = .ok (.if_icmp .eq 9, 3) := dc_159 (gB_l lq_cX6_isTakenOut (p := 2) (o := 159) rfl) (gB_l lq_cX6_isTakenOut (p := 3) (o := 0) rfl) (gB_l lq_cX6_isTakenOut (p := 4) (o := 9) rfl) rfl
theorem dX6_isTakenOut_5 : decode cX6_isTakenOut 5 = .ok (.iload_n 0, 1) := dc_26 (gB_l lq_cX6_isTakenOut (p := 5) (o := 26) rfl)
theorem dX6_isTakenOut_6 : decode cX6_isTakenOut 6 = .ok (.bipush 6, 2) := dc_16 (gB_l lq_cX6_isTakenOut (p := 6) (o := 16) rfl) (gB_l lq_cX6_isTakenOut (p := 7) (o := 6) rfl) rfl
theorem dX6_isTakenOut_8 : decode cX6_isTakenOut 8 = .ok (.if_icmp .ne 7, 3) := dc_160 (gB_l lq_cX6_isTakenOut (p := 8) (o := 160) rfl) (gB_l lq_cX6_isTakenOut (p := 9) (o := 0) rfl) (gB_l lq_cX6_isTakenOut (p := 10) (o := 7) rfl) rfl
theorem dX6_isTakenOut_11 : decode cX6_isTakenOut 11 = .ok (.iconst 1, 1) := dc_4 (gB_l lq_cX6_isTakenOut (p := 11) (o := 4) rfl)
theorem dX6_isTakenOut_12 : decode cX6_isTakenOut 12 = .ok (.goto 4, 3) := dc_167 (gB_l lq_cX6_isTakenOut (p := 12) (o := 167) rfl) (gB_l lq_cX6_isTakenOut (p := 13) (o := 0) rfl) (gB_l lq_cX6_isTakenOut (p := 14) (o := 4) rfl) rfl
theorem dX6_isTakenOut_15 : decode cX6_isTakenOut 15 = .ok (.iconst 0, 1) := dc_3 (gB_l lq_cX6_isTakenOut (p := 15) (o := 3) rfl)
theorem dX6_isTakenOut_16 : decode cX6_isTakenOut 16 = .ok (.ireturn, 1) := dc_172 (gB_l lq_cX6_isTakenOut (p := 16) (o := 172) rfl)
abbrev r1_cX6_joined : List Nat := [27, 28, 184, 0, 15, 172]
def a0_cX6_joined : List Nat := [26, 6, 159, 0, 14, 26, 7, 159, 0, 9, 26, 16, 6, 160, 0, 7, 4, 167, 0, 4, 3, 62, 29, 153, 0, 9, 27, 28, 96, 167, 0, 8]
abbrev r0_cX6_joined : List Nat := a0_cX6_joined ++ r1_cX6_joined
theorem lq_cX6_joined : (cX6_joined).data.toList.map UInt8.toNat = r0_cX6_joined := by decide +kernel
theorem q1_cX6_joined : ∀ i, (r0_cX6_joined)[32 + i]? = (r1_cX6_joined)[i]? := chn (A := a0_cX6_joined) (B := r1_cX6_joined) (n := 0) (k := 32) rfl (ch0 (R := r0_cX6_joined))
theorem dX6_joined_0 : decode cX6_joined 0 = .ok (.iload_n 0, 1) := dc_26 (gB_l lq_cX6_joined (p := 0) (o := 26) rfl)
theorem dX6_joined_1 : decode cX6_joined 1 = .ok (.iconst 3, 1) := dc_6 (gB_l lq_cX6_joined (p := 1) (o := 6) rfl)
theorem dX6_joined_2 : decode cX6_joined 2 = .ok (.if_icmp .eq 14, 3) := dc_159 (gB_l lq_cX6_joined (p := 2) (o := 159) rfl) (gB_l lq_cX6_joined (p := 3) (o := 0) rfl) (gB_l lq_cX6_joined (p := 4) (o := 14) rfl) rfl
theorem dX6_joined_5 : decode cX6_joined 5 = .ok (.iload_n 0, 1) := dc_26 (gB_l lq_cX6_joined (p := 5) (o := 26) rfl)
theorem dX6_joined_6 : decode cX6_joined 6 = .ok (.iconst 4, 1) := dc_7 (gB_l lq_cX6_joined (p := 6) (o := 7) rfl)
theorem dX6_joined_7 : decode cX6_joined 7 = .ok (.if_icmp .eq 9, 3) := dc_159 (gB_l lq_cX6_joined (p := 7) (o := 159) rfl) (gB_l lq_cX6_joined (p := 8) (o := 0) rfl) (gB_l lq_cX6_joined (p := 9) (o := 9) rfl) rfl
theorem dX6_joined_10 : decode cX6_joined 10 = .ok (.iload_n 0, 1) := dc_26 (gB_l lq_cX6_joined (p := 10) (o := 26) rfl)
theorem dX6_joined_11 : decode cX6_joined 11 = .ok (.bipush 6, 2) := dc_16 (gB_l lq_cX6_joined (p := 11) (o := 16) rfl) (gB_l lq_cX6_joined (p := 12) (o := 6) rfl) rfl
theorem dX6_joined_13 : decode cX6_joined 13 = .ok (.if_icmp .ne 7, 3) := dc_160 (gB_l lq_cX6_joined (p := 13) (o := 160) rfl) (gB_l lq_cX6_joined (p := 14) (o := 0) rfl) (gB_l lq_cX6_joined (p := 15) (o := 7) rfl) rfl
theorem dX6_joined_16 : decode cX6_joined 16 = .ok (.iconst 1, 1) := dc_4 (gB_l lq_cX6_joined (p := 16) (o := 4) rfl)
theorem dX6_joined_17 : decode cX6_joined 17 = .ok (.goto 4, 3) := dc_167 (gB_l lq_cX6_joined (p := 17) (o := 167) rfl) (gB_l lq_cX6_joined (p := 18) (o := 0) rfl) (gB_l lq_cX6_joined (p := 19) (o := 4) rfl) rfl
theorem dX6_joined_20 : decode cX6_joined 20 = .ok (.iconst 0, 1) := dc_3 (gB_l lq_cX6_joined (p := 20) (o := 3) rfl)
theorem dX6_joined_21 : decode cX6_joined 21 = .ok (.istore_n 3, 1) := dc_62 (gB_l lq_cX6_joined (p := 21) (o := 62) rfl)
theorem dX6_joined_22 : decode cX6_joined 22 = .ok (.iload_n 3, 1) := dc_29 (gB_l lq_cX6_joined (p := 22) (o := 29) rfl)
theorem dX6_joined_23 : decode cX6_joined 23 = .ok (.ifCond .eq 9, 3) := dc_153 (gB_l lq_cX6_joined (p := 23) (o := 153) rfl) (gB_l lq_cX6_joined (p := 24) (o := 0) rfl) (gB_l lq_cX6_joined (p := 25) (o := 9) rfl) rfl
theorem dX6_joined_26 : decode cX6_joined 26 = .ok (.iload_n 1, 1) := dc_27 (gB_l lq_cX6_joined (p := 26) (o := 27) rfl)
theorem dX6_joined_27 : decode cX6_joined 27 = .ok (.iload_n 2, 1) := dc_28 (gB_l lq_cX6_joined (p := 27) (o := 28) rfl)
theorem dX6_joined_28 : decode cX6_joined 28 = .ok (.iadd, 1) := dc_96 (gB_l lq_cX6_joined (p := 28) (o := 96) rfl)
theorem dX6_joined_29 : decode cX6_joined 29 = .ok (.goto 8, 3) := dc_167 (gB_l lq_cX6_joined (p := 29) (o := 167) rfl) (gB_l lq_cX6_joined (p := 30) (o := 0) rfl) (gB_l lq_cX6_joined (p := 31) (o := 8) rfl) rfl
theorem dX6_joined_32 : decode cX6_joined 32 = .ok (.iload_n 1, 1) := dc_27 (gB_c lq_cX6_joined q1_cX6_joined 0 (o := 27) rfl)
theorem dX6_joined_33 : decode cX6_joined 33 = .ok (.iload_n 2, 1) := dc_28 (gB_c lq_cX6_joined q1_cX6_joined 1 (o := 28) rfl)
theorem dX6_joined_34 : decode cX6_joined 34 = .ok (.invokestatic 15, 3) := dc_184 (gB_c lq_cX6_joined q1_cX6_joined 2 (o := 184) rfl) (gB_c lq_cX6_joined q1_cX6_joined 3 (o := 0) rfl) (gB_c lq_cX6_joined q1_cX6_joined 4 (o := 15) rfl) rfl
theorem dX6_joined_37 : decode cX6_joined 37 = .ok (.ireturn, 1) := dc_172 (gB_c lq_cX6_joined q1_cX6_joined 5 (o := 172) rfl)
abbrev r3_cX6_neighbours : List Nat := [4, 28, 120, 2, 130, 126, 172]
def a2_cX6_neighbours : List Nat := [4, 126, 153, 0, 13, 29, 42, 180, 0, 61, 21, 7, 46, 128, 62, 132, 7, 1, 167, 255, 224, 132, 5, 1, 167, 255, 181, 29, 27, 2, 130, 126]
abbrev r2_cX6_neighbours : List Nat := a2_cX6_neighbours ++ r3_cX6_neighbours
def a1_cX6_neighbours : List Nat := [21, 6, 154, 0, 6, 167, 0, 54, 21, 4, 21, 6, 128, 54, 4, 3, 54, 7, 21, 7, 42, 180, 0, 57, 162, 0, 29, 21, 6, 21, 7, 122]
abbrev r1_cX6_neighbours : List Nat := a1_cX6_neighbours ++ r2_cX6_neighbours
def a0_cX6_neighbours : List Nat := [42, 180, 0, 61, 28, 46, 62, 3, 54, 4, 3, 54, 5, 21, 5, 42, 180, 0, 57, 162, 0, 72, 29, 27, 126, 21, 4, 2, 130, 126, 54, 6]
abbrev r0_cX6_neighbours : List Nat := a0_cX6_neighbours ++ r1_cX6_neighbours
theorem lq_cX6_neighbours : (cX6_neighbours).data.toList.map UInt8.toNat = r0_cX6_neighbours := by decide +kernel
theorem q1_cX6_neighbours : ∀ i, (r0_cX6_neighbours)[32 + i]? = (r1_cX6_neighbours)[i]? := chn (A := a0_cX6_neighbours) (B := r1_cX6_neighbours) (n := 0) (k := 32) rfl (ch0 (R := r0_cX6_neighbours))
theorem q2_cX6_neighbours : ∀ i, (r0_cX6_neighbours)[64 + i]? = (r2_cX6_neighbours)[i]? := chn (A := a1_cX6_neighbours) (B := r2_cX6_neighbours) (n := 32) (k := 32) rfl q1_cX6_neighbours
theorem q3_cX6_neighbours : ∀ i, (r0_cX6_neighbours)[96 + i]? = (r3_cX6_neighbours)[i]? := chn (A := a2_cX6_neighbours) (B := r3_cX6_neighbours) (n := 64) (k := 32) rfl q2_cX6_neighbours
theorem dX6_neighbours_0 : decode cX6_neighbours 0 = .ok (.aload_n 0, 1) := dc_42 (gB_l lq_cX6_neighbours (p := 0) (o := 42) rfl)
theorem dX6_neighbours_1 : decode cX6_neighbours 1 = .ok (.getfield 61, 3) := dc_180 (gB_l lq_cX6_neighbours (p := 1) (o := 180) rfl) (gB_l lq_cX6_neighbours (p := 2) (o := 0) rfl) (gB_l lq_cX6_neighbours (p := 3) (o := 61) rfl) rfl
theorem dX6_neighbours_4 : decode cX6_neighbours 4 = .ok (.iload_n 2, 1) := dc_28 (gB_l lq_cX6_neighbours (p := 4) (o := 28) rfl)
theorem dX6_neighbours_5 : decode cX6_neighbours 5 = .ok (.iaload, 1) := dc_46 (gB_l lq_cX6_neighbours (p := 5) (o := 46) rfl)
theorem dX6_neighbours_6 : decode cX6_neighbours 6 = .ok (.istore_n 3, 1) := dc_62 (gB_l lq_cX6_neighbours (p := 6) (o := 62) rfl)
theorem dX6_neighbours_7 : decode cX6_neighbours 7 = .ok (.iconst 0, 1) := dc_3 (gB_l lq_cX6_neighbours (p := 7) (o := 3) rfl)
theorem dX6_neighbours_8 : decode cX6_neighbours 8 = .ok (.istore 4, 2) := dc_54 (gB_l lq_cX6_neighbours (p := 8) (o := 54) rfl) (gB_l lq_cX6_neighbours (p := 9) (o := 4) rfl)
theorem dX6_neighbours_10 : decode cX6_neighbours 10 = .ok (.iconst 0, 1) := dc_3 (gB_l lq_cX6_neighbours (p := 10) (o := 3) rfl)
theorem dX6_neighbours_11 : decode cX6_neighbours 11 = .ok (.istore 5, 2) := dc_54 (gB_l lq_cX6_neighbours (p := 11) (o := 54) rfl) (gB_l lq_cX6_neighbours (p := 12) (o := 5) rfl)
theorem dX6_neighbours_13 : decode cX6_neighbours 13 = .ok (.iload 5, 2) := dc_21 (gB_l lq_cX6_neighbours (p := 13) (o := 21) rfl) (gB_l lq_cX6_neighbours (p := 14) (o := 5) rfl)
theorem dX6_neighbours_15 : decode cX6_neighbours 15 = .ok (.aload_n 0, 1) := dc_42 (gB_l lq_cX6_neighbours (p := 15) (o := 42) rfl)
theorem dX6_neighbours_16 : decode cX6_neighbours 16 = .ok (.getfield 57, 3) := dc_180 (gB_l lq_cX6_neighbours (p := 16) (o := 180) rfl) (gB_l lq_cX6_neighbours (p := 17) (o := 0) rfl) (gB_l lq_cX6_neighbours (p := 18) (o := 57) rfl) rfl
theorem dX6_neighbours_19 : decode cX6_neighbours 19 = .ok (.if_icmp .ge 72, 3) := dc_162 (gB_l lq_cX6_neighbours (p := 19) (o := 162) rfl) (gB_l lq_cX6_neighbours (p := 20) (o := 0) rfl) (gB_l lq_cX6_neighbours (p := 21) (o := 72) rfl) rfl
theorem dX6_neighbours_22 : decode cX6_neighbours 22 = .ok (.iload_n 3, 1) := dc_29 (gB_l lq_cX6_neighbours (p := 22) (o := 29) rfl)
theorem dX6_neighbours_23 : decode cX6_neighbours 23 = .ok (.iload_n 1, 1) := dc_27 (gB_l lq_cX6_neighbours (p := 23) (o := 27) rfl)
theorem dX6_neighbours_24 : decode cX6_neighbours 24 = .ok (.iand, 1) := dc_126 (gB_l lq_cX6_neighbours (p := 24) (o := 126) rfl)
theorem dX6_neighbours_25 : decode cX6_neighbours 25 = .ok (.iload 4, 2) := dc_21 (gB_l lq_cX6_neighbours (p := 25) (o := 21) rfl) (gB_l lq_cX6_neighbours (p := 26) (o := 4) rfl)
theorem dX6_neighbours_27 : decode cX6_neighbours 27 = .ok (.iconst (-1), 1) := dc_2 (gB_l lq_cX6_neighbours (p := 27) (o := 2) rfl)
theorem dX6_neighbours_28 : decode cX6_neighbours 28 = .ok (.ixor, 1) := dc_130 (gB_l lq_cX6_neighbours (p := 28) (o := 130) rfl)
theorem dX6_neighbours_29 : decode cX6_neighbours 29 = .ok (.iand, 1) := dc_126 (gB_l lq_cX6_neighbours (p := 29) (o := 126) rfl)
theorem dX6_neighbours_30 : decode cX6_neighbours 30 = .ok (.istore 6, 2) := dc_54 (gB_l lq_cX6_neighbours (p := 30) (o := 54) rfl) (gB_l lq_cX6_neighbours (p := 31) (o := 6) rfl)
theorem dX6_neighbours_32 : decode cX6_neighbours 32 = .ok (.iload 6, 2) := dc_21 (gB_c lq_cX6_neighbours q1_cX6_neighbours 0 (o := 21) rfl) (gB_c lq_cX6_neighbours q1_cX6_neighbours 1 (o := 6) rfl)
theorem dX6_neighbours_34 : decode cX6_neighbours 34 = .ok (.ifCond .ne 6, 3) := dc_154 (gB_c lq_cX6_neighbours q1_cX6_neighbours 2 (o := 154) rfl) (gB_c lq_cX6_neighbours q1_cX6_neighbours 3 (o := 0) rfl) (gB_c lq_cX6_neighbours q1_cX6_neighbours 4 (o := 6) rfl) rfl
theorem dX6_neighbours_37 : decode cX6_neighbours 37 = .ok (.goto 54, 3) := dc_167 (gB_c lq_cX6_neighbours q1_cX6_neighbours 5 (o := 167) rfl) (gB_c lq_cX6_neighbours q1_cX6_neighbours 6 (o := 0) rfl) (gB_c lq_cX6_neighbours q1_cX6_neighbours 7 (o := 54) rfl) rfl
theorem dX6_neighbours_40 : decode cX6_neighbours 40 = .ok (.iload 4, 2) := dc_21 (gB_c lq_cX6_neighbours q1_cX6_neighbours 8 (o := 21) rfl) (gB_c lq_cX6_neighbours q1_cX6_neighbours 9 (o := 4) rfl)
theorem dX6_neighbours_42 : decode cX6_neighbours 42 = .ok (.iload 6, 2) := dc_21 (gB_c lq_cX6_neighbours q1_cX6_neighbours 10 (o := 21) rfl) (gB_c lq_cX6_neighbours q1_cX6_neighbours 11 (o := 6) rfl)
theorem dX6_neighbours_44 : decode cX6_neighbours 44 = .ok (.ior, 1) := dc_128 (gB_c lq_cX6_neighbours q1_cX6_neighbours 12 (o := 128) rfl)
theorem dX6_neighbours_45 : decode cX6_neighbours 45 = .ok (.istore 4, 2) := dc_54 (gB_c lq_cX6_neighbours q1_cX6_neighbours 13 (o := 54) rfl) (gB_c lq_cX6_neighbours q1_cX6_neighbours 14 (o := 4) rfl)
theorem dX6_neighbours_47 : decode cX6_neighbours 47 = .ok (.iconst 0, 1) := dc_3 (gB_c lq_cX6_neighbours q1_cX6_neighbours 15 (o := 3) rfl)
theorem dX6_neighbours_48 : decode cX6_neighbours 48 = .ok (.istore 7, 2) := dc_54 (gB_c lq_cX6_neighbours q1_cX6_neighbours 16 (o := 54) rfl) (gB_c lq_cX6_neighbours q1_cX6_neighbours 17 (o := 7) rfl)
theorem dX6_neighbours_50 : decode cX6_neighbours 50 = .ok (.iload 7, 2) := dc_21 (gB_c lq_cX6_neighbours q1_cX6_neighbours 18 (o := 21) rfl) (gB_c lq_cX6_neighbours q1_cX6_neighbours 19 (o := 7) rfl)
theorem dX6_neighbours_52 : decode cX6_neighbours 52 = .ok (.aload_n 0, 1) := dc_42 (gB_c lq_cX6_neighbours q1_cX6_neighbours 20 (o := 42) rfl)
theorem dX6_neighbours_53 : decode cX6_neighbours 53 = .ok (.getfield 57, 3) := dc_180 (gB_c lq_cX6_neighbours q1_cX6_neighbours 21 (o := 180) rfl) (gB_c lq_cX6_neighbours q1_cX6_neighbours 22 (o := 0) rfl) (gB_c lq_cX6_neighbours q1_cX6_neighbours 23 (o := 57) rfl) rfl
theorem dX6_neighbours_56 : decode cX6_neighbours 56 = .ok (.if_icmp .ge 29, 3) := dc_162 (gB_c lq_cX6_neighbours q1_cX6_neighbours 24 (o := 162) rfl) (gB_c lq_cX6_neighbours q1_cX6_neighbours 25 (o := 0) rfl) (gB_c lq_cX6_neighbours q1_cX6_neighbours 26 (o := 29) rfl) rfl
theorem dX6_neighbours_59 : decode cX6_neighbours 59 = .ok (.iload 6, 2) := dc_21 (gB_c lq_cX6_neighbours q1_cX6_neighbours 27 (o := 21) rfl) (gB_c lq_cX6_neighbours q1_cX6_neighbours 28 (o := 6) rfl)
theorem dX6_neighbours_61 : decode cX6_neighbours 61 = .ok (.iload 7, 2) := dc_21 (gB_c lq_cX6_neighbours q1_cX6_neighbours 29 (o := 21) rfl) (gB_c lq_cX6_neighbours q1_cX6_neighbours 30 (o := 7) rfl)
theorem dX6_neighbours_63 : decode cX6_neighbours 63 = .ok (.ishr, 1) := dc_122 (gB_c lq_cX6_neighbours q1_cX6_neighbours 31 (o := 122) rfl)
theorem dX6_neighbours_64 : decode cX6_neighbours 64 = .ok (.iconst 1, 1) := dc_4 (gB_c lq_cX6_neighbours q2_cX6_neighbours 0 (o := 4) rfl)
theorem dX6_neighbours_65 : decode cX6_neighbours 65 = .ok (.iand, 1) := dc_126 (gB_c lq_cX6_neighbours q2_cX6_neighbours 1 (o := 126) rfl)
theorem dX6_neighbours_66 : decode cX6_neighbours 66 = .ok (.ifCond .eq 13, 3) := dc_153 (gB_c lq_cX6_neighbours q2_cX6_neighbours 2 (o := 153) rfl) (gB_c lq_cX6_neighbours q2_cX6_neighbours 3 (o := 0) rfl) (gB_c lq_cX6_neighbours q2_cX6_neighbours 4 (o := 13) rfl) rfl
theorem dX6_neighbours_69 : decode cX6_neighbours 69 = .ok (.iload_n 3, 1) := dc_29 (gB_c lq_cX6_neighbours q2_cX6_neighbours 5 (o := 29) rfl)
theorem dX6_neighbours_70 : decode cX6_neighbours 70 = .ok (.aload_n 0, 1) := dc_42 (gB_c lq_cX6_neighbours q2_cX6_neighbours 6 (o := 42) rfl)
theorem dX6_neighbours_71 : decode cX6_neighbours 71 = .ok (.getfield 61, 3) := dc_180 (gB_c lq_cX6_neighbours q2_cX6_neighbours 7 (o := 180) rfl) (gB_c lq_cX6_neighbours q2_cX6_neighbours 8 (o := 0) rfl) (gB_c lq_cX6_neighbours q2_cX6_neighbours 9 (o := 61) rfl) rfl
theorem dX6_neighbours_74 : decode cX6_neighbours 74 = .ok (.iload 7, 2) := dc_21 (gB_c lq_cX6_neighbours q2_cX6_neighbours 10 (o := 21) rfl) (gB_c lq_cX6_neighbours q2_cX6_neighbours 11 (o := 7) rfl)
theorem dX6_neighbours_76 : decode cX6_neighbours 76 = .ok (.iaload, 1) := dc_46 (gB_c lq_cX6_neighbours q2_cX6_neighbours 12 (o := 46) rfl)
theorem dX6_neighbours_77 : decode cX6_neighbours 77 = .ok (.ior, 1) := dc_128 (gB_c lq_cX6_neighbours q2_cX6_neighbours 13 (o := 128) rfl)
theorem dX6_neighbours_78 : decode cX6_neighbours 78 = .ok (.istore_n 3, 1) := dc_62 (gB_c lq_cX6_neighbours q2_cX6_neighbours 14 (o := 62) rfl)
theorem dX6_neighbours_79 : decode cX6_neighbours 79 = .ok (.iinc 7 1, 3) := dc_132 (gB_c lq_cX6_neighbours q2_cX6_neighbours 15 (o := 132) rfl) (gB_c lq_cX6_neighbours q2_cX6_neighbours 16 (o := 7) rfl) (gB_c lq_cX6_neighbours q2_cX6_neighbours 17 (o := 1) rfl) rfl
theorem dX6_neighbours_82 : decode cX6_neighbours 82 = .ok (.goto (-32), 3) := dc_167 (gB_c lq_cX6_neighbours q2_cX6_neighbours 18 (o := 167) rfl) (gB_c lq_cX6_neighbours q2_cX6_neighbours 19 (o := 255) rfl) (gB_c lq_cX6_neighbours q2_cX6_neighbours 20 (o := 224) rfl) rfl
theorem dX6_neighbours_85 : decode cX6_neighbours 85 = .ok (.iinc 5 1, 3) := dc_132 (gB_c lq_cX6_neighbours q2_cX6_neighbours 21 (o := 132) rfl) (gB_c lq_cX6_neighbours q2_cX6_neighbours 22 (o := 5) rfl) (gB_c lq_cX6_neighbours q2_cX6_neighbours 23 (o := 1) rfl) rfl
theorem dX6_neighbours_88 : decode cX6_neighbours 88 = .ok (.goto (-75), 3) := dc_167 (gB_c lq_cX6_neighbours q2_cX6_neighbours 24 (o := 167) rfl) (gB_c lq_cX6_neighbours q2_cX6_neighbours 25 (o := 255) rfl) (gB_c lq_cX6_neighbours q2_cX6_neighbours 26 (o := 181) rfl) rfl
theorem dX6_neighbours_91 : decode cX6_neighbours 91 = .ok (.iload_n 3, 1) := dc_29 (gB_c lq_cX6_neighbours q2_cX6_neighbours 27 (o := 29) rfl)
theorem dX6_neighbours_92 : decode cX6_neighbours 92 = .ok (.iload_n 1, 1) := dc_27 (gB_c lq_cX6_neighbours q2_cX6_neighbours 28 (o := 27) rfl)
theorem dX6_neighbours_93 : decode cX6_neighbours 93 = .ok (.iconst (-1), 1) := dc_2 (gB_c lq_cX6_neighbours q2_cX6_neighbours 29 (o := 2) rfl)
theorem dX6_neighbours_94 : decode cX6_neighbours 94 = .ok (.ixor, 1) := dc_130 (gB_c lq_cX6_neighbours q2_cX6_neighbours 30 (o := 130) rfl)
theorem dX6_neighbours_95 : decode cX6_neighbours 95 = .ok (.iand, 1) := dc_126 (gB_c lq_cX6_neighbours q2_cX6_neighbours 31 (o := 126) rfl)
theorem dX6_neighbours_96 : decode cX6_neighbours 96 = .ok (.iconst 1, 1) := dc_4 (gB_c lq_cX6_neighbours q3_cX6_neighbours 0 (o := 4) rfl)
theorem dX6_neighbours_97 : decode cX6_neighbours 97 = .ok (.iload_n 2, 1) := dc_28 (gB_c lq_cX6_neighbours q3_cX6_neighbours 1 (o := 28) rfl)
theorem dX6_neighbours_98 : decode cX6_neighbours 98 = .ok (.ishl, 1) := dc_120 (gB_c lq_cX6_neighbours q3_cX6_neighbours 2 (o := 120) rfl)
theorem dX6_neighbours_99 : decode cX6_neighbours 99 = .ok (.iconst (-1), 1) := dc_2 (gB_c lq_cX6_neighbours q3_cX6_neighbours 3 (o := 2) rfl)
theorem dX6_neighbours_100 : decode cX6_neighbours 100 = .ok (.ixor, 1) := dc_130 (gB_c lq_cX6_neighbours q3_cX6_neighbours 4 (o := 130) rfl)
theorem dX6_neighbours_101 : decode cX6_neighbours 101 = .ok (.iand, 1) := dc_126 (gB_c lq_cX6_neighbours q3_cX6_neighbours 5 (o := 126) rfl)
theorem dX6_neighbours_102 : decode cX6_neighbours 102 = .ok (.ireturn, 1) := dc_172 (gB_c lq_cX6_neighbours q3_cX6_neighbours 6 (o := 172) rfl)
abbrev r2_cX6_newLines : List Nat := [46, 96, 54, 4, 132, 5, 1, 167, 255, 198, 21, 4, 172]
def a1_cX6_newLines : List Nat := [167, 0, 9, 29, 21, 5, 184, 0, 70, 54, 6, 21, 6, 153, 0, 23, 21, 4, 21, 6, 42, 27, 21, 5, 184, 0, 42, 2, 130, 126, 184, 0]
abbrev r1_cX6_newLines : List Nat := a1_cX6_newLines ++ r2_cX6_newLines
def a0_cX6_newLines : List Nat := [42, 27, 28, 184, 0, 42, 62, 3, 54, 4, 3, 54, 5, 21, 5, 42, 180, 0, 57, 162, 0, 55, 29, 21, 5, 122, 4, 126, 154, 0, 7, 3]
abbrev r0_cX6_newLines : List Nat := a0_cX6_newLines ++ r1_cX6_newLines
theorem lq_cX6_newLines : (cX6_newLines).data.toList.map UInt8.toNat = r0_cX6_newLines := by decide +kernel
theorem q1_cX6_newLines : ∀ i, (r0_cX6_newLines)[32 + i]? = (r1_cX6_newLines)[i]? := chn (A := a0_cX6_newLines) (B := r1_cX6_newLines) (n := 0) (k := 32) rfl (ch0 (R := r0_cX6_newLines))
theorem q2_cX6_newLines : ∀ i, (r0_cX6_newLines)[64 + i]? = (r2_cX6_newLines)[i]? := chn (A := a1_cX6_newLines) (B := r2_cX6_newLines) (n := 32) (k := 32) rfl q1_cX6_newLines
theorem dX6_newLines_0 : decode cX6_newLines 0 = .ok (.aload_n 0, 1) := dc_42 (gB_l lq_cX6_newLines (p := 0) (o := 42) rfl)
theorem dX6_newLines_1 : decode cX6_newLines 1 = .ok (.iload_n 1, 1) := dc_27 (gB_l lq_cX6_newLines (p := 1) (o := 27) rfl)
theorem dX6_newLines_2 : decode cX6_newLines 2 = .ok (.iload_n 2, 1) := dc_28 (gB_l lq_cX6_newLines (p := 2) (o := 28) rfl)
theorem dX6_newLines_3 : decode cX6_newLines 3 = .ok (.invokestatic 42, 3) := dc_184 (gB_l lq_cX6_newLines (p := 3) (o := 184) rfl) (gB_l lq_cX6_newLines (p := 4) (o := 0) rfl) (gB_l lq_cX6_newLines (p := 5) (o := 42) rfl) rfl
theorem dX6_newLines_6 : decode cX6_newLines 6 = .ok (.istore_n 3, 1) := dc_62 (gB_l lq_cX6_newLines (p := 6) (o := 62) rfl)
theorem dX6_newLines_7 : decode cX6_newLines 7 = .ok (.iconst 0, 1) := dc_3 (gB_l lq_cX6_newLines (p := 7) (o := 3) rfl)
theorem dX6_newLines_8 : decode cX6_newLines 8 = .ok (.istore 4, 2) := dc_54 (gB_l lq_cX6_newLines (p := 8) (o := 54) rfl) (gB_l lq_cX6_newLines (p := 9) (o := 4) rfl)
theorem dX6_newLines_10 : decode cX6_newLines 10 = .ok (.iconst 0, 1) := dc_3 (gB_l lq_cX6_newLines (p := 10) (o := 3) rfl)
theorem dX6_newLines_11 : decode cX6_newLines 11 = .ok (.istore 5, 2) := dc_54 (gB_l lq_cX6_newLines (p := 11) (o := 54) rfl) (gB_l lq_cX6_newLines (p := 12) (o := 5) rfl)
theorem dX6_newLines_13 : decode cX6_newLines 13 = .ok (.iload 5, 2) := dc_21 (gB_l lq_cX6_newLines (p := 13) (o := 21) rfl) (gB_l lq_cX6_newLines (p := 14) (o := 5) rfl)
theorem dX6_newLines_15 : decode cX6_newLines 15 = .ok (.aload_n 0, 1) := dc_42 (gB_l lq_cX6_newLines (p := 15) (o := 42) rfl)
theorem dX6_newLines_16 : decode cX6_newLines 16 = .ok (.getfield 57, 3) := dc_180 (gB_l lq_cX6_newLines (p := 16) (o := 180) rfl) (gB_l lq_cX6_newLines (p := 17) (o := 0) rfl) (gB_l lq_cX6_newLines (p := 18) (o := 57) rfl) rfl
theorem dX6_newLines_19 : decode cX6_newLines 19 = .ok (.if_icmp .ge 55, 3) := dc_162 (gB_l lq_cX6_newLines (p := 19) (o := 162) rfl) (gB_l lq_cX6_newLines (p := 20) (o := 0) rfl) (gB_l lq_cX6_newLines (p := 21) (o := 55) rfl) rfl
theorem dX6_newLines_22 : decode cX6_newLines 22 = .ok (.iload_n 3, 1) := dc_29 (gB_l lq_cX6_newLines (p := 22) (o := 29) rfl)
theorem dX6_newLines_23 : decode cX6_newLines 23 = .ok (.iload 5, 2) := dc_21 (gB_l lq_cX6_newLines (p := 23) (o := 21) rfl) (gB_l lq_cX6_newLines (p := 24) (o := 5) rfl)
theorem dX6_newLines_25 : decode cX6_newLines 25 = .ok (.ishr, 1) := dc_122 (gB_l lq_cX6_newLines (p := 25) (o := 122) rfl)
theorem dX6_newLines_26 : decode cX6_newLines 26 = .ok (.iconst 1, 1) := dc_4 (gB_l lq_cX6_newLines (p := 26) (o := 4) rfl)
theorem dX6_newLines_27 : decode cX6_newLines 27 = .ok (.iand, 1) := dc_126 (gB_l lq_cX6_newLines (p := 27) (o := 126) rfl)
theorem dX6_newLines_28 : decode cX6_newLines 28 = .ok (.ifCond .ne 7, 3) := dc_154 (gB_l lq_cX6_newLines (p := 28) (o := 154) rfl) (gB_l lq_cX6_newLines (p := 29) (o := 0) rfl) (gB_l lq_cX6_newLines (p := 30) (o := 7) rfl) rfl
theorem dX6_newLines_31 : decode cX6_newLines 31 = .ok (.iconst 0, 1) := dc_3 (gB_l lq_cX6_newLines (p := 31) (o := 3) rfl)
theorem dX6_newLines_32 : decode cX6_newLines 32 = .ok (.goto 9, 3) := dc_167 (gB_c lq_cX6_newLines q1_cX6_newLines 0 (o := 167) rfl) (gB_c lq_cX6_newLines q1_cX6_newLines 1 (o := 0) rfl) (gB_c lq_cX6_newLines q1_cX6_newLines 2 (o := 9) rfl) rfl
theorem dX6_newLines_35 : decode cX6_newLines 35 = .ok (.iload_n 3, 1) := dc_29 (gB_c lq_cX6_newLines q1_cX6_newLines 3 (o := 29) rfl)
theorem dX6_newLines_36 : decode cX6_newLines 36 = .ok (.iload 5, 2) := dc_21 (gB_c lq_cX6_newLines q1_cX6_newLines 4 (o := 21) rfl) (gB_c lq_cX6_newLines q1_cX6_newLines 5 (o := 5) rfl)
theorem dX6_newLines_38 : decode cX6_newLines 38 = .ok (.invokestatic 70, 3) := dc_184 (gB_c lq_cX6_newLines q1_cX6_newLines 6 (o := 184) rfl) (gB_c lq_cX6_newLines q1_cX6_newLines 7 (o := 0) rfl) (gB_c lq_cX6_newLines q1_cX6_newLines 8 (o := 70) rfl) rfl
theorem dX6_newLines_41 : decode cX6_newLines 41 = .ok (.istore 6, 2) := dc_54 (gB_c lq_cX6_newLines q1_cX6_newLines 9 (o := 54) rfl) (gB_c lq_cX6_newLines q1_cX6_newLines 10 (o := 6) rfl)
theorem dX6_newLines_43 : decode cX6_newLines 43 = .ok (.iload 6, 2) := dc_21 (gB_c lq_cX6_newLines q1_cX6_newLines 11 (o := 21) rfl) (gB_c lq_cX6_newLines q1_cX6_newLines 12 (o := 6) rfl)
theorem dX6_newLines_45 : decode cX6_newLines 45 = .ok (.ifCond .eq 23, 3) := dc_153 (gB_c lq_cX6_newLines q1_cX6_newLines 13 (o := 153) rfl) (gB_c lq_cX6_newLines q1_cX6_newLines 14 (o := 0) rfl) (gB_c lq_cX6_newLines q1_cX6_newLines 15 (o := 23) rfl) rfl
theorem dX6_newLines_48 : decode cX6_newLines 48 = .ok (.iload 4, 2) := dc_21 (gB_c lq_cX6_newLines q1_cX6_newLines 16 (o := 21) rfl) (gB_c lq_cX6_newLines q1_cX6_newLines 17 (o := 4) rfl)
theorem dX6_newLines_50 : decode cX6_newLines 50 = .ok (.iload 6, 2) := dc_21 (gB_c lq_cX6_newLines q1_cX6_newLines 18 (o := 21) rfl) (gB_c lq_cX6_newLines q1_cX6_newLines 19 (o := 6) rfl)
theorem dX6_newLines_52 : decode cX6_newLines 52 = .ok (.aload_n 0, 1) := dc_42 (gB_c lq_cX6_newLines q1_cX6_newLines 20 (o := 42) rfl)
theorem dX6_newLines_53 : decode cX6_newLines 53 = .ok (.iload_n 1, 1) := dc_27 (gB_c lq_cX6_newLines q1_cX6_newLines 21 (o := 27) rfl)
theorem dX6_newLines_54 : decode cX6_newLines 54 = .ok (.iload 5, 2) := dc_21 (gB_c lq_cX6_newLines q1_cX6_newLines 22 (o := 21) rfl) (gB_c lq_cX6_newLines q1_cX6_newLines 23 (o := 5) rfl)
theorem dX6_newLines_56 : decode cX6_newLines 56 = .ok (.invokestatic 42, 3) := dc_184 (gB_c lq_cX6_newLines q1_cX6_newLines 24 (o := 184) rfl) (gB_c lq_cX6_newLines q1_cX6_newLines 25 (o := 0) rfl) (gB_c lq_cX6_newLines q1_cX6_newLines 26 (o := 42) rfl) rfl
theorem dX6_newLines_59 : decode cX6_newLines 59 = .ok (.iconst (-1), 1) := dc_2 (gB_c lq_cX6_newLines q1_cX6_newLines 27 (o := 2) rfl)
theorem dX6_newLines_60 : decode cX6_newLines 60 = .ok (.ixor, 1) := dc_130 (gB_c lq_cX6_newLines q1_cX6_newLines 28 (o := 130) rfl)
theorem dX6_newLines_61 : decode cX6_newLines 61 = .ok (.iand, 1) := dc_126 (gB_c lq_cX6_newLines q1_cX6_newLines 29 (o := 126) rfl)
theorem dX6_newLines_62 : decode cX6_newLines 62 = .ok (.invokestatic 46, 3) := dc_184 (gB_c lq_cX6_newLines q1_cX6_newLines 30 (o := 184) rfl) (gB_c lq_cX6_newLines q1_cX6_newLines 31 (o := 0) rfl) (gB_c lq_cX6_newLines q2_cX6_newLines 0 (o := 46) rfl) rfl
theorem dX6_newLines_65 : decode cX6_newLines 65 = .ok (.iadd, 1) := dc_96 (gB_c lq_cX6_newLines q2_cX6_newLines 1 (o := 96) rfl)
theorem dX6_newLines_66 : decode cX6_newLines 66 = .ok (.istore 4, 2) := dc_54 (gB_c lq_cX6_newLines q2_cX6_newLines 2 (o := 54) rfl) (gB_c lq_cX6_newLines q2_cX6_newLines 3 (o := 4) rfl)
theorem dX6_newLines_68 : decode cX6_newLines 68 = .ok (.iinc 5 1, 3) := dc_132 (gB_c lq_cX6_newLines q2_cX6_newLines 4 (o := 132) rfl) (gB_c lq_cX6_newLines q2_cX6_newLines 5 (o := 5) rfl) (gB_c lq_cX6_newLines q2_cX6_newLines 6 (o := 1) rfl) rfl
theorem dX6_newLines_71 : decode cX6_newLines 71 = .ok (.goto (-58), 3) := dc_167 (gB_c lq_cX6_newLines q2_cX6_newLines 7 (o := 167) rfl) (gB_c lq_cX6_newLines q2_cX6_newLines 8 (o := 255) rfl) (gB_c lq_cX6_newLines q2_cX6_newLines 9 (o := 198) rfl) rfl
theorem dX6_newLines_74 : decode cX6_newLines 74 = .ok (.iload 4, 2) := dc_21 (gB_c lq_cX6_newLines q2_cX6_newLines 10 (o := 21) rfl) (gB_c lq_cX6_newLines q2_cX6_newLines 11 (o := 4) rfl)
theorem dX6_newLines_76 : decode cX6_newLines 76 = .ok (.ireturn, 1) := dc_172 (gB_c lq_cX6_newLines q2_cX6_newLines 12 (o := 172) rfl)
abbrev r2_cX6_of : List Nat := [29, 184, 0, 51, 172, 42, 28, 184, 0, 54, 172]
def a1_cX6_of : List Nat := [0, 0, 0, 51, 0, 0, 0, 61, 42, 28, 184, 0, 35, 172, 42, 28, 184, 0, 39, 172, 42, 28, 29, 184, 0, 42, 184, 0, 46, 172, 42, 28]
abbrev r1_cX6_of : List Nat := a1_cX6_of ++ r2_cX6_of
def a0_cX6_of : List Nat := [27, 170, 0, 0, 0, 0, 0, 68, 0, 0, 0, 1, 0, 0, 0, 6, 0, 0, 0, 39, 0, 0, 0, 68, 0, 0, 0, 68, 0, 0, 0, 45]
abbrev r0_cX6_of : List Nat := a0_cX6_of ++ r1_cX6_of
theorem lq_cX6_of : (cX6_of).data.toList.map UInt8.toNat = r0_cX6_of := by decide +kernel
theorem q1_cX6_of : ∀ i, (r0_cX6_of)[32 + i]? = (r1_cX6_of)[i]? := chn (A := a0_cX6_of) (B := r1_cX6_of) (n := 0) (k := 32) rfl (ch0 (R := r0_cX6_of))
theorem q2_cX6_of : ∀ i, (r0_cX6_of)[64 + i]? = (r2_cX6_of)[i]? := chn (A := a1_cX6_of) (B := r2_cX6_of) (n := 32) (k := 32) rfl q1_cX6_of
theorem dX6_of_0 : decode cX6_of 0 = .ok (.iload_n 1, 1) := dc_27 (gB_l lq_cX6_of (p := 0) (o := 27) rfl)
theorem dX6_of_1 : decode cX6_of 1 = .ok (.tableswitch 68 1 6 #[39, 68, 68, 45, 51, 61], 39) := by decide +kernel
theorem dX6_of_40 : decode cX6_of 40 = .ok (.aload_n 0, 1) := dc_42 (gB_c lq_cX6_of q1_cX6_of 8 (o := 42) rfl)
theorem dX6_of_41 : decode cX6_of 41 = .ok (.iload_n 2, 1) := dc_28 (gB_c lq_cX6_of q1_cX6_of 9 (o := 28) rfl)
theorem dX6_of_42 : decode cX6_of 42 = .ok (.invokestatic 35, 3) := dc_184 (gB_c lq_cX6_of q1_cX6_of 10 (o := 184) rfl) (gB_c lq_cX6_of q1_cX6_of 11 (o := 0) rfl) (gB_c lq_cX6_of q1_cX6_of 12 (o := 35) rfl) rfl
theorem dX6_of_45 : decode cX6_of 45 = .ok (.ireturn, 1) := dc_172 (gB_c lq_cX6_of q1_cX6_of 13 (o := 172) rfl)
theorem dX6_of_46 : decode cX6_of 46 = .ok (.aload_n 0, 1) := dc_42 (gB_c lq_cX6_of q1_cX6_of 14 (o := 42) rfl)
theorem dX6_of_47 : decode cX6_of 47 = .ok (.iload_n 2, 1) := dc_28 (gB_c lq_cX6_of q1_cX6_of 15 (o := 28) rfl)
theorem dX6_of_48 : decode cX6_of 48 = .ok (.invokestatic 39, 3) := dc_184 (gB_c lq_cX6_of q1_cX6_of 16 (o := 184) rfl) (gB_c lq_cX6_of q1_cX6_of 17 (o := 0) rfl) (gB_c lq_cX6_of q1_cX6_of 18 (o := 39) rfl) rfl
theorem dX6_of_51 : decode cX6_of 51 = .ok (.ireturn, 1) := dc_172 (gB_c lq_cX6_of q1_cX6_of 19 (o := 172) rfl)
theorem dX6_of_52 : decode cX6_of 52 = .ok (.aload_n 0, 1) := dc_42 (gB_c lq_cX6_of q1_cX6_of 20 (o := 42) rfl)
theorem dX6_of_53 : decode cX6_of 53 = .ok (.iload_n 2, 1) := dc_28 (gB_c lq_cX6_of q1_cX6_of 21 (o := 28) rfl)
theorem dX6_of_54 : decode cX6_of 54 = .ok (.iload_n 3, 1) := dc_29 (gB_c lq_cX6_of q1_cX6_of 22 (o := 29) rfl)
theorem dX6_of_55 : decode cX6_of 55 = .ok (.invokestatic 42, 3) := dc_184 (gB_c lq_cX6_of q1_cX6_of 23 (o := 184) rfl) (gB_c lq_cX6_of q1_cX6_of 24 (o := 0) rfl) (gB_c lq_cX6_of q1_cX6_of 25 (o := 42) rfl) rfl
theorem dX6_of_58 : decode cX6_of 58 = .ok (.invokestatic 46, 3) := dc_184 (gB_c lq_cX6_of q1_cX6_of 26 (o := 184) rfl) (gB_c lq_cX6_of q1_cX6_of 27 (o := 0) rfl) (gB_c lq_cX6_of q1_cX6_of 28 (o := 46) rfl) rfl
theorem dX6_of_61 : decode cX6_of 61 = .ok (.ireturn, 1) := dc_172 (gB_c lq_cX6_of q1_cX6_of 29 (o := 172) rfl)
theorem dX6_of_62 : decode cX6_of 62 = .ok (.aload_n 0, 1) := dc_42 (gB_c lq_cX6_of q1_cX6_of 30 (o := 42) rfl)
theorem dX6_of_63 : decode cX6_of 63 = .ok (.iload_n 2, 1) := dc_28 (gB_c lq_cX6_of q1_cX6_of 31 (o := 28) rfl)
theorem dX6_of_64 : decode cX6_of 64 = .ok (.iload_n 3, 1) := dc_29 (gB_c lq_cX6_of q2_cX6_of 0 (o := 29) rfl)
theorem dX6_of_65 : decode cX6_of 65 = .ok (.invokestatic 51, 3) := dc_184 (gB_c lq_cX6_of q2_cX6_of 1 (o := 184) rfl) (gB_c lq_cX6_of q2_cX6_of 2 (o := 0) rfl) (gB_c lq_cX6_of q2_cX6_of 3 (o := 51) rfl) rfl
theorem dX6_of_68 : decode cX6_of 68 = .ok (.ireturn, 1) := dc_172 (gB_c lq_cX6_of q2_cX6_of 4 (o := 172) rfl)
theorem dX6_of_69 : decode cX6_of 69 = .ok (.aload_n 0, 1) := dc_42 (gB_c lq_cX6_of q2_cX6_of 5 (o := 42) rfl)
theorem dX6_of_70 : decode cX6_of 70 = .ok (.iload_n 2, 1) := dc_28 (gB_c lq_cX6_of q2_cX6_of 6 (o := 28) rfl)
theorem dX6_of_71 : decode cX6_of 71 = .ok (.invokestatic 54, 3) := dc_184 (gB_c lq_cX6_of q2_cX6_of 7 (o := 184) rfl) (gB_c lq_cX6_of q2_cX6_of 8 (o := 0) rfl) (gB_c lq_cX6_of q2_cX6_of 9 (o := 54) rfl) rfl
theorem dX6_of_74 : decode cX6_of 74 = .ok (.ireturn, 1) := dc_172 (gB_c lq_cX6_of q2_cX6_of 10 (o := 172) rfl)
abbrev r1_cX6_withLineInto : List Nat := [153, 0, 10, 29, 4, 21, 4, 120, 128, 62, 132, 4, 1, 167, 255, 216, 29, 172]
def a0_cX6_withLineInto : List Nat := [3, 62, 3, 54, 4, 21, 4, 42, 180, 0, 57, 162, 0, 37, 27, 21, 4, 122, 4, 126, 153, 0, 22, 42, 180, 0, 61, 21, 4, 46, 28, 126]
abbrev r0_cX6_withLineInto : List Nat := a0_cX6_withLineInto ++ r1_cX6_withLineInto
theorem lq_cX6_withLineInto : (cX6_withLineInto).data.toList.map UInt8.toNat = r0_cX6_withLineInto := by decide +kernel
theorem q1_cX6_withLineInto : ∀ i, (r0_cX6_withLineInto)[32 + i]? = (r1_cX6_withLineInto)[i]? := chn (A := a0_cX6_withLineInto) (B := r1_cX6_withLineInto) (n := 0) (k := 32) rfl (ch0 (R := r0_cX6_withLineInto))
theorem dX6_withLineInto_0 : decode cX6_withLineInto 0 = .ok (.iconst 0, 1) := dc_3 (gB_l lq_cX6_withLineInto (p := 0) (o := 3) rfl)
theorem dX6_withLineInto_1 : decode cX6_withLineInto 1 = .ok (.istore_n 3, 1) := dc_62 (gB_l lq_cX6_withLineInto (p := 1) (o := 62) rfl)
theorem dX6_withLineInto_2 : decode cX6_withLineInto 2 = .ok (.iconst 0, 1) := dc_3 (gB_l lq_cX6_withLineInto (p := 2) (o := 3) rfl)
theorem dX6_withLineInto_3 : decode cX6_withLineInto 3 = .ok (.istore 4, 2) := dc_54 (gB_l lq_cX6_withLineInto (p := 3) (o := 54) rfl) (gB_l lq_cX6_withLineInto (p := 4) (o := 4) rfl)
theorem dX6_withLineInto_5 : decode cX6_withLineInto 5 = .ok (.iload 4, 2) := dc_21 (gB_l lq_cX6_withLineInto (p := 5) (o := 21) rfl) (gB_l lq_cX6_withLineInto (p := 6) (o := 4) rfl)
theorem dX6_withLineInto_7 : decode cX6_withLineInto 7 = .ok (.aload_n 0, 1) := dc_42 (gB_l lq_cX6_withLineInto (p := 7) (o := 42) rfl)
theorem dX6_withLineInto_8 : decode cX6_withLineInto 8 = .ok (.getfield 57, 3) := dc_180 (gB_l lq_cX6_withLineInto (p := 8) (o := 180) rfl) (gB_l lq_cX6_withLineInto (p := 9) (o := 0) rfl) (gB_l lq_cX6_withLineInto (p := 10) (o := 57) rfl) rfl
theorem dX6_withLineInto_11 : decode cX6_withLineInto 11 = .ok (.if_icmp .ge 37, 3) := dc_162 (gB_l lq_cX6_withLineInto (p := 11) (o := 162) rfl) (gB_l lq_cX6_withLineInto (p := 12) (o := 0) rfl) (gB_l lq_cX6_withLineInto (p := 13) (o := 37) rfl) rfl
theorem dX6_withLineInto_14 : decode cX6_withLineInto 14 = .ok (.iload_n 1, 1) := dc_27 (gB_l lq_cX6_withLineInto (p := 14) (o := 27) rfl)
theorem dX6_withLineInto_15 : decode cX6_withLineInto 15 = .ok (.iload 4, 2) := dc_21 (gB_l lq_cX6_withLineInto (p := 15) (o := 21) rfl) (gB_l lq_cX6_withLineInto (p := 16) (o := 4) rfl)
theorem dX6_withLineInto_17 : decode cX6_withLineInto 17 = .ok (.ishr, 1) := dc_122 (gB_l lq_cX6_withLineInto (p := 17) (o := 122) rfl)
theorem dX6_withLineInto_18 : decode cX6_withLineInto 18 = .ok (.iconst 1, 1) := dc_4 (gB_l lq_cX6_withLineInto (p := 18) (o := 4) rfl)
theorem dX6_withLineInto_19 : decode cX6_withLineInto 19 = .ok (.iand, 1) := dc_126 (gB_l lq_cX6_withLineInto (p := 19) (o := 126) rfl)
theorem dX6_withLineInto_20 : decode cX6_withLineInto 20 = .ok (.ifCond .eq 22, 3) := dc_153 (gB_l lq_cX6_withLineInto (p := 20) (o := 153) rfl) (gB_l lq_cX6_withLineInto (p := 21) (o := 0) rfl) (gB_l lq_cX6_withLineInto (p := 22) (o := 22) rfl) rfl
theorem dX6_withLineInto_23 : decode cX6_withLineInto 23 = .ok (.aload_n 0, 1) := dc_42 (gB_l lq_cX6_withLineInto (p := 23) (o := 42) rfl)
theorem dX6_withLineInto_24 : decode cX6_withLineInto 24 = .ok (.getfield 61, 3) := dc_180 (gB_l lq_cX6_withLineInto (p := 24) (o := 180) rfl) (gB_l lq_cX6_withLineInto (p := 25) (o := 0) rfl) (gB_l lq_cX6_withLineInto (p := 26) (o := 61) rfl) rfl
theorem dX6_withLineInto_27 : decode cX6_withLineInto 27 = .ok (.iload 4, 2) := dc_21 (gB_l lq_cX6_withLineInto (p := 27) (o := 21) rfl) (gB_l lq_cX6_withLineInto (p := 28) (o := 4) rfl)
theorem dX6_withLineInto_29 : decode cX6_withLineInto 29 = .ok (.iaload, 1) := dc_46 (gB_l lq_cX6_withLineInto (p := 29) (o := 46) rfl)
theorem dX6_withLineInto_30 : decode cX6_withLineInto 30 = .ok (.iload_n 2, 1) := dc_28 (gB_l lq_cX6_withLineInto (p := 30) (o := 28) rfl)
theorem dX6_withLineInto_31 : decode cX6_withLineInto 31 = .ok (.iand, 1) := dc_126 (gB_l lq_cX6_withLineInto (p := 31) (o := 126) rfl)
theorem dX6_withLineInto_32 : decode cX6_withLineInto 32 = .ok (.ifCond .eq 10, 3) := dc_153 (gB_c lq_cX6_withLineInto q1_cX6_withLineInto 0 (o := 153) rfl) (gB_c lq_cX6_withLineInto q1_cX6_withLineInto 1 (o := 0) rfl) (gB_c lq_cX6_withLineInto q1_cX6_withLineInto 2 (o := 10) rfl) rfl
theorem dX6_withLineInto_35 : decode cX6_withLineInto 35 = .ok (.iload_n 3, 1) := dc_29 (gB_c lq_cX6_withLineInto q1_cX6_withLineInto 3 (o := 29) rfl)
theorem dX6_withLineInto_36 : decode cX6_withLineInto 36 = .ok (.iconst 1, 1) := dc_4 (gB_c lq_cX6_withLineInto q1_cX6_withLineInto 4 (o := 4) rfl)
theorem dX6_withLineInto_37 : decode cX6_withLineInto 37 = .ok (.iload 4, 2) := dc_21 (gB_c lq_cX6_withLineInto q1_cX6_withLineInto 5 (o := 21) rfl) (gB_c lq_cX6_withLineInto q1_cX6_withLineInto 6 (o := 4) rfl)
theorem dX6_withLineInto_39 : decode cX6_withLineInto 39 = .ok (.ishl, 1) := dc_120 (gB_c lq_cX6_withLineInto q1_cX6_withLineInto 7 (o := 120) rfl)
theorem dX6_withLineInto_40 : decode cX6_withLineInto 40 = .ok (.ior, 1) := dc_128 (gB_c lq_cX6_withLineInto q1_cX6_withLineInto 8 (o := 128) rfl)
theorem dX6_withLineInto_41 : decode cX6_withLineInto 41 = .ok (.istore_n 3, 1) := dc_62 (gB_c lq_cX6_withLineInto q1_cX6_withLineInto 9 (o := 62) rfl)
theorem dX6_withLineInto_42 : decode cX6_withLineInto 42 = .ok (.iinc 4 1, 3) := dc_132 (gB_c lq_cX6_withLineInto q1_cX6_withLineInto 10 (o := 132) rfl) (gB_c lq_cX6_withLineInto q1_cX6_withLineInto 11 (o := 4) rfl) (gB_c lq_cX6_withLineInto q1_cX6_withLineInto 12 (o := 1) rfl) rfl
theorem dX6_withLineInto_45 : decode cX6_withLineInto 45 = .ok (.goto (-40), 3) := dc_167 (gB_c lq_cX6_withLineInto q1_cX6_withLineInto 13 (o := 167) rfl) (gB_c lq_cX6_withLineInto q1_cX6_withLineInto 14 (o := 255) rfl) (gB_c lq_cX6_withLineInto q1_cX6_withLineInto 15 (o := 216) rfl) rfl
theorem dX6_withLineInto_48 : decode cX6_withLineInto 48 = .ok (.iload_n 3, 1) := dc_29 (gB_c lq_cX6_withLineInto q1_cX6_withLineInto 16 (o := 29) rfl)
theorem dX6_withLineInto_49 : decode cX6_withLineInto 49 = .ok (.ireturn, 1) := dc_172 (gB_c lq_cX6_withLineInto q1_cX6_withLineInto 17 (o := 172) rfl)
abbrev r0_cX7_blame : List Nat := [42, 27, 181, 0, 26, 42, 42, 180, 0, 101, 181, 0, 18, 3, 172]
theorem lq_cX7_blame : (cX7_blame).data.toList.map UInt8.toNat = r0_cX7_blame := by decide +kernel
theorem dX7_blame_0 : decode cX7_blame 0 = .ok (.aload_n 0, 1) := dc_42 (gB_l lq_cX7_blame (p := 0) (o := 42) rfl)
theorem dX7_blame_1 : decode cX7_blame 1 = .ok (.iload_n 1, 1) := dc_27 (gB_l lq_cX7_blame (p := 1) (o := 27) rfl)
theorem dX7_blame_2 : decode cX7_blame 2 = .ok (.putfield 26, 3) := dc_181 (gB_l lq_cX7_blame (p := 2) (o := 181) rfl) (gB_l lq_cX7_blame (p := 3) (o := 0) rfl) (gB_l lq_cX7_blame (p := 4) (o := 26) rfl) rfl
theorem dX7_blame_5 : decode cX7_blame 5 = .ok (.aload_n 0, 1) := dc_42 (gB_l lq_cX7_blame (p := 5) (o := 42) rfl)
theorem dX7_blame_6 : decode cX7_blame 6 = .ok (.aload_n 0, 1) := dc_42 (gB_l lq_cX7_blame (p := 6) (o := 42) rfl)
theorem dX7_blame_7 : decode cX7_blame 7 = .ok (.getfield 101, 3) := dc_180 (gB_l lq_cX7_blame (p := 7) (o := 180) rfl) (gB_l lq_cX7_blame (p := 8) (o := 0) rfl) (gB_l lq_cX7_blame (p := 9) (o := 101) rfl) rfl
theorem dX7_blame_10 : decode cX7_blame 10 = .ok (.putfield 18, 3) := dc_181 (gB_l lq_cX7_blame (p := 10) (o := 181) rfl) (gB_l lq_cX7_blame (p := 11) (o := 0) rfl) (gB_l lq_cX7_blame (p := 12) (o := 18) rfl) rfl
theorem dX7_blame_13 : decode cX7_blame 13 = .ok (.iconst 0, 1) := dc_3 (gB_l lq_cX7_blame (p := 13) (o := 3) rfl)
theorem dX7_blame_14 : decode cX7_blame 14 = .ok (.ireturn, 1) := dc_172 (gB_l lq_cX7_blame (p := 14) (o := 172) rfl)
abbrev r0_cX7_init : List Nat := [42, 183, 0, 3, 42, 187, 0, 9, 89, 183, 0, 11, 181, 0, 12, 42, 2, 181, 0, 18, 42, 43, 181, 0, 22, 177]
theorem lq_cX7_init : (cX7_init).data.toList.map UInt8.toNat = r0_cX7_init := by decide +kernel
theorem dX7_init_0 : decode cX7_init 0 = .ok (.aload_n 0, 1) := dc_42 (gB_l lq_cX7_init (p := 0) (o := 42) rfl)
theorem dX7_init_1 : decode cX7_init 1 = .ok (.invokespecial 3, 3) := dc_183 (gB_l lq_cX7_init (p := 1) (o := 183) rfl) (gB_l lq_cX7_init (p := 2) (o := 0) rfl) (gB_l lq_cX7_init (p := 3) (o := 3) rfl) rfl
theorem dX7_init_4 : decode cX7_init 4 = .ok (.aload_n 0, 1) := dc_42 (gB_l lq_cX7_init (p := 4) (o := 42) rfl)
theorem dX7_init_5 : decode cX7_init 5 = .ok (.new 9, 3) := dc_187 (gB_l lq_cX7_init (p := 5) (o := 187) rfl) (gB_l lq_cX7_init (p := 6) (o := 0) rfl) (gB_l lq_cX7_init (p := 7) (o := 9) rfl) rfl
theorem dX7_init_8 : decode cX7_init 8 = .ok (.dup, 1) := dc_89 (gB_l lq_cX7_init (p := 8) (o := 89) rfl)
theorem dX7_init_9 : decode cX7_init 9 = .ok (.invokespecial 11, 3) := dc_183 (gB_l lq_cX7_init (p := 9) (o := 183) rfl) (gB_l lq_cX7_init (p := 10) (o := 0) rfl) (gB_l lq_cX7_init (p := 11) (o := 11) rfl) rfl
theorem dX7_init_12 : decode cX7_init 12 = .ok (.putfield 12, 3) := dc_181 (gB_l lq_cX7_init (p := 12) (o := 181) rfl) (gB_l lq_cX7_init (p := 13) (o := 0) rfl) (gB_l lq_cX7_init (p := 14) (o := 12) rfl) rfl
theorem dX7_init_15 : decode cX7_init 15 = .ok (.aload_n 0, 1) := dc_42 (gB_l lq_cX7_init (p := 15) (o := 42) rfl)
theorem dX7_init_16 : decode cX7_init 16 = .ok (.iconst (-1), 1) := dc_2 (gB_l lq_cX7_init (p := 16) (o := 2) rfl)
theorem dX7_init_17 : decode cX7_init 17 = .ok (.putfield 18, 3) := dc_181 (gB_l lq_cX7_init (p := 17) (o := 181) rfl) (gB_l lq_cX7_init (p := 18) (o := 0) rfl) (gB_l lq_cX7_init (p := 19) (o := 18) rfl) rfl
theorem dX7_init_20 : decode cX7_init 20 = .ok (.aload_n 0, 1) := dc_42 (gB_l lq_cX7_init (p := 20) (o := 42) rfl)
theorem dX7_init_21 : decode cX7_init 21 = .ok (.aload_n 1, 1) := dc_43 (gB_l lq_cX7_init (p := 21) (o := 43) rfl)
theorem dX7_init_22 : decode cX7_init 22 = .ok (.putfield 22, 3) := dc_181 (gB_l lq_cX7_init (p := 22) (o := 181) rfl) (gB_l lq_cX7_init (p := 23) (o := 0) rfl) (gB_l lq_cX7_init (p := 24) (o := 22) rfl) rfl
theorem dX7_init_25 : decode cX7_init 25 = .ok (.return_, 1) := dc_177 (gB_l lq_cX7_init (p := 25) (o := 177) rfl)
abbrev r0_cX7_isBlank : List Nat := [26, 16, 32, 159, 0, 9, 26, 16, 10, 160, 0, 7, 4, 167, 0, 4, 3, 172]
theorem lq_cX7_isBlank : (cX7_isBlank).data.toList.map UInt8.toNat = r0_cX7_isBlank := by decide +kernel
theorem dX7_isBlank_0 : decode cX7_isBlank 0 = .ok (.iload_n 0, 1) := dc_26 (gB_l lq_cX7_isBlank (p := 0) (o := 26) rfl)
theorem dX7_isBlank_1 : decode cX7_isBlank 1 = .ok (.bipush 32, 2) := dc_16 (gB_l lq_cX7_isBlank (p := 1) (o := 16) rfl) (gB_l lq_cX7_isBlank (p := 2) (o := 32) rfl) rfl
theorem dX7_isBlank_3 : decode cX7_isBlank 3 = .ok (.if_icmp .eq 9, 3) := dc_159 (gB_l lq_cX7_isBlank (p := 3) (o := 159) rfl) (gB_l lq_cX7_isBlank (p := 4) (o := 0) rfl) (gB_l lq_cX7_isBlank (p := 5) (o := 9) rfl) rfl
theorem dX7_isBlank_6 : decode cX7_isBlank 6 = .ok (.iload_n 0, 1) := dc_26 (gB_l lq_cX7_isBlank (p := 6) (o := 26) rfl)
theorem dX7_isBlank_7 : decode cX7_isBlank 7 = .ok (.bipush 10, 2) := dc_16 (gB_l lq_cX7_isBlank (p := 7) (o := 16) rfl) (gB_l lq_cX7_isBlank (p := 8) (o := 10) rfl) rfl
theorem dX7_isBlank_9 : decode cX7_isBlank 9 = .ok (.if_icmp .ne 7, 3) := dc_160 (gB_l lq_cX7_isBlank (p := 9) (o := 160) rfl) (gB_l lq_cX7_isBlank (p := 10) (o := 0) rfl) (gB_l lq_cX7_isBlank (p := 11) (o := 7) rfl) rfl
theorem dX7_isBlank_12 : decode cX7_isBlank 12 = .ok (.iconst 1, 1) := dc_4 (gB_l lq_cX7_isBlank (p := 12) (o := 4) rfl)
theorem dX7_isBlank_13 : decode cX7_isBlank 13 = .ok (.goto 4, 3) := dc_167 (gB_l lq_cX7_isBlank (p := 13) (o := 167) rfl) (gB_l lq_cX7_isBlank (p := 14) (o := 0) rfl) (gB_l lq_cX7_isBlank (p := 15) (o := 4) rfl) rfl
theorem dX7_isBlank_16 : decode cX7_isBlank 16 = .ok (.iconst 0, 1) := dc_3 (gB_l lq_cX7_isBlank (p := 16) (o := 3) rfl)
theorem dX7_isBlank_17 : decode cX7_isBlank 17 = .ok (.ireturn, 1) := dc_172 (gB_l lq_cX7_isBlank (p := 17) (o := 172) rfl)
abbrev r3_cX7_isNumberFrom : List Nat := [172]
def a2_cX7_isNumberFrom : List Nat := [167, 255, 216, 42, 180, 0, 59, 27, 161, 0, 11, 42, 180, 0, 59, 28, 164, 0, 11, 42, 5, 182, 0, 51, 153, 0, 7, 4, 167, 0, 4, 3]
abbrev r2_cX7_isNumberFrom : List Nat := a2_cX7_isNumberFrom ++ r3_cX7_isNumberFrom
def a1_cX7_isNumberFrom : List Nat := [42, 17, 3, 232, 42, 180, 0, 59, 16, 10, 104, 42, 180, 0, 22, 29, 182, 0, 107, 96, 16, 48, 100, 184, 0, 124, 181, 0, 59, 132, 3, 1]
abbrev r1_cX7_isNumberFrom : List Nat := a1_cX7_isNumberFrom ++ r2_cX7_isNumberFrom
def a0_cX7_isNumberFrom : List Nat := [42, 180, 0, 93, 5, 159, 0, 9, 42, 4, 182, 0, 51, 172, 42, 3, 181, 0, 59, 42, 180, 0, 101, 62, 29, 42, 180, 0, 29, 162, 0, 38]
abbrev r0_cX7_isNumberFrom : List Nat := a0_cX7_isNumberFrom ++ r1_cX7_isNumberFrom
theorem lq_cX7_isNumberFrom : (cX7_isNumberFrom).data.toList.map UInt8.toNat = r0_cX7_isNumberFrom := by decide +kernel
theorem q1_cX7_isNumberFrom : ∀ i, (r0_cX7_isNumberFrom)[32 + i]? = (r1_cX7_isNumberFrom)[i]? := chn (A := a0_cX7_isNumberFrom) (B := r1_cX7_isNumberFrom) (n := 0) (k := 32) rfl (ch0 (R := r0_cX7_isNumberFrom))
theorem q2_cX7_isNumberFrom : ∀ i, (r0_cX7_isNumberFrom)[64 + i]? = (r2_cX7_isNumberFrom)[i]? := chn (A := a1_cX7_isNumberFrom) (B := r2_cX7_isNumberFrom) (n := 32) (k := 32) rfl q1_cX7_isNumberFrom
theorem q3_cX7_isNumberFrom : ∀ i, (r0_cX7_isNumberFrom)[96 + i]? = (r3_cX7_isNumberFrom)[i]? := chn (A := a2_cX7_isNumberFrom) (B := r3_cX7_isNumberFrom) (n := 64) (k := 32) rfl q2_cX7_isNumberFrom
theorem dX7_isNumberFrom_0 : decode cX7_isNumberFrom 0 = .ok (.aload_n 0, 1) := dc_42 (gB_l lq_cX7_isNumberFrom (p := 0) (o := 42) rfl)
theorem dX7_isNumberFrom_1 : decode cX7_isNumberFrom 1 = .ok (.getfield 93, 3) := dc_180 (gB_l lq_cX7_isNumberFrom (p := 1) (o := 180) rfl) (gB_l lq_cX7_isNumberFrom (p := 2) (o := 0) rfl) (gB_l lq_cX7_isNumberFrom (p := 3) (o := 93) rfl) rfl
theorem dX7_isNumberFrom_4 : decode cX7_isNumberFrom 4 = .ok (.iconst 2, 1) := dc_5 (gB_l lq_cX7_isNumberFrom (p := 4) (o := 5) rfl)
theorem dX7_isNumberFrom_5 : decode cX7_isNumberFrom 5 = .ok (.if_icmp .eq 9, 3) := dc_159 (gB_l lq_cX7_isNumberFrom (p := 5) (o := 159) rfl) (gB_l lq_cX7_isNumberFrom (p := 6) (o := 0) rfl) (gB_l lq_cX7_isNumberFrom (p := 7) (o := 9) rfl) rfl
theorem dX7_isNumberFrom_8 : decode cX7_isNumberFrom 8 = .ok (.aload_n 0, 1) := dc_42 (gB_l lq_cX7_isNumberFrom (p := 8) (o := 42) rfl)
theorem dX7_isNumberFrom_9 : decode cX7_isNumberFrom 9 = .ok (.iconst 1, 1) := dc_4 (gB_l lq_cX7_isNumberFrom (p := 9) (o := 4) rfl)
theorem dX7_isNumberFrom_10 : decode cX7_isNumberFrom 10 = .ok (.invokevirtual 51, 3) := dc_182 (gB_l lq_cX7_isNumberFrom (p := 10) (o := 182) rfl) (gB_l lq_cX7_isNumberFrom (p := 11) (o := 0) rfl) (gB_l lq_cX7_isNumberFrom (p := 12) (o := 51) rfl) rfl
theorem dX7_isNumberFrom_13 : decode cX7_isNumberFrom 13 = .ok (.ireturn, 1) := dc_172 (gB_l lq_cX7_isNumberFrom (p := 13) (o := 172) rfl)
theorem dX7_isNumberFrom_14 : decode cX7_isNumberFrom 14 = .ok (.aload_n 0, 1) := dc_42 (gB_l lq_cX7_isNumberFrom (p := 14) (o := 42) rfl)
theorem dX7_isNumberFrom_15 : decode cX7_isNumberFrom 15 = .ok (.iconst 0, 1) := dc_3 (gB_l lq_cX7_isNumberFrom (p := 15) (o := 3) rfl)
theorem dX7_isNumberFrom_16 : decode cX7_isNumberFrom 16 = .ok (.putfield 59, 3) := dc_181 (gB_l lq_cX7_isNumberFrom (p := 16) (o := 181) rfl) (gB_l lq_cX7_isNumberFrom (p := 17) (o := 0) rfl) (gB_l lq_cX7_isNumberFrom (p := 18) (o := 59) rfl) rfl
theorem dX7_isNumberFrom_19 : decode cX7_isNumberFrom 19 = .ok (.aload_n 0, 1) := dc_42 (gB_l lq_cX7_isNumberFrom (p := 19) (o := 42) rfl)
theorem dX7_isNumberFrom_20 : decode cX7_isNumberFrom 20 = .ok (.getfield 101, 3) := dc_180 (gB_l lq_cX7_isNumberFrom (p := 20) (o := 180) rfl) (gB_l lq_cX7_isNumberFrom (p := 21) (o := 0) rfl) (gB_l lq_cX7_isNumberFrom (p := 22) (o := 101) rfl) rfl
theorem dX7_isNumberFrom_23 : decode cX7_isNumberFrom 23 = .ok (.istore_n 3, 1) := dc_62 (gB_l lq_cX7_isNumberFrom (p := 23) (o := 62) rfl)
theorem dX7_isNumberFrom_24 : decode cX7_isNumberFrom 24 = .ok (.iload_n 3, 1) := dc_29 (gB_l lq_cX7_isNumberFrom (p := 24) (o := 29) rfl)
theorem dX7_isNumberFrom_25 : decode cX7_isNumberFrom 25 = .ok (.aload_n 0, 1) := dc_42 (gB_l lq_cX7_isNumberFrom (p := 25) (o := 42) rfl)
theorem dX7_isNumberFrom_26 : decode cX7_isNumberFrom 26 = .ok (.getfield 29, 3) := dc_180 (gB_l lq_cX7_isNumberFrom (p := 26) (o := 180) rfl) (gB_l lq_cX7_isNumberFrom (p := 27) (o := 0) rfl) (gB_l lq_cX7_isNumberFrom (p := 28) (o := 29) rfl) rfl
theorem dX7_isNumberFrom_29 : decode cX7_isNumberFrom 29 = .ok (.if_icmp .ge 38, 3) := dc_162 (gB_l lq_cX7_isNumberFrom (p := 29) (o := 162) rfl) (gB_l lq_cX7_isNumberFrom (p := 30) (o := 0) rfl) (gB_l lq_cX7_isNumberFrom (p := 31) (o := 38) rfl) rfl
theorem dX7_isNumberFrom_32 : decode cX7_isNumberFrom 32 = .ok (.aload_n 0, 1) := dc_42 (gB_c lq_cX7_isNumberFrom q1_cX7_isNumberFrom 0 (o := 42) rfl)
theorem dX7_isNumberFrom_33 : decode cX7_isNumberFrom 33 = .ok (.sipush 1000, 3) := dc_17 (gB_c lq_cX7_isNumberFrom q1_cX7_isNumberFrom 1 (o := 17) rfl) (gB_c lq_cX7_isNumberFrom q1_cX7_isNumberFrom 2 (o := 3) rfl) (gB_c lq_cX7_isNumberFrom q1_cX7_isNumberFrom 3 (o := 232) rfl) rfl
theorem dX7_isNumberFrom_36 : decode cX7_isNumberFrom 36 = .ok (.aload_n 0, 1) := dc_42 (gB_c lq_cX7_isNumberFrom q1_cX7_isNumberFrom 4 (o := 42) rfl)
theorem dX7_isNumberFrom_37 : decode cX7_isNumberFrom 37 = .ok (.getfield 59, 3) := dc_180 (gB_c lq_cX7_isNumberFrom q1_cX7_isNumberFrom 5 (o := 180) rfl) (gB_c lq_cX7_isNumberFrom q1_cX7_isNumberFrom 6 (o := 0) rfl) (gB_c lq_cX7_isNumberFrom q1_cX7_isNumberFrom 7 (o := 59) rfl) rfl
theorem dX7_isNumberFrom_40 : decode cX7_isNumberFrom 40 = .ok (.bipush 10, 2) := dc_16 (gB_c lq_cX7_isNumberFrom q1_cX7_isNumberFrom 8 (o := 16) rfl) (gB_c lq_cX7_isNumberFrom q1_cX7_isNumberFrom 9 (o := 10) rfl) rfl
theorem dX7_isNumberFrom_42 : decode cX7_isNumberFrom 42 = .ok (.imul, 1) := dc_104 (gB_c lq_cX7_isNumberFrom q1_cX7_isNumberFrom 10 (o := 104) rfl)
theorem dX7_isNumberFrom_43 : decode cX7_isNumberFrom 43 = .ok (.aload_n 0, 1) := dc_42 (gB_c lq_cX7_isNumberFrom q1_cX7_isNumberFrom 11 (o := 42) rfl)
theorem dX7_isNumberFrom_44 : decode cX7_isNumberFrom 44 = .ok (.getfield 22, 3) := dc_180 (gB_c lq_cX7_isNumberFrom q1_cX7_isNumberFrom 12 (o := 180) rfl) (gB_c lq_cX7_isNumberFrom q1_cX7_isNumberFrom 13 (o := 0) rfl) (gB_c lq_cX7_isNumberFrom q1_cX7_isNumberFrom 14 (o := 22) rfl) rfl
theorem dX7_isNumberFrom_47 : decode cX7_isNumberFrom 47 = .ok (.iload_n 3, 1) := dc_29 (gB_c lq_cX7_isNumberFrom q1_cX7_isNumberFrom 15 (o := 29) rfl)
theorem dX7_isNumberFrom_48 : decode cX7_isNumberFrom 48 = .ok (.invokevirtual 107, 3) := dc_182 (gB_c lq_cX7_isNumberFrom q1_cX7_isNumberFrom 16 (o := 182) rfl) (gB_c lq_cX7_isNumberFrom q1_cX7_isNumberFrom 17 (o := 0) rfl) (gB_c lq_cX7_isNumberFrom q1_cX7_isNumberFrom 18 (o := 107) rfl) rfl
theorem dX7_isNumberFrom_51 : decode cX7_isNumberFrom 51 = .ok (.iadd, 1) := dc_96 (gB_c lq_cX7_isNumberFrom q1_cX7_isNumberFrom 19 (o := 96) rfl)
theorem dX7_isNumberFrom_52 : decode cX7_isNumberFrom 52 = .ok (.bipush 48, 2) := dc_16 (gB_c lq_cX7_isNumberFrom q1_cX7_isNumberFrom 20 (o := 16) rfl) (gB_c lq_cX7_isNumberFrom q1_cX7_isNumberFrom 21 (o := 48) rfl) rfl
theorem dX7_isNumberFrom_54 : decode cX7_isNumberFrom 54 = .ok (.isub, 1) := dc_100 (gB_c lq_cX7_isNumberFrom q1_cX7_isNumberFrom 22 (o := 100) rfl)
theorem dX7_isNumberFrom_55 : decode cX7_isNumberFrom 55 = .ok (.invokestatic 124, 3) := dc_184 (gB_c lq_cX7_isNumberFrom q1_cX7_isNumberFrom 23 (o := 184) rfl) (gB_c lq_cX7_isNumberFrom q1_cX7_isNumberFrom 24 (o := 0) rfl) (gB_c lq_cX7_isNumberFrom q1_cX7_isNumberFrom 25 (o := 124) rfl) rfl
theorem dX7_isNumberFrom_58 : decode cX7_isNumberFrom 58 = .ok (.putfield 59, 3) := dc_181 (gB_c lq_cX7_isNumberFrom q1_cX7_isNumberFrom 26 (o := 181) rfl) (gB_c lq_cX7_isNumberFrom q1_cX7_isNumberFrom 27 (o := 0) rfl) (gB_c lq_cX7_isNumberFrom q1_cX7_isNumberFrom 28 (o := 59) rfl) rfl
theorem dX7_isNumberFrom_61 : decode cX7_isNumberFrom 61 = .ok (.iinc 3 1, 3) := dc_132 (gB_c lq_cX7_isNumberFrom q1_cX7_isNumberFrom 29 (o := 132) rfl) (gB_c lq_cX7_isNumberFrom q1_cX7_isNumberFrom 30 (o := 3) rfl) (gB_c lq_cX7_isNumberFrom q1_cX7_isNumberFrom 31 (o := 1) rfl) rfl
theorem dX7_isNumberFrom_64 : decode cX7_isNumberFrom 64 = .ok (.goto (-40), 3) := dc_167 (gB_c lq_cX7_isNumberFrom q2_cX7_isNumberFrom 0 (o := 167) rfl) (gB_c lq_cX7_isNumberFrom q2_cX7_isNumberFrom 1 (o := 255) rfl) (gB_c lq_cX7_isNumberFrom q2_cX7_isNumberFrom 2 (o := 216) rfl) rfl
theorem dX7_isNumberFrom_67 : decode cX7_isNumberFrom 67 = .ok (.aload_n 0, 1) := dc_42 (gB_c lq_cX7_isNumberFrom q2_cX7_isNumberFrom 3 (o := 42) rfl)
theorem dX7_isNumberFrom_68 : decode cX7_isNumberFrom 68 = .ok (.getfield 59, 3) := dc_180 (gB_c lq_cX7_isNumberFrom q2_cX7_isNumberFrom 4 (o := 180) rfl) (gB_c lq_cX7_isNumberFrom q2_cX7_isNumberFrom 5 (o := 0) rfl) (gB_c lq_cX7_isNumberFrom q2_cX7_isNumberFrom 6 (o := 59) rfl) rfl
theorem dX7_isNumberFrom_71 : decode cX7_isNumberFrom 71 = .ok (.iload_n 1, 1) := dc_27 (gB_c lq_cX7_isNumberFrom q2_cX7_isNumberFrom 7 (o := 27) rfl)
theorem dX7_isNumberFrom_72 : decode cX7_isNumberFrom 72 = .ok (.if_icmp .lt 11, 3) := dc_161 (gB_c lq_cX7_isNumberFrom q2_cX7_isNumberFrom 8 (o := 161) rfl) (gB_c lq_cX7_isNumberFrom q2_cX7_isNumberFrom 9 (o := 0) rfl) (gB_c lq_cX7_isNumberFrom q2_cX7_isNumberFrom 10 (o := 11) rfl) rfl
theorem dX7_isNumberFrom_75 : decode cX7_isNumberFrom 75 = .ok (.aload_n 0, 1) := dc_42 (gB_c lq_cX7_isNumberFrom q2_cX7_isNumberFrom 11 (o := 42) rfl)
theorem dX7_isNumberFrom_76 : decode cX7_isNumberFrom 76 = .ok (.getfield 59, 3) := dc_180 (gB_c lq_cX7_isNumberFrom q2_cX7_isNumberFrom 12 (o := 180) rfl) (gB_c lq_cX7_isNumberFrom q2_cX7_isNumberFrom 13 (o := 0) rfl) (gB_c lq_cX7_isNumberFrom q2_cX7_isNumberFrom 14 (o := 59) rfl) rfl
theorem dX7_isNumberFrom_79 : decode cX7_isNumberFrom 79 = .ok (.iload_n 2, 1) := dc_28 (gB_c lq_cX7_isNumberFrom q2_cX7_isNumberFrom 15 (o := 28) rfl)
theorem dX7_isNumberFrom_80 : decode cX7_isNumberFrom 80 = .ok (.if_icmp .le 11, 3) := dc_164 (gB_c lq_cX7_isNumberFrom q2_cX7_isNumberFrom 16 (o := 164) rfl) (gB_c lq_cX7_isNumberFrom q2_cX7_isNumberFrom 17 (o := 0) rfl) (gB_c lq_cX7_isNumberFrom q2_cX7_isNumberFrom 18 (o := 11) rfl) rfl
theorem dX7_isNumberFrom_83 : decode cX7_isNumberFrom 83 = .ok (.aload_n 0, 1) := dc_42 (gB_c lq_cX7_isNumberFrom q2_cX7_isNumberFrom 19 (o := 42) rfl)
theorem dX7_isNumberFrom_84 : decode cX7_isNumberFrom 84 = .ok (.iconst 2, 1) := dc_5 (gB_c lq_cX7_isNumberFrom q2_cX7_isNumberFrom 20 (o := 5) rfl)
theorem dX7_isNumberFrom_85 : decode cX7_isNumberFrom 85 = .ok (.invokevirtual 51, 3) := dc_182 (gB_c lq_cX7_isNumberFrom q2_cX7_isNumberFrom 21 (o := 182) rfl) (gB_c lq_cX7_isNumberFrom q2_cX7_isNumberFrom 22 (o := 0) rfl) (gB_c lq_cX7_isNumberFrom q2_cX7_isNumberFrom 23 (o := 51) rfl) rfl
theorem dX7_isNumberFrom_88 : decode cX7_isNumberFrom 88 = .ok (.ifCond .eq 7, 3) := dc_153 (gB_c lq_cX7_isNumberFrom q2_cX7_isNumberFrom 24 (o := 153) rfl) (gB_c lq_cX7_isNumberFrom q2_cX7_isNumberFrom 25 (o := 0) rfl) (gB_c lq_cX7_isNumberFrom q2_cX7_isNumberFrom 26 (o := 7) rfl) rfl
theorem dX7_isNumberFrom_91 : decode cX7_isNumberFrom 91 = .ok (.iconst 1, 1) := dc_4 (gB_c lq_cX7_isNumberFrom q2_cX7_isNumberFrom 27 (o := 4) rfl)
theorem dX7_isNumberFrom_92 : decode cX7_isNumberFrom 92 = .ok (.goto 4, 3) := dc_167 (gB_c lq_cX7_isNumberFrom q2_cX7_isNumberFrom 28 (o := 167) rfl) (gB_c lq_cX7_isNumberFrom q2_cX7_isNumberFrom 29 (o := 0) rfl) (gB_c lq_cX7_isNumberFrom q2_cX7_isNumberFrom 30 (o := 4) rfl) rfl
theorem dX7_isNumberFrom_95 : decode cX7_isNumberFrom 95 = .ok (.iconst 0, 1) := dc_3 (gB_c lq_cX7_isNumberFrom q2_cX7_isNumberFrom 31 (o := 3) rfl)
theorem dX7_isNumberFrom_96 : decode cX7_isNumberFrom 96 = .ok (.ireturn, 1) := dc_172 (gB_c lq_cX7_isNumberFrom q3_cX7_isNumberFrom 0 (o := 172) rfl)
abbrev r0_cX7_isPoint : List Nat := [42, 3, 42, 180, 0, 12, 180, 0, 104, 4, 100, 182, 0, 55, 172]
theorem lq_cX7_isPoint : (cX7_isPoint).data.toList.map UInt8.toNat = r0_cX7_isPoint := by decide +kernel
theorem dX7_isPoint_0 : decode cX7_isPoint 0 = .ok (.aload_n 0, 1) := dc_42 (gB_l lq_cX7_isPoint (p := 0) (o := 42) rfl)
theorem dX7_isPoint_1 : decode cX7_isPoint 1 = .ok (.iconst 0, 1) := dc_3 (gB_l lq_cX7_isPoint (p := 1) (o := 3) rfl)
theorem dX7_isPoint_2 : decode cX7_isPoint 2 = .ok (.aload_n 0, 1) := dc_42 (gB_l lq_cX7_isPoint (p := 2) (o := 42) rfl)
theorem dX7_isPoint_3 : decode cX7_isPoint 3 = .ok (.getfield 12, 3) := dc_180 (gB_l lq_cX7_isPoint (p := 3) (o := 180) rfl) (gB_l lq_cX7_isPoint (p := 4) (o := 0) rfl) (gB_l lq_cX7_isPoint (p := 5) (o := 12) rfl) rfl
theorem dX7_isPoint_6 : decode cX7_isPoint 6 = .ok (.getfield 104, 3) := dc_180 (gB_l lq_cX7_isPoint (p := 6) (o := 180) rfl) (gB_l lq_cX7_isPoint (p := 7) (o := 0) rfl) (gB_l lq_cX7_isPoint (p := 8) (o := 104) rfl) rfl
theorem dX7_isPoint_9 : decode cX7_isPoint 9 = .ok (.iconst 1, 1) := dc_4 (gB_l lq_cX7_isPoint (p := 9) (o := 4) rfl)
theorem dX7_isPoint_10 : decode cX7_isPoint 10 = .ok (.isub, 1) := dc_100 (gB_l lq_cX7_isPoint (p := 10) (o := 100) rfl)
theorem dX7_isPoint_11 : decode cX7_isPoint 11 = .ok (.invokevirtual 55, 3) := dc_182 (gB_l lq_cX7_isPoint (p := 11) (o := 182) rfl) (gB_l lq_cX7_isPoint (p := 12) (o := 0) rfl) (gB_l lq_cX7_isPoint (p := 13) (o := 55) rfl) rfl
theorem dX7_isPoint_14 : decode cX7_isPoint 14 = .ok (.ireturn, 1) := dc_172 (gB_l lq_cX7_isPoint (p := 14) (o := 172) rfl)
abbrev r0_cX7_isSign : List Nat := [42, 180, 0, 93, 6, 160, 0, 22, 42, 180, 0, 22, 42, 180, 0, 101, 182, 0, 107, 27, 160, 0, 7, 4, 167, 0, 4, 3, 172]
theorem lq_cX7_isSign : (cX7_isSign).data.toList.map UInt8.toNat = r0_cX7_isSign := by decide +kernel
theorem dX7_isSign_0 : decode cX7_isSign 0 = .ok (.aload_n 0, 1) := dc_42 (gB_l lq_cX7_isSign (p := 0) (o := 42) rfl)
theorem dX7_isSign_1 : decode cX7_isSign 1 = .ok (.getfield 93, 3) := dc_180 (gB_l lq_cX7_isSign (p := 1) (o := 180) rfl) (gB_l lq_cX7_isSign (p := 2) (o := 0) rfl) (gB_l lq_cX7_isSign (p := 3) (o := 93) rfl) rfl
theorem dX7_isSign_4 : decode cX7_isSign 4 = .ok (.iconst 3, 1) := dc_6 (gB_l lq_cX7_isSign (p := 4) (o := 6) rfl)
theorem dX7_isSign_5 : decode cX7_isSign 5 = .ok (.if_icmp .ne 22, 3) := dc_160 (gB_l lq_cX7_isSign (p := 5) (o := 160) rfl) (gB_l lq_cX7_isSign (p := 6) (o := 0) rfl) (gB_l lq_cX7_isSign (p := 7) (o := 22) rfl) rfl
theorem dX7_isSign_8 : decode cX7_isSign 8 = .ok (.aload_n 0, 1) := dc_42 (gB_l lq_cX7_isSign (p := 8) (o := 42) rfl)
theorem dX7_isSign_9 : decode cX7_isSign 9 = .ok (.getfield 22, 3) := dc_180 (gB_l lq_cX7_isSign (p := 9) (o := 180) rfl) (gB_l lq_cX7_isSign (p := 10) (o := 0) rfl) (gB_l lq_cX7_isSign (p := 11) (o := 22) rfl) rfl
theorem dX7_isSign_12 : decode cX7_isSign 12 = .ok (.aload_n 0, 1) := dc_42 (gB_l lq_cX7_isSign (p := 12) (o := 42) rfl)
theorem dX7_isSign_13 : decode cX7_isSign 13 = .ok (.getfield 101, 3) := dc_180 (gB_l lq_cX7_isSign (p := 13) (o := 180) rfl) (gB_l lq_cX7_isSign (p := 14) (o := 0) rfl) (gB_l lq_cX7_isSign (p := 15) (o := 101) rfl) rfl
theorem dX7_isSign_16 : decode cX7_isSign 16 = .ok (.invokevirtual 107, 3) := dc_182 (gB_l lq_cX7_isSign (p := 16) (o := 182) rfl) (gB_l lq_cX7_isSign (p := 17) (o := 0) rfl) (gB_l lq_cX7_isSign (p := 18) (o := 107) rfl) rfl
theorem dX7_isSign_19 : decode cX7_isSign 19 = .ok (.iload_n 1, 1) := dc_27 (gB_l lq_cX7_isSign (p := 19) (o := 27) rfl)
theorem dX7_isSign_20 : decode cX7_isSign 20 = .ok (.if_icmp .ne 7, 3) := dc_160 (gB_l lq_cX7_isSign (p := 20) (o := 160) rfl) (gB_l lq_cX7_isSign (p := 21) (o := 0) rfl) (gB_l lq_cX7_isSign (p := 22) (o := 7) rfl) rfl
theorem dX7_isSign_23 : decode cX7_isSign 23 = .ok (.iconst 1, 1) := dc_4 (gB_l lq_cX7_isSign (p := 23) (o := 4) rfl)
theorem dX7_isSign_24 : decode cX7_isSign 24 = .ok (.goto 4, 3) := dc_167 (gB_l lq_cX7_isSign (p := 24) (o := 167) rfl) (gB_l lq_cX7_isSign (p := 25) (o := 0) rfl) (gB_l lq_cX7_isSign (p := 26) (o := 4) rfl) rfl
theorem dX7_isSign_27 : decode cX7_isSign 27 = .ok (.iconst 0, 1) := dc_3 (gB_l lq_cX7_isSign (p := 27) (o := 3) rfl)
theorem dX7_isSign_28 : decode cX7_isSign 28 = .ok (.ireturn, 1) := dc_172 (gB_l lq_cX7_isSign (p := 28) (o := 172) rfl)
abbrev r2_cX7_isWord : List Nat := [222, 4, 172]
def a1_cX7_isWord : List Nat := [129, 162, 0, 32, 42, 180, 0, 22, 42, 180, 0, 101, 28, 96, 182, 0, 107, 43, 28, 182, 0, 134, 159, 0, 5, 3, 172, 132, 2, 1, 167, 255]
abbrev r1_cX7_isWord : List Nat := a1_cX7_isWord ++ r2_cX7_isWord
def a0_cX7_isWord : List Nat := [42, 180, 0, 93, 4, 160, 0, 19, 42, 180, 0, 29, 42, 180, 0, 101, 100, 43, 182, 0, 129, 159, 0, 5, 3, 172, 3, 61, 28, 43, 182, 0]
abbrev r0_cX7_isWord : List Nat := a0_cX7_isWord ++ r1_cX7_isWord
theorem lq_cX7_isWord : (cX7_isWord).data.toList.map UInt8.toNat = r0_cX7_isWord := by decide +kernel
theorem q1_cX7_isWord : ∀ i, (r0_cX7_isWord)[32 + i]? = (r1_cX7_isWord)[i]? := chn (A := a0_cX7_isWord) (B := r1_cX7_isWord) (n := 0) (k := 32) rfl (ch0 (R := r0_cX7_isWord))
theorem q2_cX7_isWord : ∀ i, (r0_cX7_isWord)[64 + i]? = (r2_cX7_isWord)[i]? := chn (A := a1_cX7_isWord) (B := r2_cX7_isWord) (n := 32) (k := 32) rfl q1_cX7_isWord
theorem dX7_isWord_0 : decode cX7_isWord 0 = .ok (.aload_n 0, 1) := dc_42 (gB_l lq_cX7_isWord (p := 0) (o := 42) rfl)
theorem dX7_isWord_1 : decode cX7_isWord 1 = .ok (.getfield 93, 3) := dc_180 (gB_l lq_cX7_isWord (p := 1) (o := 180) rfl) (gB_l lq_cX7_isWord (p := 2) (o := 0) rfl) (gB_l lq_cX7_isWord (p := 3) (o := 93) rfl) rfl
theorem dX7_isWord_4 : decode cX7_isWord 4 = .ok (.iconst 1, 1) := dc_4 (gB_l lq_cX7_isWord (p := 4) (o := 4) rfl)
theorem dX7_isWord_5 : decode cX7_isWord 5 = .ok (.if_icmp .ne 19, 3) := dc_160 (gB_l lq_cX7_isWord (p := 5) (o := 160) rfl) (gB_l lq_cX7_isWord (p := 6) (o := 0) rfl) (gB_l lq_cX7_isWord (p := 7) (o := 19) rfl) rfl
theorem dX7_isWord_8 : decode cX7_isWord 8 = .ok (.aload_n 0, 1) := dc_42 (gB_l lq_cX7_isWord (p := 8) (o := 42) rfl)
theorem dX7_isWord_9 : decode cX7_isWord 9 = .ok (.getfield 29, 3) := dc_180 (gB_l lq_cX7_isWord (p := 9) (o := 180) rfl) (gB_l lq_cX7_isWord (p := 10) (o := 0) rfl) (gB_l lq_cX7_isWord (p := 11) (o := 29) rfl) rfl
theorem dX7_isWord_12 : decode cX7_isWord 12 = .ok (.aload_n 0, 1) := dc_42 (gB_l lq_cX7_isWord (p := 12) (o := 42) rfl)
theorem dX7_isWord_13 : decode cX7_isWord 13 = .ok (.getfield 101, 3) := dc_180 (gB_l lq_cX7_isWord (p := 13) (o := 180) rfl) (gB_l lq_cX7_isWord (p := 14) (o := 0) rfl) (gB_l lq_cX7_isWord (p := 15) (o := 101) rfl) rfl
theorem dX7_isWord_16 : decode cX7_isWord 16 = .ok (.isub, 1) := dc_100 (gB_l lq_cX7_isWord (p := 16) (o := 100) rfl)
theorem dX7_isWord_17 : decode cX7_isWord 17 = .ok (.aload_n 1, 1) := dc_43 (gB_l lq_cX7_isWord (p := 17) (o := 43) rfl)
theorem dX7_isWord_18 : decode cX7_isWord 18 = .ok (.invokevirtual 129, 3) := dc_182 (gB_l lq_cX7_isWord (p := 18) (o := 182) rfl) (gB_l lq_cX7_isWord (p := 19) (o := 0) rfl) (gB_l lq_cX7_isWord (p := 20) (o := 129) rfl) rfl
theorem dX7_isWord_21 : decode cX7_isWord 21 = .ok (.if_icmp .eq 5, 3) := dc_159 (gB_l lq_cX7_isWord (p := 21) (o := 159) rfl) (gB_l lq_cX7_isWord (p := 22) (o := 0) rfl) (gB_l lq_cX7_isWord (p := 23) (o := 5) rfl) rfl
theorem dX7_isWord_24 : decode cX7_isWord 24 = .ok (.iconst 0, 1) := dc_3 (gB_l lq_cX7_isWord (p := 24) (o := 3) rfl)
theorem dX7_isWord_25 : decode cX7_isWord 25 = .ok (.ireturn, 1) := dc_172 (gB_l lq_cX7_isWord (p := 25) (o := 172) rfl)
theorem dX7_isWord_26 : decode cX7_isWord 26 = .ok (.iconst 0, 1) := dc_3 (gB_l lq_cX7_isWord (p := 26) (o := 3) rfl)
theorem dX7_isWord_27 : decode cX7_isWord 27 = .ok (.istore_n 2, 1) := dc_61 (gB_l lq_cX7_isWord (p := 27) (o := 61) rfl)
theorem dX7_isWord_28 : decode cX7_isWord 28 = .ok (.iload_n 2, 1) := dc_28 (gB_l lq_cX7_isWord (p := 28) (o := 28) rfl)
theorem dX7_isWord_29 : decode cX7_isWord 29 = .ok (.aload_n 1, 1) := dc_43 (gB_l lq_cX7_isWord (p := 29) (o := 43) rfl)
theorem dX7_isWord_30 : decode cX7_isWord 30 = .ok (.invokevirtual 129, 3) := dc_182 (gB_l lq_cX7_isWord (p := 30) (o := 182) rfl) (gB_l lq_cX7_isWord (p := 31) (o := 0) rfl) (gB_c lq_cX7_isWord q1_cX7_isWord 0 (o := 129) rfl) rfl
theorem dX7_isWord_33 : decode cX7_isWord 33 = .ok (.if_icmp .ge 32, 3) := dc_162 (gB_c lq_cX7_isWord q1_cX7_isWord 1 (o := 162) rfl) (gB_c lq_cX7_isWord q1_cX7_isWord 2 (o := 0) rfl) (gB_c lq_cX7_isWord q1_cX7_isWord 3 (o := 32) rfl) rfl
theorem dX7_isWord_36 : decode cX7_isWord 36 = .ok (.aload_n 0, 1) := dc_42 (gB_c lq_cX7_isWord q1_cX7_isWord 4 (o := 42) rfl)
theorem dX7_isWord_37 : decode cX7_isWord 37 = .ok (.getfield 22, 3) := dc_180 (gB_c lq_cX7_isWord q1_cX7_isWord 5 (o := 180) rfl) (gB_c lq_cX7_isWord q1_cX7_isWord 6 (o := 0) rfl) (gB_c lq_cX7_isWord q1_cX7_isWord 7 (o := 22) rfl) rfl
theorem dX7_isWord_40 : decode cX7_isWord 40 = .ok (.aload_n 0, 1) := dc_42 (gB_c lq_cX7_isWord q1_cX7_isWord 8 (o := 42) rfl)
theorem dX7_isWord_41 : decode cX7_isWord 41 = .ok (.getfield 101, 3) := dc_180 (gB_c lq_cX7_isWord q1_cX7_isWord 9 (o := 180) rfl) (gB_c lq_cX7_isWord q1_cX7_isWord 10 (o := 0) rfl) (gB_c lq_cX7_isWord q1_cX7_isWord 11 (o := 101) rfl) rfl
theorem dX7_isWord_44 : decode cX7_isWord 44 = .ok (.iload_n 2, 1) := dc_28 (gB_c lq_cX7_isWord q1_cX7_isWord 12 (o := 28) rfl)
theorem dX7_isWord_45 : decode cX7_isWord 45 = .ok (.iadd, 1) := dc_96 (gB_c lq_cX7_isWord q1_cX7_isWord 13 (o := 96) rfl)
theorem dX7_isWord_46 : decode cX7_isWord 46 = .ok (.invokevirtual 107, 3) := dc_182 (gB_c lq_cX7_isWord q1_cX7_isWord 14 (o := 182) rfl) (gB_c lq_cX7_isWord q1_cX7_isWord 15 (o := 0) rfl) (gB_c lq_cX7_isWord q1_cX7_isWord 16 (o := 107) rfl) rfl
theorem dX7_isWord_49 : decode cX7_isWord 49 = .ok (.aload_n 1, 1) := dc_43 (gB_c lq_cX7_isWord q1_cX7_isWord 17 (o := 43) rfl)
theorem dX7_isWord_50 : decode cX7_isWord 50 = .ok (.iload_n 2, 1) := dc_28 (gB_c lq_cX7_isWord q1_cX7_isWord 18 (o := 28) rfl)
theorem dX7_isWord_51 : decode cX7_isWord 51 = .ok (.invokevirtual 134, 3) := dc_182 (gB_c lq_cX7_isWord q1_cX7_isWord 19 (o := 182) rfl) (gB_c lq_cX7_isWord q1_cX7_isWord 20 (o := 0) rfl) (gB_c lq_cX7_isWord q1_cX7_isWord 21 (o := 134) rfl) rfl
theorem dX7_isWord_54 : decode cX7_isWord 54 = .ok (.if_icmp .eq 5, 3) := dc_159 (gB_c lq_cX7_isWord q1_cX7_isWord 22 (o := 159) rfl) (gB_c lq_cX7_isWord q1_cX7_isWord 23 (o := 0) rfl) (gB_c lq_cX7_isWord q1_cX7_isWord 24 (o := 5) rfl) rfl
theorem dX7_isWord_57 : decode cX7_isWord 57 = .ok (.iconst 0, 1) := dc_3 (gB_c lq_cX7_isWord q1_cX7_isWord 25 (o := 3) rfl)
theorem dX7_isWord_58 : decode cX7_isWord 58 = .ok (.ireturn, 1) := dc_172 (gB_c lq_cX7_isWord q1_cX7_isWord 26 (o := 172) rfl)
theorem dX7_isWord_59 : decode cX7_isWord 59 = .ok (.iinc 2 1, 3) := dc_132 (gB_c lq_cX7_isWord q1_cX7_isWord 27 (o := 132) rfl) (gB_c lq_cX7_isWord q1_cX7_isWord 28 (o := 2) rfl) (gB_c lq_cX7_isWord q1_cX7_isWord 29 (o := 1) rfl) rfl
theorem dX7_isWord_62 : decode cX7_isWord 62 = .ok (.goto (-34), 3) := dc_167 (gB_c lq_cX7_isWord q1_cX7_isWord 30 (o := 167) rfl) (gB_c lq_cX7_isWord q1_cX7_isWord 31 (o := 255) rfl) (gB_c lq_cX7_isWord q2_cX7_isWord 0 (o := 222) rfl) rfl
theorem dX7_isWord_65 : decode cX7_isWord 65 = .ok (.iconst 1, 1) := dc_4 (gB_c lq_cX7_isWord q2_cX7_isWord 1 (o := 4) rfl)
theorem dX7_isWord_66 : decode cX7_isWord 66 = .ok (.ireturn, 1) := dc_172 (gB_c lq_cX7_isWord q2_cX7_isWord 2 (o := 172) rfl)
abbrev r1_cX7_kindOf : List Nat := [7, 5, 167, 0, 4, 6, 172]
def a0_cX7_kindOf : List Nat := [26, 2, 160, 0, 5, 3, 172, 26, 16, 97, 161, 0, 11, 26, 16, 122, 163, 0, 5, 4, 172, 26, 16, 48, 161, 0, 13, 26, 16, 57, 163, 0]
abbrev r0_cX7_kindOf : List Nat := a0_cX7_kindOf ++ r1_cX7_kindOf
theorem lq_cX7_kindOf : (cX7_kindOf).data.toList.map UInt8.toNat = r0_cX7_kindOf := by decide +kernel
theorem q1_cX7_kindOf : ∀ i, (r0_cX7_kindOf)[32 + i]? = (r1_cX7_kindOf)[i]? := chn (A := a0_cX7_kindOf) (B := r1_cX7_kindOf) (n := 0) (k := 32) rfl (ch0 (R := r0_cX7_kindOf))
theorem dX7_kindOf_0 : decode cX7_kindOf 0 = .ok (.iload_n 0, 1) := dc_26 (gB_l lq_cX7_kindOf (p := 0) (o := 26) rfl)
theorem dX7_kindOf_1 : decode cX7_kindOf 1 = .ok (.iconst (-1), 1) := dc_2 (gB_l lq_cX7_kindOf (p := 1) (o := 2) rfl)
theorem dX7_kindOf_2 : decode cX7_kindOf 2 = .ok (.if_icmp .ne 5, 3) := dc_160 (gB_l lq_cX7_kindOf (p := 2) (o := 160) rfl) (gB_l lq_cX7_kindOf (p := 3) (o := 0) rfl) (gB_l lq_cX7_kindOf (p := 4) (o := 5) rfl) rfl
theorem dX7_kindOf_5 : decode cX7_kindOf 5 = .ok (.iconst 0, 1) := dc_3 (gB_l lq_cX7_kindOf (p := 5) (o := 3) rfl)
theorem dX7_kindOf_6 : decode cX7_kindOf 6 = .ok (.ireturn, 1) := dc_172 (gB_l lq_cX7_kindOf (p := 6) (o := 172) rfl)
theorem dX7_kindOf_7 : decode cX7_kindOf 7 = .ok (.iload_n 0, 1) := dc_26 (gB_l lq_cX7_kindOf (p := 7) (o := 26) rfl)
theorem dX7_kindOf_8 : decode cX7_kindOf 8 = .ok (.bipush 97, 2) := dc_16 (gB_l lq_cX7_kindOf (p := 8) (o := 16) rfl) (gB_l lq_cX7_kindOf (p := 9) (o := 97) rfl) rfl
theorem dX7_kindOf_10 : decode cX7_kindOf 10 = .ok (.if_icmp .lt 11, 3) := dc_161 (gB_l lq_cX7_kindOf (p := 10) (o := 161) rfl) (gB_l lq_cX7_kindOf (p := 11) (o := 0) rfl) (gB_l lq_cX7_kindOf (p := 12) (o := 11) rfl) rfl
theorem dX7_kindOf_13 : decode cX7_kindOf 13 = .ok (.iload_n 0, 1) := dc_26 (gB_l lq_cX7_kindOf (p := 13) (o := 26) rfl)
theorem dX7_kindOf_14 : decode cX7_kindOf 14 = .ok (.bipush 122, 2) := dc_16 (gB_l lq_cX7_kindOf (p := 14) (o := 16) rfl) (gB_l lq_cX7_kindOf (p := 15) (o := 122) rfl) rfl
theorem dX7_kindOf_16 : decode cX7_kindOf 16 = .ok (.if_icmp .gt 5, 3) := dc_163 (gB_l lq_cX7_kindOf (p := 16) (o := 163) rfl) (gB_l lq_cX7_kindOf (p := 17) (o := 0) rfl) (gB_l lq_cX7_kindOf (p := 18) (o := 5) rfl) rfl
theorem dX7_kindOf_19 : decode cX7_kindOf 19 = .ok (.iconst 1, 1) := dc_4 (gB_l lq_cX7_kindOf (p := 19) (o := 4) rfl)
theorem dX7_kindOf_20 : decode cX7_kindOf 20 = .ok (.ireturn, 1) := dc_172 (gB_l lq_cX7_kindOf (p := 20) (o := 172) rfl)
theorem dX7_kindOf_21 : decode cX7_kindOf 21 = .ok (.iload_n 0, 1) := dc_26 (gB_l lq_cX7_kindOf (p := 21) (o := 26) rfl)
theorem dX7_kindOf_22 : decode cX7_kindOf 22 = .ok (.bipush 48, 2) := dc_16 (gB_l lq_cX7_kindOf (p := 22) (o := 16) rfl) (gB_l lq_cX7_kindOf (p := 23) (o := 48) rfl) rfl
theorem dX7_kindOf_24 : decode cX7_kindOf 24 = .ok (.if_icmp .lt 13, 3) := dc_161 (gB_l lq_cX7_kindOf (p := 24) (o := 161) rfl) (gB_l lq_cX7_kindOf (p := 25) (o := 0) rfl) (gB_l lq_cX7_kindOf (p := 26) (o := 13) rfl) rfl
theorem dX7_kindOf_27 : decode cX7_kindOf 27 = .ok (.iload_n 0, 1) := dc_26 (gB_l lq_cX7_kindOf (p := 27) (o := 26) rfl)
theorem dX7_kindOf_28 : decode cX7_kindOf 28 = .ok (.bipush 57, 2) := dc_16 (gB_l lq_cX7_kindOf (p := 28) (o := 16) rfl) (gB_l lq_cX7_kindOf (p := 29) (o := 57) rfl) rfl
theorem dX7_kindOf_30 : decode cX7_kindOf 30 = .ok (.if_icmp .gt 7, 3) := dc_163 (gB_l lq_cX7_kindOf (p := 30) (o := 163) rfl) (gB_l lq_cX7_kindOf (p := 31) (o := 0) rfl) (gB_c lq_cX7_kindOf q1_cX7_kindOf 0 (o := 7) rfl) rfl
theorem dX7_kindOf_33 : decode cX7_kindOf 33 = .ok (.iconst 2, 1) := dc_5 (gB_c lq_cX7_kindOf q1_cX7_kindOf 1 (o := 5) rfl)
theorem dX7_kindOf_34 : decode cX7_kindOf 34 = .ok (.goto 4, 3) := dc_167 (gB_c lq_cX7_kindOf q1_cX7_kindOf 2 (o := 167) rfl) (gB_c lq_cX7_kindOf q1_cX7_kindOf 3 (o := 0) rfl) (gB_c lq_cX7_kindOf q1_cX7_kindOf 4 (o := 4) rfl) rfl
theorem dX7_kindOf_37 : decode cX7_kindOf 37 = .ok (.iconst 3, 1) := dc_6 (gB_c lq_cX7_kindOf q1_cX7_kindOf 5 (o := 6) rfl)
theorem dX7_kindOf_38 : decode cX7_kindOf 38 = .ok (.ireturn, 1) := dc_172 (gB_c lq_cX7_kindOf q1_cX7_kindOf 6 (o := 172) rfl)
abbrev r1_cX7_readAll : List Nat := [14, 42, 182, 0, 42, 153, 0, 7, 4, 167, 0, 4, 3, 172]
def a0_cX7_readAll : List Nat := [42, 3, 181, 0, 26, 42, 2, 181, 0, 18, 42, 3, 181, 0, 29, 42, 182, 0, 32, 42, 182, 0, 35, 153, 0, 21, 42, 182, 0, 39, 153, 0]
abbrev r0_cX7_readAll : List Nat := a0_cX7_readAll ++ r1_cX7_readAll
theorem lq_cX7_readAll : (cX7_readAll).data.toList.map UInt8.toNat = r0_cX7_readAll := by decide +kernel
theorem q1_cX7_readAll : ∀ i, (r0_cX7_readAll)[32 + i]? = (r1_cX7_readAll)[i]? := chn (A := a0_cX7_readAll) (B := r1_cX7_readAll) (n := 0) (k := 32) rfl (ch0 (R := r0_cX7_readAll))
theorem dX7_readAll_0 : decode cX7_readAll 0 = .ok (.aload_n 0, 1) := dc_42 (gB_l lq_cX7_readAll (p := 0) (o := 42) rfl)
theorem dX7_readAll_1 : decode cX7_readAll 1 = .ok (.iconst 0, 1) := dc_3 (gB_l lq_cX7_readAll (p := 1) (o := 3) rfl)
theorem dX7_readAll_2 : decode cX7_readAll 2 = .ok (.putfield 26, 3) := dc_181 (gB_l lq_cX7_readAll (p := 2) (o := 181) rfl) (gB_l lq_cX7_readAll (p := 3) (o := 0) rfl) (gB_l lq_cX7_readAll (p := 4) (o := 26) rfl) rfl
theorem dX7_readAll_5 : decode cX7_readAll 5 = .ok (.aload_n 0, 1) := dc_42 (gB_l lq_cX7_readAll (p := 5) (o := 42) rfl)
theorem dX7_readAll_6 : decode cX7_readAll 6 = .ok (.iconst (-1), 1) := dc_2 (gB_l lq_cX7_readAll (p := 6) (o := 2) rfl)
theorem dX7_readAll_7 : decode cX7_readAll 7 = .ok (.putfield 18, 3) := dc_181 (gB_l lq_cX7_readAll (p := 7) (o := 181) rfl) (gB_l lq_cX7_readAll (p := 8) (o := 0) rfl) (gB_l lq_cX7_readAll (p := 9) (o := 18) rfl) rfl
theorem dX7_readAll_10 : decode cX7_readAll 10 = .ok (.aload_n 0, 1) := dc_42 (gB_l lq_cX7_readAll (p := 10) (o := 42) rfl)
theorem dX7_readAll_11 : decode cX7_readAll 11 = .ok (.iconst 0, 1) := dc_3 (gB_l lq_cX7_readAll (p := 11) (o := 3) rfl)
theorem dX7_readAll_12 : decode cX7_readAll 12 = .ok (.putfield 29, 3) := dc_181 (gB_l lq_cX7_readAll (p := 12) (o := 181) rfl) (gB_l lq_cX7_readAll (p := 13) (o := 0) rfl) (gB_l lq_cX7_readAll (p := 14) (o := 29) rfl) rfl
theorem dX7_readAll_15 : decode cX7_readAll 15 = .ok (.aload_n 0, 1) := dc_42 (gB_l lq_cX7_readAll (p := 15) (o := 42) rfl)
theorem dX7_readAll_16 : decode cX7_readAll 16 = .ok (.invokevirtual 32, 3) := dc_182 (gB_l lq_cX7_readAll (p := 16) (o := 182) rfl) (gB_l lq_cX7_readAll (p := 17) (o := 0) rfl) (gB_l lq_cX7_readAll (p := 18) (o := 32) rfl) rfl
theorem dX7_readAll_19 : decode cX7_readAll 19 = .ok (.aload_n 0, 1) := dc_42 (gB_l lq_cX7_readAll (p := 19) (o := 42) rfl)
theorem dX7_readAll_20 : decode cX7_readAll 20 = .ok (.invokevirtual 35, 3) := dc_182 (gB_l lq_cX7_readAll (p := 20) (o := 182) rfl) (gB_l lq_cX7_readAll (p := 21) (o := 0) rfl) (gB_l lq_cX7_readAll (p := 22) (o := 35) rfl) rfl
theorem dX7_readAll_23 : decode cX7_readAll 23 = .ok (.ifCond .eq 21, 3) := dc_153 (gB_l lq_cX7_readAll (p := 23) (o := 153) rfl) (gB_l lq_cX7_readAll (p := 24) (o := 0) rfl) (gB_l lq_cX7_readAll (p := 25) (o := 21) rfl) rfl
theorem dX7_readAll_26 : decode cX7_readAll 26 = .ok (.aload_n 0, 1) := dc_42 (gB_l lq_cX7_readAll (p := 26) (o := 42) rfl)
theorem dX7_readAll_27 : decode cX7_readAll 27 = .ok (.invokevirtual 39, 3) := dc_182 (gB_l lq_cX7_readAll (p := 27) (o := 182) rfl) (gB_l lq_cX7_readAll (p := 28) (o := 0) rfl) (gB_l lq_cX7_readAll (p := 29) (o := 39) rfl) rfl
theorem dX7_readAll_30 : decode cX7_readAll 30 = .ok (.ifCond .eq 14, 3) := dc_153 (gB_l lq_cX7_readAll (p := 30) (o := 153) rfl) (gB_l lq_cX7_readAll (p := 31) (o := 0) rfl) (gB_c lq_cX7_readAll q1_cX7_readAll 0 (o := 14) rfl) rfl
theorem dX7_readAll_33 : decode cX7_readAll 33 = .ok (.aload_n 0, 1) := dc_42 (gB_c lq_cX7_readAll q1_cX7_readAll 1 (o := 42) rfl)
theorem dX7_readAll_34 : decode cX7_readAll 34 = .ok (.invokevirtual 42, 3) := dc_182 (gB_c lq_cX7_readAll q1_cX7_readAll 2 (o := 182) rfl) (gB_c lq_cX7_readAll q1_cX7_readAll 3 (o := 0) rfl) (gB_c lq_cX7_readAll q1_cX7_readAll 4 (o := 42) rfl) rfl
theorem dX7_readAll_37 : decode cX7_readAll 37 = .ok (.ifCond .eq 7, 3) := dc_153 (gB_c lq_cX7_readAll q1_cX7_readAll 5 (o := 153) rfl) (gB_c lq_cX7_readAll q1_cX7_readAll 6 (o := 0) rfl) (gB_c lq_cX7_readAll q1_cX7_readAll 7 (o := 7) rfl) rfl
theorem dX7_readAll_40 : decode cX7_readAll 40 = .ok (.iconst 1, 1) := dc_4 (gB_c lq_cX7_readAll q1_cX7_readAll 8 (o := 4) rfl)
theorem dX7_readAll_41 : decode cX7_readAll 41 = .ok (.goto 4, 3) := dc_167 (gB_c lq_cX7_readAll q1_cX7_readAll 9 (o := 167) rfl) (gB_c lq_cX7_readAll q1_cX7_readAll 10 (o := 0) rfl) (gB_c lq_cX7_readAll q1_cX7_readAll 11 (o := 4) rfl) rfl
theorem dX7_readAll_44 : decode cX7_readAll 44 = .ok (.iconst 0, 1) := dc_3 (gB_c lq_cX7_readAll q1_cX7_readAll 12 (o := 3) rfl)
theorem dX7_readAll_45 : decode cX7_readAll 45 = .ok (.ireturn, 1) := dc_172 (gB_c lq_cX7_readAll q1_cX7_readAll 13 (o := 172) rfl)
abbrev r3_cX7_readDigits : List Nat := [160, 0, 7, 4, 167, 0, 4, 3, 172]
def a2_cX7_readDigits : List Nat := [3, 172, 42, 180, 0, 12, 180, 0, 116, 28, 29, 79, 27, 4, 29, 120, 128, 60, 132, 2, 1, 167, 255, 196, 27, 42, 180, 0, 12, 182, 0, 120]
abbrev r2_cX7_readDigits : List Nat := a2_cX7_readDigits ++ r3_cX7_readDigits
def a1_cX7_readDigits : List Nat := [104, 162, 0, 55, 42, 180, 0, 22, 42, 180, 0, 101, 28, 96, 182, 0, 107, 16, 48, 100, 62, 42, 180, 0, 12, 29, 182, 0, 113, 154, 0, 5]
abbrev r1_cX7_readDigits : List Nat := a1_cX7_readDigits ++ r2_cX7_readDigits
def a0_cX7_readDigits : List Nat := [42, 180, 0, 29, 42, 180, 0, 101, 100, 42, 180, 0, 12, 180, 0, 104, 159, 0, 5, 3, 172, 3, 60, 3, 61, 28, 42, 180, 0, 12, 180, 0]
abbrev r0_cX7_readDigits : List Nat := a0_cX7_readDigits ++ r1_cX7_readDigits
theorem lq_cX7_readDigits : (cX7_readDigits).data.toList.map UInt8.toNat = r0_cX7_readDigits := by decide +kernel
theorem q1_cX7_readDigits : ∀ i, (r0_cX7_readDigits)[32 + i]? = (r1_cX7_readDigits)[i]? := chn (A := a0_cX7_readDigits) (B := r1_cX7_readDigits) (n := 0) (k := 32) rfl (ch0 (R := r0_cX7_readDigits))
theorem q2_cX7_readDigits : ∀ i, (r0_cX7_readDigits)[64 + i]? = (r2_cX7_readDigits)[i]? := chn (A := a1_cX7_readDigits) (B := r2_cX7_readDigits) (n := 32) (k := 32) rfl q1_cX7_readDigits
theorem q3_cX7_readDigits : ∀ i, (r0_cX7_readDigits)[96 + i]? = (r3_cX7_readDigits)[i]? := chn (A := a2_cX7_readDigits) (B := r3_cX7_readDigits) (n := 64) (k := 32) rfl q2_cX7_readDigits
theorem dX7_readDigits_0 : decode cX7_readDigits 0 = .ok (.aload_n 0, 1) := dc_42 (gB_l lq_cX7_readDigits (p := 0) (o := 42) rfl)
theorem dX7_readDigits_1 : decode cX7_readDigits 1 = .ok (.getfield 29, 3) := dc_180 (gB_l lq_cX7_readDigits (p := 1) (o := 180) rfl) (gB_l lq_cX7_readDigits (p := 2) (o := 0) rfl) (gB_l lq_cX7_readDigits (p := 3) (o := 29) rfl) rfl
theorem dX7_readDigits_4 : decode cX7_readDigits 4 = .ok (.aload_n 0, 1) := dc_42 (gB_l lq_cX7_readDigits (p := 4) (o := 42) rfl)
theorem dX7_readDigits_5 : decode cX7_readDigits 5 = .ok (.getfield 101, 3) := dc_180 (gB_l lq_cX7_readDigits (p := 5) (o := 180) rfl) (gB_l lq_cX7_readDigits (p := 6) (o := 0) rfl) (gB_l lq_cX7_readDigits (p := 7) (o := 101) rfl) rfl
theorem dX7_readDigits_8 : decode cX7_readDigits 8 = .ok (.isub, 1) := dc_100 (gB_l lq_cX7_readDigits (p := 8) (o := 100) rfl)
theorem dX7_readDigits_9 : decode cX7_readDigits 9 = .ok (.aload_n 0, 1) := dc_42 (gB_l lq_cX7_readDigits (p := 9) (o := 42) rfl)
theorem dX7_readDigits_10 : decode cX7_readDigits 10 = .ok (.getfield 12, 3) := dc_180 (gB_l lq_cX7_readDigits (p := 10) (o := 180) rfl) (gB_l lq_cX7_readDigits (p := 11) (o := 0) rfl) (gB_l lq_cX7_readDigits (p := 12) (o := 12) rfl) rfl
theorem dX7_readDigits_13 : decode cX7_readDigits 13 = .ok (.getfield 104, 3) := dc_180 (gB_l lq_cX7_readDigits (p := 13) (o := 180) rfl) (gB_l lq_cX7_readDigits (p := 14) (o := 0) rfl) (gB_l lq_cX7_readDigits (p := 15) (o := 104) rfl) rfl
theorem dX7_readDigits_16 : decode cX7_readDigits 16 = .ok (.if_icmp .eq 5, 3) := dc_159 (gB_l lq_cX7_readDigits (p := 16) (o := 159) rfl) (gB_l lq_cX7_readDigits (p := 17) (o := 0) rfl) (gB_l lq_cX7_readDigits (p := 18) (o := 5) rfl) rfl
theorem dX7_readDigits_19 : decode cX7_readDigits 19 = .ok (.iconst 0, 1) := dc_3 (gB_l lq_cX7_readDigits (p := 19) (o := 3) rfl)
theorem dX7_readDigits_20 : decode cX7_readDigits 20 = .ok (.ireturn, 1) := dc_172 (gB_l lq_cX7_readDigits (p := 20) (o := 172) rfl)
theorem dX7_readDigits_21 : decode cX7_readDigits 21 = .ok (.iconst 0, 1) := dc_3 (gB_l lq_cX7_readDigits (p := 21) (o := 3) rfl)
theorem dX7_readDigits_22 : decode cX7_readDigits 22 = .ok (.istore_n 1, 1) := dc_60 (gB_l lq_cX7_readDigits (p := 22) (o := 60) rfl)
theorem dX7_readDigits_23 : decode cX7_readDigits 23 = .ok (.iconst 0, 1) := dc_3 (gB_l lq_cX7_readDigits (p := 23) (o := 3) rfl)
theorem dX7_readDigits_24 : decode cX7_readDigits 24 = .ok (.istore_n 2, 1) := dc_61 (gB_l lq_cX7_readDigits (p := 24) (o := 61) rfl)
theorem dX7_readDigits_25 : decode cX7_readDigits 25 = .ok (.iload_n 2, 1) := dc_28 (gB_l lq_cX7_readDigits (p := 25) (o := 28) rfl)
theorem dX7_readDigits_26 : decode cX7_readDigits 26 = .ok (.aload_n 0, 1) := dc_42 (gB_l lq_cX7_readDigits (p := 26) (o := 42) rfl)
theorem dX7_readDigits_27 : decode cX7_readDigits 27 = .ok (.getfield 12, 3) := dc_180 (gB_l lq_cX7_readDigits (p := 27) (o := 180) rfl) (gB_l lq_cX7_readDigits (p := 28) (o := 0) rfl) (gB_l lq_cX7_readDigits (p := 29) (o := 12) rfl) rfl
theorem dX7_readDigits_30 : decode cX7_readDigits 30 = .ok (.getfield 104, 3) := dc_180 (gB_l lq_cX7_readDigits (p := 30) (o := 180) rfl) (gB_l lq_cX7_readDigits (p := 31) (o := 0) rfl) (gB_c lq_cX7_readDigits q1_cX7_readDigits 0 (o := 104) rfl) rfl
theorem dX7_readDigits_33 : decode cX7_readDigits 33 = .ok (.if_icmp .ge 55, 3) := dc_162 (gB_c lq_cX7_readDigits q1_cX7_readDigits 1 (o := 162) rfl) (gB_c lq_cX7_readDigits q1_cX7_readDigits 2 (o := 0) rfl) (gB_c lq_cX7_readDigits q1_cX7_readDigits 3 (o := 55) rfl) rfl
theorem dX7_readDigits_36 : decode cX7_readDigits 36 = .ok (.aload_n 0, 1) := dc_42 (gB_c lq_cX7_readDigits q1_cX7_readDigits 4 (o := 42) rfl)
theorem dX7_readDigits_37 : decode cX7_readDigits 37 = .ok (.getfield 22, 3) := dc_180 (gB_c lq_cX7_readDigits q1_cX7_readDigits 5 (o := 180) rfl) (gB_c lq_cX7_readDigits q1_cX7_readDigits 6 (o := 0) rfl) (gB_c lq_cX7_readDigits q1_cX7_readDigits 7 (o := 22) rfl) rfl
theorem dX7_readDigits_40 : decode cX7_readDigits 40 = .ok (.aload_n 0, 1) := dc_42 (gB_c lq_cX7_readDigits q1_cX7_readDigits 8 (o := 42) rfl)
theorem dX7_readDigits_41 : decode cX7_readDigits 41 = .ok (.getfield 101, 3) := dc_180 (gB_c lq_cX7_readDigits q1_cX7_readDigits 9 (o := 180) rfl) (gB_c lq_cX7_readDigits q1_cX7_readDigits 10 (o := 0) rfl) (gB_c lq_cX7_readDigits q1_cX7_readDigits 11 (o := 101) rfl) rfl
theorem dX7_readDigits_44 : decode cX7_readDigits 44 = .ok (.iload_n 2, 1) := dc_28 (gB_c lq_cX7_readDigits q1_cX7_readDigits 12 (o := 28) rfl)
theorem dX7_readDigits_45 : decode cX7_readDigits 45 = .ok (.iadd, 1) := dc_96 (gB_c lq_cX7_readDigits q1_cX7_readDigits 13 (o := 96) rfl)
theorem dX7_readDigits_46 : decode cX7_readDigits 46 = .ok (.invokevirtual 107, 3) := dc_182 (gB_c lq_cX7_readDigits q1_cX7_readDigits 14 (o := 182) rfl) (gB_c lq_cX7_readDigits q1_cX7_readDigits 15 (o := 0) rfl) (gB_c lq_cX7_readDigits q1_cX7_readDigits 16 (o := 107) rfl) rfl
theorem dX7_readDigits_49 : decode cX7_readDigits 49 = .ok (.bipush 48, 2) := dc_16 (gB_c lq_cX7_readDigits q1_cX7_readDigits 17 (o := 16) rfl) (gB_c lq_cX7_readDigits q1_cX7_readDigits 18 (o := 48) rfl) rfl
theorem dX7_readDigits_51 : decode cX7_readDigits 51 = .ok (.isub, 1) := dc_100 (gB_c lq_cX7_readDigits q1_cX7_readDigits 19 (o := 100) rfl)
theorem dX7_readDigits_52 : decode cX7_readDigits 52 = .ok (.istore_n 3, 1) := dc_62 (gB_c lq_cX7_readDigits q1_cX7_readDigits 20 (o := 62) rfl)
theorem dX7_readDigits_53 : decode cX7_readDigits 53 = .ok (.aload_n 0, 1) := dc_42 (gB_c lq_cX7_readDigits q1_cX7_readDigits 21 (o := 42) rfl)
theorem dX7_readDigits_54 : decode cX7_readDigits 54 = .ok (.getfield 12, 3) := dc_180 (gB_c lq_cX7_readDigits q1_cX7_readDigits 22 (o := 180) rfl) (gB_c lq_cX7_readDigits q1_cX7_readDigits 23 (o := 0) rfl) (gB_c lq_cX7_readDigits q1_cX7_readDigits 24 (o := 12) rfl) rfl
theorem dX7_readDigits_57 : decode cX7_readDigits 57 = .ok (.iload_n 3, 1) := dc_29 (gB_c lq_cX7_readDigits q1_cX7_readDigits 25 (o := 29) rfl)
theorem dX7_readDigits_58 : decode cX7_readDigits 58 = .ok (.invokevirtual 113, 3) := dc_182 (gB_c lq_cX7_readDigits q1_cX7_readDigits 26 (o := 182) rfl) (gB_c lq_cX7_readDigits q1_cX7_readDigits 27 (o := 0) rfl) (gB_c lq_cX7_readDigits q1_cX7_readDigits 28 (o := 113) rfl) rfl
theorem dX7_readDigits_61 : decode cX7_readDigits 61 = .ok (.ifCond .ne 5, 3) := dc_154 (gB_c lq_cX7_readDigits q1_cX7_readDigits 29 (o := 154) rfl) (gB_c lq_cX7_readDigits q1_cX7_readDigits 30 (o := 0) rfl) (gB_c lq_cX7_readDigits q1_cX7_readDigits 31 (o := 5) rfl) rfl
theorem dX7_readDigits_64 : decode cX7_readDigits 64 = .ok (.iconst 0, 1) := dc_3 (gB_c lq_cX7_readDigits q2_cX7_readDigits 0 (o := 3) rfl)
theorem dX7_readDigits_65 : decode cX7_readDigits 65 = .ok (.ireturn, 1) := dc_172 (gB_c lq_cX7_readDigits q2_cX7_readDigits 1 (o := 172) rfl)
theorem dX7_readDigits_66 : decode cX7_readDigits 66 = .ok (.aload_n 0, 1) := dc_42 (gB_c lq_cX7_readDigits q2_cX7_readDigits 2 (o := 42) rfl)
theorem dX7_readDigits_67 : decode cX7_readDigits 67 = .ok (.getfield 12, 3) := dc_180 (gB_c lq_cX7_readDigits q2_cX7_readDigits 3 (o := 180) rfl) (gB_c lq_cX7_readDigits q2_cX7_readDigits 4 (o := 0) rfl) (gB_c lq_cX7_readDigits q2_cX7_readDigits 5 (o := 12) rfl) rfl
theorem dX7_readDigits_70 : decode cX7_readDigits 70 = .ok (.getfield 116, 3) := dc_180 (gB_c lq_cX7_readDigits q2_cX7_readDigits 6 (o := 180) rfl) (gB_c lq_cX7_readDigits q2_cX7_readDigits 7 (o := 0) rfl) (gB_c lq_cX7_readDigits q2_cX7_readDigits 8 (o := 116) rfl) rfl
theorem dX7_readDigits_73 : decode cX7_readDigits 73 = .ok (.iload_n 2, 1) := dc_28 (gB_c lq_cX7_readDigits q2_cX7_readDigits 9 (o := 28) rfl)
theorem dX7_readDigits_74 : decode cX7_readDigits 74 = .ok (.iload_n 3, 1) := dc_29 (gB_c lq_cX7_readDigits q2_cX7_readDigits 10 (o := 29) rfl)
theorem dX7_readDigits_75 : decode cX7_readDigits 75 = .ok (.iastore, 1) := dc_79 (gB_c lq_cX7_readDigits q2_cX7_readDigits 11 (o := 79) rfl)
theorem dX7_readDigits_76 : decode cX7_readDigits 76 = .ok (.iload_n 1, 1) := dc_27 (gB_c lq_cX7_readDigits q2_cX7_readDigits 12 (o := 27) rfl)
theorem dX7_readDigits_77 : decode cX7_readDigits 77 = .ok (.iconst 1, 1) := dc_4 (gB_c lq_cX7_readDigits q2_cX7_readDigits 13 (o := 4) rfl)
theorem dX7_readDigits_78 : decode cX7_readDigits 78 = .ok (.iload_n 3, 1) := dc_29 (gB_c lq_cX7_readDigits q2_cX7_readDigits 14 (o := 29) rfl)
theorem dX7_readDigits_79 : decode cX7_readDigits 79 = .ok (.ishl, 1) := dc_120 (gB_c lq_cX7_readDigits q2_cX7_readDigits 15 (o := 120) rfl)
theorem dX7_readDigits_80 : decode cX7_readDigits 80 = .ok (.ior, 1) := dc_128 (gB_c lq_cX7_readDigits q2_cX7_readDigits 16 (o := 128) rfl)
theorem dX7_readDigits_81 : decode cX7_readDigits 81 = .ok (.istore_n 1, 1) := dc_60 (gB_c lq_cX7_readDigits q2_cX7_readDigits 17 (o := 60) rfl)
theorem dX7_readDigits_82 : decode cX7_readDigits 82 = .ok (.iinc 2 1, 3) := dc_132 (gB_c lq_cX7_readDigits q2_cX7_readDigits 18 (o := 132) rfl) (gB_c lq_cX7_readDigits q2_cX7_readDigits 19 (o := 2) rfl) (gB_c lq_cX7_readDigits q2_cX7_readDigits 20 (o := 1) rfl) rfl
theorem dX7_readDigits_85 : decode cX7_readDigits 85 = .ok (.goto (-60), 3) := dc_167 (gB_c lq_cX7_readDigits q2_cX7_readDigits 21 (o := 167) rfl) (gB_c lq_cX7_readDigits q2_cX7_readDigits 22 (o := 255) rfl) (gB_c lq_cX7_readDigits q2_cX7_readDigits 23 (o := 196) rfl) rfl
theorem dX7_readDigits_88 : decode cX7_readDigits 88 = .ok (.iload_n 1, 1) := dc_27 (gB_c lq_cX7_readDigits q2_cX7_readDigits 24 (o := 27) rfl)
theorem dX7_readDigits_89 : decode cX7_readDigits 89 = .ok (.aload_n 0, 1) := dc_42 (gB_c lq_cX7_readDigits q2_cX7_readDigits 25 (o := 42) rfl)
theorem dX7_readDigits_90 : decode cX7_readDigits 90 = .ok (.getfield 12, 3) := dc_180 (gB_c lq_cX7_readDigits q2_cX7_readDigits 26 (o := 180) rfl) (gB_c lq_cX7_readDigits q2_cX7_readDigits 27 (o := 0) rfl) (gB_c lq_cX7_readDigits q2_cX7_readDigits 28 (o := 12) rfl) rfl
theorem dX7_readDigits_93 : decode cX7_readDigits 93 = .ok (.invokevirtual 120, 3) := dc_182 (gB_c lq_cX7_readDigits q2_cX7_readDigits 29 (o := 182) rfl) (gB_c lq_cX7_readDigits q2_cX7_readDigits 30 (o := 0) rfl) (gB_c lq_cX7_readDigits q2_cX7_readDigits 31 (o := 120) rfl) rfl
theorem dX7_readDigits_96 : decode cX7_readDigits 96 = .ok (.if_icmp .ne 7, 3) := dc_160 (gB_c lq_cX7_readDigits q3_cX7_readDigits 0 (o := 160) rfl) (gB_c lq_cX7_readDigits q3_cX7_readDigits 1 (o := 0) rfl) (gB_c lq_cX7_readDigits q3_cX7_readDigits 2 (o := 7) rfl) rfl
theorem dX7_readDigits_99 : decode cX7_readDigits 99 = .ok (.iconst 1, 1) := dc_4 (gB_c lq_cX7_readDigits q3_cX7_readDigits 3 (o := 4) rfl)
theorem dX7_readDigits_100 : decode cX7_readDigits 100 = .ok (.goto 4, 3) := dc_167 (gB_c lq_cX7_readDigits q3_cX7_readDigits 4 (o := 167) rfl) (gB_c lq_cX7_readDigits q3_cX7_readDigits 5 (o := 0) rfl) (gB_c lq_cX7_readDigits q3_cX7_readDigits 6 (o := 4) rfl) rfl
theorem dX7_readDigits_103 : decode cX7_readDigits 103 = .ok (.iconst 0, 1) := dc_3 (gB_c lq_cX7_readDigits q3_cX7_readDigits 7 (o := 3) rfl)
theorem dX7_readDigits_104 : decode cX7_readDigits 104 = .ok (.ireturn, 1) := dc_172 (gB_c lq_cX7_readDigits q3_cX7_readDigits 8 (o := 172) rfl)
abbrev r1_cX7_readHead : List Nat := [180, 0, 12, 42, 180, 0, 59, 182, 0, 62, 42, 182, 0, 32, 4, 172]
def a0_cX7_readHead : List Nat := [42, 18, 45, 182, 0, 47, 154, 0, 9, 42, 4, 182, 0, 51, 172, 42, 182, 0, 32, 42, 4, 16, 9, 182, 0, 55, 154, 0, 5, 3, 172, 42]
abbrev r0_cX7_readHead : List Nat := a0_cX7_readHead ++ r1_cX7_readHead
theorem lq_cX7_readHead : (cX7_readHead).data.toList.map UInt8.toNat = r0_cX7_readHead := by decide +kernel
theorem q1_cX7_readHead : ∀ i, (r0_cX7_readHead)[32 + i]? = (r1_cX7_readHead)[i]? := chn (A := a0_cX7_readHead) (B := r1_cX7_readHead) (n := 0) (k := 32) rfl (ch0 (R := r0_cX7_readHead))
theorem dX7_readHead_0 : decode cX7_readHead 0 = .ok (.aload_n 0, 1) := dc_42 (gB_l lq_cX7_readHead (p := 0) (o := 42) rfl)
theorem dX7_readHead_1 : decode cX7_readHead 1 = .ok (.ldc 45, 2) := dc_18 (gB_l lq_cX7_readHead (p := 1) (o := 18) rfl) (gB_l lq_cX7_readHead (p := 2) (o := 45) rfl)
theorem dX7_readHead_3 : decode cX7_readHead 3 = .ok (.invokevirtual 47, 3) := dc_182 (gB_l lq_cX7_readHead (p := 3) (o := 182) rfl) (gB_l lq_cX7_readHead (p := 4) (o := 0) rfl) (gB_l lq_cX7_readHead (p := 5) (o := 47) rfl) rfl
theorem dX7_readHead_6 : decode cX7_readHead 6 = .ok (.ifCond .ne 9, 3) := dc_154 (gB_l lq_cX7_readHead (p := 6) (o := 154) rfl) (gB_l lq_cX7_readHead (p := 7) (o := 0) rfl) (gB_l lq_cX7_readHead (p := 8) (o := 9) rfl) rfl
theorem dX7_readHead_9 : decode cX7_readHead 9 = .ok (.aload_n 0, 1) := dc_42 (gB_l lq_cX7_readHead (p := 9) (o := 42) rfl)
theorem dX7_readHead_10 : decode cX7_readHead 10 = .ok (.iconst 1, 1) := dc_4 (gB_l lq_cX7_readHead (p := 10) (o := 4) rfl)
theorem dX7_readHead_11 : decode cX7_readHead 11 = .ok (.invokevirtual 51, 3) := dc_182 (gB_l lq_cX7_readHead (p := 11) (o := 182) rfl) (gB_l lq_cX7_readHead (p := 12) (o := 0) rfl) (gB_l lq_cX7_readHead (p := 13) (o := 51) rfl) rfl
theorem dX7_readHead_14 : decode cX7_readHead 14 = .ok (.ireturn, 1) := dc_172 (gB_l lq_cX7_readHead (p := 14) (o := 172) rfl)
theorem dX7_readHead_15 : decode cX7_readHead 15 = .ok (.aload_n 0, 1) := dc_42 (gB_l lq_cX7_readHead (p := 15) (o := 42) rfl)
theorem dX7_readHead_16 : decode cX7_readHead 16 = .ok (.invokevirtual 32, 3) := dc_182 (gB_l lq_cX7_readHead (p := 16) (o := 182) rfl) (gB_l lq_cX7_readHead (p := 17) (o := 0) rfl) (gB_l lq_cX7_readHead (p := 18) (o := 32) rfl) rfl
theorem dX7_readHead_19 : decode cX7_readHead 19 = .ok (.aload_n 0, 1) := dc_42 (gB_l lq_cX7_readHead (p := 19) (o := 42) rfl)
theorem dX7_readHead_20 : decode cX7_readHead 20 = .ok (.iconst 1, 1) := dc_4 (gB_l lq_cX7_readHead (p := 20) (o := 4) rfl)
theorem dX7_readHead_21 : decode cX7_readHead 21 = .ok (.bipush 9, 2) := dc_16 (gB_l lq_cX7_readHead (p := 21) (o := 16) rfl) (gB_l lq_cX7_readHead (p := 22) (o := 9) rfl) rfl
theorem dX7_readHead_23 : decode cX7_readHead 23 = .ok (.invokevirtual 55, 3) := dc_182 (gB_l lq_cX7_readHead (p := 23) (o := 182) rfl) (gB_l lq_cX7_readHead (p := 24) (o := 0) rfl) (gB_l lq_cX7_readHead (p := 25) (o := 55) rfl) rfl
theorem dX7_readHead_26 : decode cX7_readHead 26 = .ok (.ifCond .ne 5, 3) := dc_154 (gB_l lq_cX7_readHead (p := 26) (o := 154) rfl) (gB_l lq_cX7_readHead (p := 27) (o := 0) rfl) (gB_l lq_cX7_readHead (p := 28) (o := 5) rfl) rfl
theorem dX7_readHead_29 : decode cX7_readHead 29 = .ok (.iconst 0, 1) := dc_3 (gB_l lq_cX7_readHead (p := 29) (o := 3) rfl)
theorem dX7_readHead_30 : decode cX7_readHead 30 = .ok (.ireturn, 1) := dc_172 (gB_l lq_cX7_readHead (p := 30) (o := 172) rfl)
theorem dX7_readHead_31 : decode cX7_readHead 31 = .ok (.aload_n 0, 1) := dc_42 (gB_l lq_cX7_readHead (p := 31) (o := 42) rfl)
theorem dX7_readHead_32 : decode cX7_readHead 32 = .ok (.getfield 12, 3) := dc_180 (gB_c lq_cX7_readHead q1_cX7_readHead 0 (o := 180) rfl) (gB_c lq_cX7_readHead q1_cX7_readHead 1 (o := 0) rfl) (gB_c lq_cX7_readHead q1_cX7_readHead 2 (o := 12) rfl) rfl
theorem dX7_readHead_35 : decode cX7_readHead 35 = .ok (.aload_n 0, 1) := dc_42 (gB_c lq_cX7_readHead q1_cX7_readHead 3 (o := 42) rfl)
theorem dX7_readHead_36 : decode cX7_readHead 36 = .ok (.getfield 59, 3) := dc_180 (gB_c lq_cX7_readHead q1_cX7_readHead 4 (o := 180) rfl) (gB_c lq_cX7_readHead q1_cX7_readHead 5 (o := 0) rfl) (gB_c lq_cX7_readHead q1_cX7_readHead 6 (o := 59) rfl) rfl
theorem dX7_readHead_39 : decode cX7_readHead 39 = .ok (.invokevirtual 62, 3) := dc_182 (gB_c lq_cX7_readHead q1_cX7_readHead 7 (o := 182) rfl) (gB_c lq_cX7_readHead q1_cX7_readHead 8 (o := 0) rfl) (gB_c lq_cX7_readHead q1_cX7_readHead 9 (o := 62) rfl) rfl
theorem dX7_readHead_42 : decode cX7_readHead 42 = .ok (.aload_n 0, 1) := dc_42 (gB_c lq_cX7_readHead q1_cX7_readHead 10 (o := 42) rfl)
theorem dX7_readHead_43 : decode cX7_readHead 43 = .ok (.invokevirtual 32, 3) := dc_182 (gB_c lq_cX7_readHead q1_cX7_readHead 11 (o := 182) rfl) (gB_c lq_cX7_readHead q1_cX7_readHead 12 (o := 0) rfl) (gB_c lq_cX7_readHead q1_cX7_readHead 13 (o := 32) rfl) rfl
theorem dX7_readHead_46 : decode cX7_readHead 46 = .ok (.iconst 1, 1) := dc_4 (gB_c lq_cX7_readHead q1_cX7_readHead 14 (o := 4) rfl)
theorem dX7_readHead_47 : decode cX7_readHead 47 = .ok (.ireturn, 1) := dc_172 (gB_c lq_cX7_readHead q1_cX7_readHead 15 (o := 172) rfl)
abbrev r3_cX7_readLine : List Nat := [0, 86, 172]
def a2_cX7_readLine : List Nat := [42, 5, 182, 0, 51, 172, 42, 180, 0, 12, 27, 28, 182, 0, 82, 158, 0, 9, 42, 6, 182, 0, 51, 172, 42, 182, 0, 32, 42, 27, 28, 182]
abbrev r2_cX7_readLine : List Nat := a2_cX7_readLine ++ r3_cX7_readLine
def a1_cX7_readLine : List Nat := [42, 182, 0, 32, 42, 16, 45, 182, 0, 73, 153, 0, 10, 42, 182, 0, 76, 154, 0, 5, 3, 172, 42, 180, 0, 59, 61, 27, 28, 160, 0, 9]
abbrev r1_cX7_readLine : List Nat := a1_cX7_readLine ++ r2_cX7_readLine
def a0_cX7_readLine : List Nat := [42, 182, 0, 76, 154, 0, 5, 3, 172, 42, 180, 0, 12, 180, 0, 79, 16, 30, 161, 0, 9, 42, 7, 182, 0, 51, 172, 42, 180, 0, 59, 60]
abbrev r0_cX7_readLine : List Nat := a0_cX7_readLine ++ r1_cX7_readLine
theorem lq_cX7_readLine : (cX7_readLine).data.toList.map UInt8.toNat = r0_cX7_readLine := by decide +kernel
theorem q1_cX7_readLine : ∀ i, (r0_cX7_readLine)[32 + i]? = (r1_cX7_readLine)[i]? := chn (A := a0_cX7_readLine) (B := r1_cX7_readLine) (n := 0) (k := 32) rfl (ch0 (R := r0_cX7_readLine))
theorem q2_cX7_readLine : ∀ i, (r0_cX7_readLine)[64 + i]? = (r2_cX7_readLine)[i]? := chn (A := a1_cX7_readLine) (B := r2_cX7_readLine) (n := 32) (k := 32) rfl q1_cX7_readLine
theorem q3_cX7_readLine : ∀ i, (r0_cX7_readLine)[96 + i]? = (r3_cX7_readLine)[i]? := chn (A := a2_cX7_readLine) (B := r3_cX7_readLine) (n := 64) (k := 32) rfl q2_cX7_readLine
theorem dX7_readLine_0 : decode cX7_readLine 0 = .ok (.aload_n 0, 1) := dc_42 (gB_l lq_cX7_readLine (p := 0) (o := 42) rfl)
theorem dX7_readLine_1 : decode cX7_readLine 1 = .ok (.invokevirtual 76, 3) := dc_182 (gB_l lq_cX7_readLine (p := 1) (o := 182) rfl) (gB_l lq_cX7_readLine (p := 2) (o := 0) rfl) (gB_l lq_cX7_readLine (p := 3) (o := 76) rfl) rfl
theorem dX7_readLine_4 : decode cX7_readLine 4 = .ok (.ifCond .ne 5, 3) := dc_154 (gB_l lq_cX7_readLine (p := 4) (o := 154) rfl) (gB_l lq_cX7_readLine (p := 5) (o := 0) rfl) (gB_l lq_cX7_readLine (p := 6) (o := 5) rfl) rfl
theorem dX7_readLine_7 : decode cX7_readLine 7 = .ok (.iconst 0, 1) := dc_3 (gB_l lq_cX7_readLine (p := 7) (o := 3) rfl)
theorem dX7_readLine_8 : decode cX7_readLine 8 = .ok (.ireturn, 1) := dc_172 (gB_l lq_cX7_readLine (p := 8) (o := 172) rfl)
theorem dX7_readLine_9 : decode cX7_readLine 9 = .ok (.aload_n 0, 1) := dc_42 (gB_l lq_cX7_readLine (p := 9) (o := 42) rfl)
theorem dX7_readLine_10 : decode cX7_readLine 10 = .ok (.getfield 12, 3) := dc_180 (gB_l lq_cX7_readLine (p := 10) (o := 180) rfl) (gB_l lq_cX7_readLine (p := 11) (o := 0) rfl) (gB_l lq_cX7_readLine (p := 12) (o := 12) rfl) rfl
theorem dX7_readLine_13 : decode cX7_readLine 13 = .ok (.getfield 79, 3) := dc_180 (gB_l lq_cX7_readLine (p := 13) (o := 180) rfl) (gB_l lq_cX7_readLine (p := 14) (o := 0) rfl) (gB_l lq_cX7_readLine (p := 15) (o := 79) rfl) rfl
theorem dX7_readLine_16 : decode cX7_readLine 16 = .ok (.bipush 30, 2) := dc_16 (gB_l lq_cX7_readLine (p := 16) (o := 16) rfl) (gB_l lq_cX7_readLine (p := 17) (o := 30) rfl) rfl
theorem dX7_readLine_18 : decode cX7_readLine 18 = .ok (.if_icmp .lt 9, 3) := dc_161 (gB_l lq_cX7_readLine (p := 18) (o := 161) rfl) (gB_l lq_cX7_readLine (p := 19) (o := 0) rfl) (gB_l lq_cX7_readLine (p := 20) (o := 9) rfl) rfl
theorem dX7_readLine_21 : decode cX7_readLine 21 = .ok (.aload_n 0, 1) := dc_42 (gB_l lq_cX7_readLine (p := 21) (o := 42) rfl)
theorem dX7_readLine_22 : decode cX7_readLine 22 = .ok (.iconst 4, 1) := dc_7 (gB_l lq_cX7_readLine (p := 22) (o := 7) rfl)
theorem dX7_readLine_23 : decode cX7_readLine 23 = .ok (.invokevirtual 51, 3) := dc_182 (gB_l lq_cX7_readLine (p := 23) (o := 182) rfl) (gB_l lq_cX7_readLine (p := 24) (o := 0) rfl) (gB_l lq_cX7_readLine (p := 25) (o := 51) rfl) rfl
theorem dX7_readLine_26 : decode cX7_readLine 26 = .ok (.ireturn, 1) := dc_172 (gB_l lq_cX7_readLine (p := 26) (o := 172) rfl)
theorem dX7_readLine_27 : decode cX7_readLine 27 = .ok (.aload_n 0, 1) := dc_42 (gB_l lq_cX7_readLine (p := 27) (o := 42) rfl)
theorem dX7_readLine_28 : decode cX7_readLine 28 = .ok (.getfield 59, 3) := dc_180 (gB_l lq_cX7_readLine (p := 28) (o := 180) rfl) (gB_l lq_cX7_readLine (p := 29) (o := 0) rfl) (gB_l lq_cX7_readLine (p := 30) (o := 59) rfl) rfl
theorem dX7_readLine_31 : decode cX7_readLine 31 = .ok (.istore_n 1, 1) := dc_60 (gB_l lq_cX7_readLine (p := 31) (o := 60) rfl)
theorem dX7_readLine_32 : decode cX7_readLine 32 = .ok (.aload_n 0, 1) := dc_42 (gB_c lq_cX7_readLine q1_cX7_readLine 0 (o := 42) rfl)
theorem dX7_readLine_33 : decode cX7_readLine 33 = .ok (.invokevirtual 32, 3) := dc_182 (gB_c lq_cX7_readLine q1_cX7_readLine 1 (o := 182) rfl) (gB_c lq_cX7_readLine q1_cX7_readLine 2 (o := 0) rfl) (gB_c lq_cX7_readLine q1_cX7_readLine 3 (o := 32) rfl) rfl
theorem dX7_readLine_36 : decode cX7_readLine 36 = .ok (.aload_n 0, 1) := dc_42 (gB_c lq_cX7_readLine q1_cX7_readLine 4 (o := 42) rfl)
theorem dX7_readLine_37 : decode cX7_readLine 37 = .ok (.bipush 45, 2) := dc_16 (gB_c lq_cX7_readLine q1_cX7_readLine 5 (o := 16) rfl) (gB_c lq_cX7_readLine q1_cX7_readLine 6 (o := 45) rfl) rfl
theorem dX7_readLine_39 : decode cX7_readLine 39 = .ok (.invokevirtual 73, 3) := dc_182 (gB_c lq_cX7_readLine q1_cX7_readLine 7 (o := 182) rfl) (gB_c lq_cX7_readLine q1_cX7_readLine 8 (o := 0) rfl) (gB_c lq_cX7_readLine q1_cX7_readLine 9 (o := 73) rfl) rfl
theorem dX7_readLine_42 : decode cX7_readLine 42 = .ok (.ifCond .eq 10, 3) := dc_153 (gB_c lq_cX7_readLine q1_cX7_readLine 10 (o := 153) rfl) (gB_c lq_cX7_readLine q1_cX7_readLine 11 (o := 0) rfl) (gB_c lq_cX7_readLine q1_cX7_readLine 12 (o := 10) rfl) rfl
theorem dX7_readLine_45 : decode cX7_readLine 45 = .ok (.aload_n 0, 1) := dc_42 (gB_c lq_cX7_readLine q1_cX7_readLine 13 (o := 42) rfl)
theorem dX7_readLine_46 : decode cX7_readLine 46 = .ok (.invokevirtual 76, 3) := dc_182 (gB_c lq_cX7_readLine q1_cX7_readLine 14 (o := 182) rfl) (gB_c lq_cX7_readLine q1_cX7_readLine 15 (o := 0) rfl) (gB_c lq_cX7_readLine q1_cX7_readLine 16 (o := 76) rfl) rfl
theorem dX7_readLine_49 : decode cX7_readLine 49 = .ok (.ifCond .ne 5, 3) := dc_154 (gB_c lq_cX7_readLine q1_cX7_readLine 17 (o := 154) rfl) (gB_c lq_cX7_readLine q1_cX7_readLine 18 (o := 0) rfl) (gB_c lq_cX7_readLine q1_cX7_readLine 19 (o := 5) rfl) rfl
theorem dX7_readLine_52 : decode cX7_readLine 52 = .ok (.iconst 0, 1) := dc_3 (gB_c lq_cX7_readLine q1_cX7_readLine 20 (o := 3) rfl)
theorem dX7_readLine_53 : decode cX7_readLine 53 = .ok (.ireturn, 1) := dc_172 (gB_c lq_cX7_readLine q1_cX7_readLine 21 (o := 172) rfl)
theorem dX7_readLine_54 : decode cX7_readLine 54 = .ok (.aload_n 0, 1) := dc_42 (gB_c lq_cX7_readLine q1_cX7_readLine 22 (o := 42) rfl)
theorem dX7_readLine_55 : decode cX7_readLine 55 = .ok (.getfield 59, 3) := dc_180 (gB_c lq_cX7_readLine q1_cX7_readLine 23 (o := 180) rfl) (gB_c lq_cX7_readLine q1_cX7_readLine 24 (o := 0) rfl) (gB_c lq_cX7_readLine q1_cX7_readLine 25 (o := 59) rfl) rfl
theorem dX7_readLine_58 : decode cX7_readLine 58 = .ok (.istore_n 2, 1) := dc_61 (gB_c lq_cX7_readLine q1_cX7_readLine 26 (o := 61) rfl)
theorem dX7_readLine_59 : decode cX7_readLine 59 = .ok (.iload_n 1, 1) := dc_27 (gB_c lq_cX7_readLine q1_cX7_readLine 27 (o := 27) rfl)
theorem dX7_readLine_60 : decode cX7_readLine 60 = .ok (.iload_n 2, 1) := dc_28 (gB_c lq_cX7_readLine q1_cX7_readLine 28 (o := 28) rfl)
theorem dX7_readLine_61 : decode cX7_readLine 61 = .ok (.if_icmp .ne 9, 3) := dc_160 (gB_c lq_cX7_readLine q1_cX7_readLine 29 (o := 160) rfl) (gB_c lq_cX7_readLine q1_cX7_readLine 30 (o := 0) rfl) (gB_c lq_cX7_readLine q1_cX7_readLine 31 (o := 9) rfl) rfl
theorem dX7_readLine_64 : decode cX7_readLine 64 = .ok (.aload_n 0, 1) := dc_42 (gB_c lq_cX7_readLine q2_cX7_readLine 0 (o := 42) rfl)
theorem dX7_readLine_65 : decode cX7_readLine 65 = .ok (.iconst 2, 1) := dc_5 (gB_c lq_cX7_readLine q2_cX7_readLine 1 (o := 5) rfl)
theorem dX7_readLine_66 : decode cX7_readLine 66 = .ok (.invokevirtual 51, 3) := dc_182 (gB_c lq_cX7_readLine q2_cX7_readLine 2 (o := 182) rfl) (gB_c lq_cX7_readLine q2_cX7_readLine 3 (o := 0) rfl) (gB_c lq_cX7_readLine q2_cX7_readLine 4 (o := 51) rfl) rfl
theorem dX7_readLine_69 : decode cX7_readLine 69 = .ok (.ireturn, 1) := dc_172 (gB_c lq_cX7_readLine q2_cX7_readLine 5 (o := 172) rfl)
theorem dX7_readLine_70 : decode cX7_readLine 70 = .ok (.aload_n 0, 1) := dc_42 (gB_c lq_cX7_readLine q2_cX7_readLine 6 (o := 42) rfl)
theorem dX7_readLine_71 : decode cX7_readLine 71 = .ok (.getfield 12, 3) := dc_180 (gB_c lq_cX7_readLine q2_cX7_readLine 7 (o := 180) rfl) (gB_c lq_cX7_readLine q2_cX7_readLine 8 (o := 0) rfl) (gB_c lq_cX7_readLine q2_cX7_readLine 9 (o := 12) rfl) rfl
theorem dX7_readLine_74 : decode cX7_readLine 74 = .ok (.iload_n 1, 1) := dc_27 (gB_c lq_cX7_readLine q2_cX7_readLine 10 (o := 27) rfl)
theorem dX7_readLine_75 : decode cX7_readLine 75 = .ok (.iload_n 2, 1) := dc_28 (gB_c lq_cX7_readLine q2_cX7_readLine 11 (o := 28) rfl)
theorem dX7_readLine_76 : decode cX7_readLine 76 = .ok (.invokevirtual 82, 3) := dc_182 (gB_c lq_cX7_readLine q2_cX7_readLine 12 (o := 182) rfl) (gB_c lq_cX7_readLine q2_cX7_readLine 13 (o := 0) rfl) (gB_c lq_cX7_readLine q2_cX7_readLine 14 (o := 82) rfl) rfl
theorem dX7_readLine_79 : decode cX7_readLine 79 = .ok (.ifCond .le 9, 3) := dc_158 (gB_c lq_cX7_readLine q2_cX7_readLine 15 (o := 158) rfl) (gB_c lq_cX7_readLine q2_cX7_readLine 16 (o := 0) rfl) (gB_c lq_cX7_readLine q2_cX7_readLine 17 (o := 9) rfl) rfl
theorem dX7_readLine_82 : decode cX7_readLine 82 = .ok (.aload_n 0, 1) := dc_42 (gB_c lq_cX7_readLine q2_cX7_readLine 18 (o := 42) rfl)
theorem dX7_readLine_83 : decode cX7_readLine 83 = .ok (.iconst 3, 1) := dc_6 (gB_c lq_cX7_readLine q2_cX7_readLine 19 (o := 6) rfl)
theorem dX7_readLine_84 : decode cX7_readLine 84 = .ok (.invokevirtual 51, 3) := dc_182 (gB_c lq_cX7_readLine q2_cX7_readLine 20 (o := 182) rfl) (gB_c lq_cX7_readLine q2_cX7_readLine 21 (o := 0) rfl) (gB_c lq_cX7_readLine q2_cX7_readLine 22 (o := 51) rfl) rfl
theorem dX7_readLine_87 : decode cX7_readLine 87 = .ok (.ireturn, 1) := dc_172 (gB_c lq_cX7_readLine q2_cX7_readLine 23 (o := 172) rfl)
theorem dX7_readLine_88 : decode cX7_readLine 88 = .ok (.aload_n 0, 1) := dc_42 (gB_c lq_cX7_readLine q2_cX7_readLine 24 (o := 42) rfl)
theorem dX7_readLine_89 : decode cX7_readLine 89 = .ok (.invokevirtual 32, 3) := dc_182 (gB_c lq_cX7_readLine q2_cX7_readLine 25 (o := 182) rfl) (gB_c lq_cX7_readLine q2_cX7_readLine 26 (o := 0) rfl) (gB_c lq_cX7_readLine q2_cX7_readLine 27 (o := 32) rfl) rfl
theorem dX7_readLine_92 : decode cX7_readLine 92 = .ok (.aload_n 0, 1) := dc_42 (gB_c lq_cX7_readLine q2_cX7_readLine 28 (o := 42) rfl)
theorem dX7_readLine_93 : decode cX7_readLine 93 = .ok (.iload_n 1, 1) := dc_27 (gB_c lq_cX7_readLine q2_cX7_readLine 29 (o := 27) rfl)
theorem dX7_readLine_94 : decode cX7_readLine 94 = .ok (.iload_n 2, 1) := dc_28 (gB_c lq_cX7_readLine q2_cX7_readLine 30 (o := 28) rfl)
theorem dX7_readLine_95 : decode cX7_readLine 95 = .ok (.invokevirtual 86, 3) := dc_182 (gB_c lq_cX7_readLine q2_cX7_readLine 31 (o := 182) rfl) (gB_c lq_cX7_readLine q3_cX7_readLine 0 (o := 0) rfl) (gB_c lq_cX7_readLine q3_cX7_readLine 1 (o := 86) rfl) rfl
theorem dX7_readLine_98 : decode cX7_readLine 98 = .ok (.ireturn, 1) := dc_172 (gB_c lq_cX7_readLine q3_cX7_readLine 2 (o := 172) rfl)
abbrev r1_cX7_readLines : List Nat := [42, 16, 44, 182, 0, 66, 60, 132, 2, 1, 167, 255, 223, 42, 16, 59, 182, 0, 73, 172]
def a0_cX7_readLines : List Nat := [42, 16, 58, 182, 0, 66, 60, 3, 61, 27, 153, 0, 35, 28, 16, 30, 163, 0, 29, 42, 182, 0, 32, 42, 182, 0, 70, 154, 0, 5, 3, 172]
abbrev r0_cX7_readLines : List Nat := a0_cX7_readLines ++ r1_cX7_readLines
theorem lq_cX7_readLines : (cX7_readLines).data.toList.map UInt8.toNat = r0_cX7_readLines := by decide +kernel
theorem q1_cX7_readLines : ∀ i, (r0_cX7_readLines)[32 + i]? = (r1_cX7_readLines)[i]? := chn (A := a0_cX7_readLines) (B := r1_cX7_readLines) (n := 0) (k := 32) rfl (ch0 (R := r0_cX7_readLines))
theorem dX7_readLines_0 : decode cX7_readLines 0 = .ok (.aload_n 0, 1) := dc_42 (gB_l lq_cX7_readLines (p := 0) (o := 42) rfl)
theorem dX7_readLines_1 : decode cX7_readLines 1 = .ok (.bipush 58, 2) := dc_16 (gB_l lq_cX7_readLines (p := 1) (o := 16) rfl) (gB_l lq_cX7_readLines (p := 2) (o := 58) rfl) rfl
theorem dX7_readLines_3 : decode cX7_readLines 3 = .ok (.invokevirtual 66, 3) := dc_182 (gB_l lq_cX7_readLines (p := 3) (o := 182) rfl) (gB_l lq_cX7_readLines (p := 4) (o := 0) rfl) (gB_l lq_cX7_readLines (p := 5) (o := 66) rfl) rfl
theorem dX7_readLines_6 : decode cX7_readLines 6 = .ok (.istore_n 1, 1) := dc_60 (gB_l lq_cX7_readLines (p := 6) (o := 60) rfl)
theorem dX7_readLines_7 : decode cX7_readLines 7 = .ok (.iconst 0, 1) := dc_3 (gB_l lq_cX7_readLines (p := 7) (o := 3) rfl)
theorem dX7_readLines_8 : decode cX7_readLines 8 = .ok (.istore_n 2, 1) := dc_61 (gB_l lq_cX7_readLines (p := 8) (o := 61) rfl)
theorem dX7_readLines_9 : decode cX7_readLines 9 = .ok (.iload_n 1, 1) := dc_27 (gB_l lq_cX7_readLines (p := 9) (o := 27) rfl)
theorem dX7_readLines_10 : decode cX7_readLines 10 = .ok (.ifCond .eq 35, 3) := dc_153 (gB_l lq_cX7_readLines (p := 10) (o := 153) rfl) (gB_l lq_cX7_readLines (p := 11) (o := 0) rfl) (gB_l lq_cX7_readLines (p := 12) (o := 35) rfl) rfl
theorem dX7_readLines_13 : decode cX7_readLines 13 = .ok (.iload_n 2, 1) := dc_28 (gB_l lq_cX7_readLines (p := 13) (o := 28) rfl)
theorem dX7_readLines_14 : decode cX7_readLines 14 = .ok (.bipush 30, 2) := dc_16 (gB_l lq_cX7_readLines (p := 14) (o := 16) rfl) (gB_l lq_cX7_readLines (p := 15) (o := 30) rfl) rfl
theorem dX7_readLines_16 : decode cX7_readLines 16 = .ok (.if_icmp .gt 29, 3) := dc_163 (gB_l lq_cX7_readLines (p := 16) (o := 163) rfl) (gB_l lq_cX7_readLines (p := 17) (o := 0) rfl) (gB_l lq_cX7_readLines (p := 18) (o := 29) rfl) rfl
theorem dX7_readLines_19 : decode cX7_readLines 19 = .ok (.aload_n 0, 1) := dc_42 (gB_l lq_cX7_readLines (p := 19) (o := 42) rfl)
theorem dX7_readLines_20 : decode cX7_readLines 20 = .ok (.invokevirtual 32, 3) := dc_182 (gB_l lq_cX7_readLines (p := 20) (o := 182) rfl) (gB_l lq_cX7_readLines (p := 21) (o := 0) rfl) (gB_l lq_cX7_readLines (p := 22) (o := 32) rfl) rfl
theorem dX7_readLines_23 : decode cX7_readLines 23 = .ok (.aload_n 0, 1) := dc_42 (gB_l lq_cX7_readLines (p := 23) (o := 42) rfl)
theorem dX7_readLines_24 : decode cX7_readLines 24 = .ok (.invokevirtual 70, 3) := dc_182 (gB_l lq_cX7_readLines (p := 24) (o := 182) rfl) (gB_l lq_cX7_readLines (p := 25) (o := 0) rfl) (gB_l lq_cX7_readLines (p := 26) (o := 70) rfl) rfl
theorem dX7_readLines_27 : decode cX7_readLines 27 = .ok (.ifCond .ne 5, 3) := dc_154 (gB_l lq_cX7_readLines (p := 27) (o := 154) rfl) (gB_l lq_cX7_readLines (p := 28) (o := 0) rfl) (gB_l lq_cX7_readLines (p := 29) (o := 5) rfl) rfl
theorem dX7_readLines_30 : decode cX7_readLines 30 = .ok (.iconst 0, 1) := dc_3 (gB_l lq_cX7_readLines (p := 30) (o := 3) rfl)
theorem dX7_readLines_31 : decode cX7_readLines 31 = .ok (.ireturn, 1) := dc_172 (gB_l lq_cX7_readLines (p := 31) (o := 172) rfl)
theorem dX7_readLines_32 : decode cX7_readLines 32 = .ok (.aload_n 0, 1) := dc_42 (gB_c lq_cX7_readLines q1_cX7_readLines 0 (o := 42) rfl)
theorem dX7_readLines_33 : decode cX7_readLines 33 = .ok (.bipush 44, 2) := dc_16 (gB_c lq_cX7_readLines q1_cX7_readLines 1 (o := 16) rfl) (gB_c lq_cX7_readLines q1_cX7_readLines 2 (o := 44) rfl) rfl
theorem dX7_readLines_35 : decode cX7_readLines 35 = .ok (.invokevirtual 66, 3) := dc_182 (gB_c lq_cX7_readLines q1_cX7_readLines 3 (o := 182) rfl) (gB_c lq_cX7_readLines q1_cX7_readLines 4 (o := 0) rfl) (gB_c lq_cX7_readLines q1_cX7_readLines 5 (o := 66) rfl) rfl
theorem dX7_readLines_38 : decode cX7_readLines 38 = .ok (.istore_n 1, 1) := dc_60 (gB_c lq_cX7_readLines q1_cX7_readLines 6 (o := 60) rfl)
theorem dX7_readLines_39 : decode cX7_readLines 39 = .ok (.iinc 2 1, 3) := dc_132 (gB_c lq_cX7_readLines q1_cX7_readLines 7 (o := 132) rfl) (gB_c lq_cX7_readLines q1_cX7_readLines 8 (o := 2) rfl) (gB_c lq_cX7_readLines q1_cX7_readLines 9 (o := 1) rfl) rfl
theorem dX7_readLines_42 : decode cX7_readLines 42 = .ok (.goto (-33), 3) := dc_167 (gB_c lq_cX7_readLines q1_cX7_readLines 10 (o := 167) rfl) (gB_c lq_cX7_readLines q1_cX7_readLines 11 (o := 255) rfl) (gB_c lq_cX7_readLines q1_cX7_readLines 12 (o := 223) rfl) rfl
theorem dX7_readLines_45 : decode cX7_readLines 45 = .ok (.aload_n 0, 1) := dc_42 (gB_c lq_cX7_readLines q1_cX7_readLines 13 (o := 42) rfl)
theorem dX7_readLines_46 : decode cX7_readLines 46 = .ok (.bipush 59, 2) := dc_16 (gB_c lq_cX7_readLines q1_cX7_readLines 14 (o := 16) rfl) (gB_c lq_cX7_readLines q1_cX7_readLines 15 (o := 59) rfl) rfl
theorem dX7_readLines_48 : decode cX7_readLines 48 = .ok (.invokevirtual 73, 3) := dc_182 (gB_c lq_cX7_readLines q1_cX7_readLines 16 (o := 182) rfl) (gB_c lq_cX7_readLines q1_cX7_readLines 17 (o := 0) rfl) (gB_c lq_cX7_readLines q1_cX7_readLines 18 (o := 73) rfl) rfl
theorem dX7_readLines_51 : decode cX7_readLines 51 = .ok (.ireturn, 1) := dc_172 (gB_c lq_cX7_readLines q1_cX7_readLines 19 (o := 172) rfl)
abbrev r2_cX7_readRow : List Nat := [73, 153, 0, 22, 42, 180, 0, 93, 153, 0, 11, 42, 4, 182, 0, 51, 153, 0, 7, 4, 167, 0, 4, 3, 172]
def a1_cX7_readRow : List Nat := [5, 159, 0, 9, 42, 4, 182, 0, 51, 172, 42, 182, 0, 98, 154, 0, 9, 42, 8, 182, 0, 51, 172, 42, 182, 0, 32, 42, 16, 59, 182, 0]
abbrev r1_cX7_readRow : List Nat := a1_cX7_readRow ++ r2_cX7_readRow
def a0_cX7_readRow : List Nat := [42, 180, 0, 93, 154, 0, 5, 4, 172, 42, 18, 96, 182, 0, 47, 154, 0, 9, 42, 4, 182, 0, 51, 172, 42, 182, 0, 32, 42, 180, 0, 93]
abbrev r0_cX7_readRow : List Nat := a0_cX7_readRow ++ r1_cX7_readRow
theorem lq_cX7_readRow : (cX7_readRow).data.toList.map UInt8.toNat = r0_cX7_readRow := by decide +kernel
theorem q1_cX7_readRow : ∀ i, (r0_cX7_readRow)[32 + i]? = (r1_cX7_readRow)[i]? := chn (A := a0_cX7_readRow) (B := r1_cX7_readRow) (n := 0) (k := 32) rfl (ch0 (R := r0_cX7_readRow))
theorem q2_cX7_readRow : ∀ i, (r0_cX7_readRow)[64 + i]? = (r2_cX7_readRow)[i]? := chn (A := a1_cX7_readRow) (B := r2_cX7_readRow) (n := 32) (k := 32) rfl q1_cX7_readRow
theorem dX7_readRow_0 : decode cX7_readRow 0 = .ok (.aload_n 0, 1) := dc_42 (gB_l lq_cX7_readRow (p := 0) (o := 42) rfl)
theorem dX7_readRow_1 : decode cX7_readRow 1 = .ok (.getfield 93, 3) := dc_180 (gB_l lq_cX7_readRow (p := 1) (o := 180) rfl) (gB_l lq_cX7_readRow (p := 2) (o := 0) rfl) (gB_l lq_cX7_readRow (p := 3) (o := 93) rfl) rfl
theorem dX7_readRow_4 : decode cX7_readRow 4 = .ok (.ifCond .ne 5, 3) := dc_154 (gB_l lq_cX7_readRow (p := 4) (o := 154) rfl) (gB_l lq_cX7_readRow (p := 5) (o := 0) rfl) (gB_l lq_cX7_readRow (p := 6) (o := 5) rfl) rfl
theorem dX7_readRow_7 : decode cX7_readRow 7 = .ok (.iconst 1, 1) := dc_4 (gB_l lq_cX7_readRow (p := 7) (o := 4) rfl)
theorem dX7_readRow_8 : decode cX7_readRow 8 = .ok (.ireturn, 1) := dc_172 (gB_l lq_cX7_readRow (p := 8) (o := 172) rfl)
theorem dX7_readRow_9 : decode cX7_readRow 9 = .ok (.aload_n 0, 1) := dc_42 (gB_l lq_cX7_readRow (p := 9) (o := 42) rfl)
theorem dX7_readRow_10 : decode cX7_readRow 10 = .ok (.ldc 96, 2) := dc_18 (gB_l lq_cX7_readRow (p := 10) (o := 18) rfl) (gB_l lq_cX7_readRow (p := 11) (o := 96) rfl)
theorem dX7_readRow_12 : decode cX7_readRow 12 = .ok (.invokevirtual 47, 3) := dc_182 (gB_l lq_cX7_readRow (p := 12) (o := 182) rfl) (gB_l lq_cX7_readRow (p := 13) (o := 0) rfl) (gB_l lq_cX7_readRow (p := 14) (o := 47) rfl) rfl
theorem dX7_readRow_15 : decode cX7_readRow 15 = .ok (.ifCond .ne 9, 3) := dc_154 (gB_l lq_cX7_readRow (p := 15) (o := 154) rfl) (gB_l lq_cX7_readRow (p := 16) (o := 0) rfl) (gB_l lq_cX7_readRow (p := 17) (o := 9) rfl) rfl
theorem dX7_readRow_18 : decode cX7_readRow 18 = .ok (.aload_n 0, 1) := dc_42 (gB_l lq_cX7_readRow (p := 18) (o := 42) rfl)
theorem dX7_readRow_19 : decode cX7_readRow 19 = .ok (.iconst 1, 1) := dc_4 (gB_l lq_cX7_readRow (p := 19) (o := 4) rfl)
theorem dX7_readRow_20 : decode cX7_readRow 20 = .ok (.invokevirtual 51, 3) := dc_182 (gB_l lq_cX7_readRow (p := 20) (o := 182) rfl) (gB_l lq_cX7_readRow (p := 21) (o := 0) rfl) (gB_l lq_cX7_readRow (p := 22) (o := 51) rfl) rfl
theorem dX7_readRow_23 : decode cX7_readRow 23 = .ok (.ireturn, 1) := dc_172 (gB_l lq_cX7_readRow (p := 23) (o := 172) rfl)
theorem dX7_readRow_24 : decode cX7_readRow 24 = .ok (.aload_n 0, 1) := dc_42 (gB_l lq_cX7_readRow (p := 24) (o := 42) rfl)
theorem dX7_readRow_25 : decode cX7_readRow 25 = .ok (.invokevirtual 32, 3) := dc_182 (gB_l lq_cX7_readRow (p := 25) (o := 182) rfl) (gB_l lq_cX7_readRow (p := 26) (o := 0) rfl) (gB_l lq_cX7_readRow (p := 27) (o := 32) rfl) rfl
theorem dX7_readRow_28 : decode cX7_readRow 28 = .ok (.aload_n 0, 1) := dc_42 (gB_l lq_cX7_readRow (p := 28) (o := 42) rfl)
theorem dX7_readRow_29 : decode cX7_readRow 29 = .ok (.getfield 93, 3) := dc_180 (gB_l lq_cX7_readRow (p := 29) (o := 180) rfl) (gB_l lq_cX7_readRow (p := 30) (o := 0) rfl) (gB_l lq_cX7_readRow (p := 31) (o := 93) rfl) rfl
theorem dX7_readRow_32 : decode cX7_readRow 32 = .ok (.iconst 2, 1) := dc_5 (gB_c lq_cX7_readRow q1_cX7_readRow 0 (o := 5) rfl)
theorem dX7_readRow_33 : decode cX7_readRow 33 = .ok (.if_icmp .eq 9, 3) := dc_159 (gB_c lq_cX7_readRow q1_cX7_readRow 1 (o := 159) rfl) (gB_c lq_cX7_readRow q1_cX7_readRow 2 (o := 0) rfl) (gB_c lq_cX7_readRow q1_cX7_readRow 3 (o := 9) rfl) rfl
theorem dX7_readRow_36 : decode cX7_readRow 36 = .ok (.aload_n 0, 1) := dc_42 (gB_c lq_cX7_readRow q1_cX7_readRow 4 (o := 42) rfl)
theorem dX7_readRow_37 : decode cX7_readRow 37 = .ok (.iconst 1, 1) := dc_4 (gB_c lq_cX7_readRow q1_cX7_readRow 5 (o := 4) rfl)
theorem dX7_readRow_38 : decode cX7_readRow 38 = .ok (.invokevirtual 51, 3) := dc_182 (gB_c lq_cX7_readRow q1_cX7_readRow 6 (o := 182) rfl) (gB_c lq_cX7_readRow q1_cX7_readRow 7 (o := 0) rfl) (gB_c lq_cX7_readRow q1_cX7_readRow 8 (o := 51) rfl) rfl
theorem dX7_readRow_41 : decode cX7_readRow 41 = .ok (.ireturn, 1) := dc_172 (gB_c lq_cX7_readRow q1_cX7_readRow 9 (o := 172) rfl)
theorem dX7_readRow_42 : decode cX7_readRow 42 = .ok (.aload_n 0, 1) := dc_42 (gB_c lq_cX7_readRow q1_cX7_readRow 10 (o := 42) rfl)
theorem dX7_readRow_43 : decode cX7_readRow 43 = .ok (.invokevirtual 98, 3) := dc_182 (gB_c lq_cX7_readRow q1_cX7_readRow 11 (o := 182) rfl) (gB_c lq_cX7_readRow q1_cX7_readRow 12 (o := 0) rfl) (gB_c lq_cX7_readRow q1_cX7_readRow 13 (o := 98) rfl) rfl
theorem dX7_readRow_46 : decode cX7_readRow 46 = .ok (.ifCond .ne 9, 3) := dc_154 (gB_c lq_cX7_readRow q1_cX7_readRow 14 (o := 154) rfl) (gB_c lq_cX7_readRow q1_cX7_readRow 15 (o := 0) rfl) (gB_c lq_cX7_readRow q1_cX7_readRow 16 (o := 9) rfl) rfl
theorem dX7_readRow_49 : decode cX7_readRow 49 = .ok (.aload_n 0, 1) := dc_42 (gB_c lq_cX7_readRow q1_cX7_readRow 17 (o := 42) rfl)
theorem dX7_readRow_50 : decode cX7_readRow 50 = .ok (.iconst 5, 1) := dc_8 (gB_c lq_cX7_readRow q1_cX7_readRow 18 (o := 8) rfl)
theorem dX7_readRow_51 : decode cX7_readRow 51 = .ok (.invokevirtual 51, 3) := dc_182 (gB_c lq_cX7_readRow q1_cX7_readRow 19 (o := 182) rfl) (gB_c lq_cX7_readRow q1_cX7_readRow 20 (o := 0) rfl) (gB_c lq_cX7_readRow q1_cX7_readRow 21 (o := 51) rfl) rfl
theorem dX7_readRow_54 : decode cX7_readRow 54 = .ok (.ireturn, 1) := dc_172 (gB_c lq_cX7_readRow q1_cX7_readRow 22 (o := 172) rfl)
theorem dX7_readRow_55 : decode cX7_readRow 55 = .ok (.aload_n 0, 1) := dc_42 (gB_c lq_cX7_readRow q1_cX7_readRow 23 (o := 42) rfl)
theorem dX7_readRow_56 : decode cX7_readRow 56 = .ok (.invokevirtual 32, 3) := dc_182 (gB_c lq_cX7_readRow q1_cX7_readRow 24 (o := 182) rfl) (gB_c lq_cX7_readRow q1_cX7_readRow 25 (o := 0) rfl) (gB_c lq_cX7_readRow q1_cX7_readRow 26 (o := 32) rfl) rfl
theorem dX7_readRow_59 : decode cX7_readRow 59 = .ok (.aload_n 0, 1) := dc_42 (gB_c lq_cX7_readRow q1_cX7_readRow 27 (o := 42) rfl)
theorem dX7_readRow_60 : decode cX7_readRow 60 = .ok (.bipush 59, 2) := dc_16 (gB_c lq_cX7_readRow q1_cX7_readRow 28 (o := 16) rfl) (gB_c lq_cX7_readRow q1_cX7_readRow 29 (o := 59) rfl) rfl
theorem dX7_readRow_62 : decode cX7_readRow 62 = .ok (.invokevirtual 73, 3) := dc_182 (gB_c lq_cX7_readRow q1_cX7_readRow 30 (o := 182) rfl) (gB_c lq_cX7_readRow q1_cX7_readRow 31 (o := 0) rfl) (gB_c lq_cX7_readRow q2_cX7_readRow 0 (o := 73) rfl) rfl
theorem dX7_readRow_65 : decode cX7_readRow 65 = .ok (.ifCond .eq 22, 3) := dc_153 (gB_c lq_cX7_readRow q2_cX7_readRow 1 (o := 153) rfl) (gB_c lq_cX7_readRow q2_cX7_readRow 2 (o := 0) rfl) (gB_c lq_cX7_readRow q2_cX7_readRow 3 (o := 22) rfl) rfl
theorem dX7_readRow_68 : decode cX7_readRow 68 = .ok (.aload_n 0, 1) := dc_42 (gB_c lq_cX7_readRow q2_cX7_readRow 4 (o := 42) rfl)
theorem dX7_readRow_69 : decode cX7_readRow 69 = .ok (.getfield 93, 3) := dc_180 (gB_c lq_cX7_readRow q2_cX7_readRow 5 (o := 180) rfl) (gB_c lq_cX7_readRow q2_cX7_readRow 6 (o := 0) rfl) (gB_c lq_cX7_readRow q2_cX7_readRow 7 (o := 93) rfl) rfl
theorem dX7_readRow_72 : decode cX7_readRow 72 = .ok (.ifCond .eq 11, 3) := dc_153 (gB_c lq_cX7_readRow q2_cX7_readRow 8 (o := 153) rfl) (gB_c lq_cX7_readRow q2_cX7_readRow 9 (o := 0) rfl) (gB_c lq_cX7_readRow q2_cX7_readRow 10 (o := 11) rfl) rfl
theorem dX7_readRow_75 : decode cX7_readRow 75 = .ok (.aload_n 0, 1) := dc_42 (gB_c lq_cX7_readRow q2_cX7_readRow 11 (o := 42) rfl)
theorem dX7_readRow_76 : decode cX7_readRow 76 = .ok (.iconst 1, 1) := dc_4 (gB_c lq_cX7_readRow q2_cX7_readRow 12 (o := 4) rfl)
theorem dX7_readRow_77 : decode cX7_readRow 77 = .ok (.invokevirtual 51, 3) := dc_182 (gB_c lq_cX7_readRow q2_cX7_readRow 13 (o := 182) rfl) (gB_c lq_cX7_readRow q2_cX7_readRow 14 (o := 0) rfl) (gB_c lq_cX7_readRow q2_cX7_readRow 15 (o := 51) rfl) rfl
theorem dX7_readRow_80 : decode cX7_readRow 80 = .ok (.ifCond .eq 7, 3) := dc_153 (gB_c lq_cX7_readRow q2_cX7_readRow 16 (o := 153) rfl) (gB_c lq_cX7_readRow q2_cX7_readRow 17 (o := 0) rfl) (gB_c lq_cX7_readRow q2_cX7_readRow 18 (o := 7) rfl) rfl
theorem dX7_readRow_83 : decode cX7_readRow 83 = .ok (.iconst 1, 1) := dc_4 (gB_c lq_cX7_readRow q2_cX7_readRow 19 (o := 4) rfl)
theorem dX7_readRow_84 : decode cX7_readRow 84 = .ok (.goto 4, 3) := dc_167 (gB_c lq_cX7_readRow q2_cX7_readRow 20 (o := 167) rfl) (gB_c lq_cX7_readRow q2_cX7_readRow 21 (o := 0) rfl) (gB_c lq_cX7_readRow q2_cX7_readRow 22 (o := 4) rfl) rfl
theorem dX7_readRow_87 : decode cX7_readRow 87 = .ok (.iconst 0, 1) := dc_3 (gB_c lq_cX7_readRow q2_cX7_readRow 23 (o := 3) rfl)
theorem dX7_readRow_88 : decode cX7_readRow 88 = .ok (.ireturn, 1) := dc_172 (gB_c lq_cX7_readRow q2_cX7_readRow 24 (o := 172) rfl)
abbrev r1_cX7_readWeight : List Nat := [42, 182, 0, 32, 42, 180, 0, 12, 27, 28, 29, 182, 0, 89, 4, 172]
def a0_cX7_readWeight : List Nat := [4, 62, 42, 16, 61, 182, 0, 66, 153, 0, 28, 42, 182, 0, 32, 42, 4, 16, 9, 182, 0, 55, 154, 0, 5, 3, 172, 42, 180, 0, 59, 62]
abbrev r0_cX7_readWeight : List Nat := a0_cX7_readWeight ++ r1_cX7_readWeight
theorem lq_cX7_readWeight : (cX7_readWeight).data.toList.map UInt8.toNat = r0_cX7_readWeight := by decide +kernel
theorem q1_cX7_readWeight : ∀ i, (r0_cX7_readWeight)[32 + i]? = (r1_cX7_readWeight)[i]? := chn (A := a0_cX7_readWeight) (B := r1_cX7_readWeight) (n := 0) (k := 32) rfl (ch0 (R := r0_cX7_readWeight))
theorem dX7_readWeight_0 : decode cX7_readWeight 0 = .ok (.iconst 1, 1) := dc_4 (gB_l lq_cX7_readWeight (p := 0) (o := 4) rfl)
theorem dX7_readWeight_1 : decode cX7_readWeight 1 = .ok (.istore_n 3, 1) := dc_62 (gB_l lq_cX7_readWeight (p := 1) (o := 62) rfl)
theorem dX7_readWeight_2 : decode cX7_readWeight 2 = .ok (.aload_n 0, 1) := dc_42 (gB_l lq_cX7_readWeight (p := 2) (o := 42) rfl)
theorem dX7_readWeight_3 : decode cX7_readWeight 3 = .ok (.bipush 61, 2) := dc_16 (gB_l lq_cX7_readWeight (p := 3) (o := 16) rfl) (gB_l lq_cX7_readWeight (p := 4) (o := 61) rfl) rfl
theorem dX7_readWeight_5 : decode cX7_readWeight 5 = .ok (.invokevirtual 66, 3) := dc_182 (gB_l lq_cX7_readWeight (p := 5) (o := 182) rfl) (gB_l lq_cX7_readWeight (p := 6) (o := 0) rfl) (gB_l lq_cX7_readWeight (p := 7) (o := 66) rfl) rfl
theorem dX7_readWeight_8 : decode cX7_readWeight 8 = .ok (.ifCond .eq 28, 3) := dc_153 (gB_l lq_cX7_readWeight (p := 8) (o := 153) rfl) (gB_l lq_cX7_readWeight (p := 9) (o := 0) rfl) (gB_l lq_cX7_readWeight (p := 10) (o := 28) rfl) rfl
theorem dX7_readWeight_11 : decode cX7_readWeight 11 = .ok (.aload_n 0, 1) := dc_42 (gB_l lq_cX7_readWeight (p := 11) (o := 42) rfl)
theorem dX7_readWeight_12 : decode cX7_readWeight 12 = .ok (.invokevirtual 32, 3) := dc_182 (gB_l lq_cX7_readWeight (p := 12) (o := 182) rfl) (gB_l lq_cX7_readWeight (p := 13) (o := 0) rfl) (gB_l lq_cX7_readWeight (p := 14) (o := 32) rfl) rfl
theorem dX7_readWeight_15 : decode cX7_readWeight 15 = .ok (.aload_n 0, 1) := dc_42 (gB_l lq_cX7_readWeight (p := 15) (o := 42) rfl)
theorem dX7_readWeight_16 : decode cX7_readWeight 16 = .ok (.iconst 1, 1) := dc_4 (gB_l lq_cX7_readWeight (p := 16) (o := 4) rfl)
theorem dX7_readWeight_17 : decode cX7_readWeight 17 = .ok (.bipush 9, 2) := dc_16 (gB_l lq_cX7_readWeight (p := 17) (o := 16) rfl) (gB_l lq_cX7_readWeight (p := 18) (o := 9) rfl) rfl
theorem dX7_readWeight_19 : decode cX7_readWeight 19 = .ok (.invokevirtual 55, 3) := dc_182 (gB_l lq_cX7_readWeight (p := 19) (o := 182) rfl) (gB_l lq_cX7_readWeight (p := 20) (o := 0) rfl) (gB_l lq_cX7_readWeight (p := 21) (o := 55) rfl) rfl
theorem dX7_readWeight_22 : decode cX7_readWeight 22 = .ok (.ifCond .ne 5, 3) := dc_154 (gB_l lq_cX7_readWeight (p := 22) (o := 154) rfl) (gB_l lq_cX7_readWeight (p := 23) (o := 0) rfl) (gB_l lq_cX7_readWeight (p := 24) (o := 5) rfl) rfl
theorem dX7_readWeight_25 : decode cX7_readWeight 25 = .ok (.iconst 0, 1) := dc_3 (gB_l lq_cX7_readWeight (p := 25) (o := 3) rfl)
theorem dX7_readWeight_26 : decode cX7_readWeight 26 = .ok (.ireturn, 1) := dc_172 (gB_l lq_cX7_readWeight (p := 26) (o := 172) rfl)
theorem dX7_readWeight_27 : decode cX7_readWeight 27 = .ok (.aload_n 0, 1) := dc_42 (gB_l lq_cX7_readWeight (p := 27) (o := 42) rfl)
theorem dX7_readWeight_28 : decode cX7_readWeight 28 = .ok (.getfield 59, 3) := dc_180 (gB_l lq_cX7_readWeight (p := 28) (o := 180) rfl) (gB_l lq_cX7_readWeight (p := 29) (o := 0) rfl) (gB_l lq_cX7_readWeight (p := 30) (o := 59) rfl) rfl
theorem dX7_readWeight_31 : decode cX7_readWeight 31 = .ok (.istore_n 3, 1) := dc_62 (gB_l lq_cX7_readWeight (p := 31) (o := 62) rfl)
theorem dX7_readWeight_32 : decode cX7_readWeight 32 = .ok (.aload_n 0, 1) := dc_42 (gB_c lq_cX7_readWeight q1_cX7_readWeight 0 (o := 42) rfl)
theorem dX7_readWeight_33 : decode cX7_readWeight 33 = .ok (.invokevirtual 32, 3) := dc_182 (gB_c lq_cX7_readWeight q1_cX7_readWeight 1 (o := 182) rfl) (gB_c lq_cX7_readWeight q1_cX7_readWeight 2 (o := 0) rfl) (gB_c lq_cX7_readWeight q1_cX7_readWeight 3 (o := 32) rfl) rfl
theorem dX7_readWeight_36 : decode cX7_readWeight 36 = .ok (.aload_n 0, 1) := dc_42 (gB_c lq_cX7_readWeight q1_cX7_readWeight 4 (o := 42) rfl)
theorem dX7_readWeight_37 : decode cX7_readWeight 37 = .ok (.getfield 12, 3) := dc_180 (gB_c lq_cX7_readWeight q1_cX7_readWeight 5 (o := 180) rfl) (gB_c lq_cX7_readWeight q1_cX7_readWeight 6 (o := 0) rfl) (gB_c lq_cX7_readWeight q1_cX7_readWeight 7 (o := 12) rfl) rfl
theorem dX7_readWeight_40 : decode cX7_readWeight 40 = .ok (.iload_n 1, 1) := dc_27 (gB_c lq_cX7_readWeight q1_cX7_readWeight 8 (o := 27) rfl)
theorem dX7_readWeight_41 : decode cX7_readWeight 41 = .ok (.iload_n 2, 1) := dc_28 (gB_c lq_cX7_readWeight q1_cX7_readWeight 9 (o := 28) rfl)
theorem dX7_readWeight_42 : decode cX7_readWeight 42 = .ok (.iload_n 3, 1) := dc_29 (gB_c lq_cX7_readWeight q1_cX7_readWeight 10 (o := 29) rfl)
theorem dX7_readWeight_43 : decode cX7_readWeight 43 = .ok (.invokevirtual 89, 3) := dc_182 (gB_c lq_cX7_readWeight q1_cX7_readWeight 11 (o := 182) rfl) (gB_c lq_cX7_readWeight q1_cX7_readWeight 12 (o := 0) rfl) (gB_c lq_cX7_readWeight q1_cX7_readWeight 13 (o := 89) rfl) rfl
theorem dX7_readWeight_46 : decode cX7_readWeight 46 = .ok (.iconst 1, 1) := dc_4 (gB_c lq_cX7_readWeight q1_cX7_readWeight 14 (o := 4) rfl)
theorem dX7_readWeight_47 : decode cX7_readWeight 47 = .ok (.ireturn, 1) := dc_172 (gB_c lq_cX7_readWeight q1_cX7_readWeight 15 (o := 172) rfl)
abbrev r4_cX7_step : List Nat := [42, 180, 0, 29, 182, 0, 107, 184, 0, 144, 42, 180, 0, 93, 160, 0, 16, 42, 89, 180, 0, 29, 4, 96, 181, 0, 29, 167, 255, 211, 177]
def a3_cX7_step : List Nat := [0, 93, 4, 159, 0, 11, 42, 180, 0, 93, 5, 160, 0, 51, 42, 180, 0, 29, 42, 180, 0, 22, 180, 0, 138, 162, 0, 37, 42, 180, 0, 22]
abbrev r3_cX7_step : List Nat := a3_cX7_step ++ r4_cX7_step
def a2_cX7_step : List Nat := [184, 0, 144, 181, 0, 93, 42, 42, 180, 0, 93, 154, 0, 10, 42, 180, 0, 101, 167, 0, 9, 42, 180, 0, 101, 4, 96, 181, 0, 29, 42, 180]
abbrev r2_cX7_step : List Nat := a2_cX7_step ++ r3_cX7_step
def a1_cX7_step : List Nat := [107, 184, 0, 141, 153, 0, 16, 42, 89, 180, 0, 101, 4, 96, 181, 0, 101, 167, 255, 215, 42, 42, 180, 0, 22, 42, 180, 0, 101, 182, 0, 107]
abbrev r1_cX7_step : List Nat := a1_cX7_step ++ r2_cX7_step
def a0_cX7_step : List Nat := [42, 42, 180, 0, 29, 181, 0, 101, 42, 180, 0, 101, 42, 180, 0, 22, 180, 0, 138, 162, 0, 33, 42, 180, 0, 22, 42, 180, 0, 101, 182, 0]
abbrev r0_cX7_step : List Nat := a0_cX7_step ++ r1_cX7_step
theorem lq_cX7_step : (cX7_step).data.toList.map UInt8.toNat = r0_cX7_step := by decide +kernel
theorem q1_cX7_step : ∀ i, (r0_cX7_step)[32 + i]? = (r1_cX7_step)[i]? := chn (A := a0_cX7_step) (B := r1_cX7_step) (n := 0) (k := 32) rfl (ch0 (R := r0_cX7_step))
theorem q2_cX7_step : ∀ i, (r0_cX7_step)[64 + i]? = (r2_cX7_step)[i]? := chn (A := a1_cX7_step) (B := r2_cX7_step) (n := 32) (k := 32) rfl q1_cX7_step
theorem q3_cX7_step : ∀ i, (r0_cX7_step)[96 + i]? = (r3_cX7_step)[i]? := chn (A := a2_cX7_step) (B := r3_cX7_step) (n := 64) (k := 32) rfl q2_cX7_step
theorem q4_cX7_step : ∀ i, (r0_cX7_step)[128 + i]? = (r4_cX7_step)[i]? := chn (A := a3_cX7_step) (B := r4_cX7_step) (n := 96) (k := 32) rfl q3_cX7_step
theorem dX7_step_0 : decode cX7_step 0 = .ok (.aload_n 0, 1) := dc_42 (gB_l lq_cX7_step (p := 0) (o := 42) rfl)
theorem dX7_step_1 : decode cX7_step 1 = .ok (.aload_n 0, 1) := dc_42 (gB_l lq_cX7_step (p := 1) (o := 42) rfl)
theorem dX7_step_2 : decode cX7_step 2 = .ok (.getfield 29, 3) := dc_180 (gB_l lq_cX7_step (p := 2) (o := 180) rfl) (gB_l lq_cX7_step (p := 3) (o := 0) rfl) (gB_l lq_cX7_step (p := 4) (o := 29) rfl) rfl
theorem dX7_step_5 : decode cX7_step 5 = .ok (.putfield 101, 3) := dc_181 (gB_l lq_cX7_step (p := 5) (o := 181) rfl) (gB_l lq_cX7_step (p := 6) (o := 0) rfl) (gB_l lq_cX7_step (p := 7) (o := 101) rfl) rfl
theorem dX7_step_8 : decode cX7_step 8 = .ok (.aload_n 0, 1) := dc_42 (gB_l lq_cX7_step (p := 8) (o := 42) rfl)
theorem dX7_step_9 : decode cX7_step 9 = .ok (.getfield 101, 3) := dc_180 (gB_l lq_cX7_step (p := 9) (o := 180) rfl) (gB_l lq_cX7_step (p := 10) (o := 0) rfl) (gB_l lq_cX7_step (p := 11) (o := 101) rfl) rfl
theorem dX7_step_12 : decode cX7_step 12 = .ok (.aload_n 0, 1) := dc_42 (gB_l lq_cX7_step (p := 12) (o := 42) rfl)
theorem dX7_step_13 : decode cX7_step 13 = .ok (.getfield 22, 3) := dc_180 (gB_l lq_cX7_step (p := 13) (o := 180) rfl) (gB_l lq_cX7_step (p := 14) (o := 0) rfl) (gB_l lq_cX7_step (p := 15) (o := 22) rfl) rfl
theorem dX7_step_16 : decode cX7_step 16 = .ok (.getfield 138, 3) := dc_180 (gB_l lq_cX7_step (p := 16) (o := 180) rfl) (gB_l lq_cX7_step (p := 17) (o := 0) rfl) (gB_l lq_cX7_step (p := 18) (o := 138) rfl) rfl
theorem dX7_step_19 : decode cX7_step 19 = .ok (.if_icmp .ge 33, 3) := dc_162 (gB_l lq_cX7_step (p := 19) (o := 162) rfl) (gB_l lq_cX7_step (p := 20) (o := 0) rfl) (gB_l lq_cX7_step (p := 21) (o := 33) rfl) rfl
theorem dX7_step_22 : decode cX7_step 22 = .ok (.aload_n 0, 1) := dc_42 (gB_l lq_cX7_step (p := 22) (o := 42) rfl)
theorem dX7_step_23 : decode cX7_step 23 = .ok (.getfield 22, 3) := dc_180 (gB_l lq_cX7_step (p := 23) (o := 180) rfl) (gB_l lq_cX7_step (p := 24) (o := 0) rfl) (gB_l lq_cX7_step (p := 25) (o := 22) rfl) rfl
theorem dX7_step_26 : decode cX7_step 26 = .ok (.aload_n 0, 1) := dc_42 (gB_l lq_cX7_step (p := 26) (o := 42) rfl)
theorem dX7_step_27 : decode cX7_step 27 = .ok (.getfield 101, 3) := dc_180 (gB_l lq_cX7_step (p := 27) (o := 180) rfl) (gB_l lq_cX7_step (p := 28) (o := 0) rfl) (gB_l lq_cX7_step (p := 29) (o := 101) rfl) rfl
theorem dX7_step_30 : decode cX7_step 30 = .ok (.invokevirtual 107, 3) := dc_182 (gB_l lq_cX7_step (p := 30) (o := 182) rfl) (gB_l lq_cX7_step (p := 31) (o := 0) rfl) (gB_c lq_cX7_step q1_cX7_step 0 (o := 107) rfl) rfl
theorem dX7_step_33 : decode cX7_step 33 = .ok (.invokestatic 141, 3) := dc_184 (gB_c lq_cX7_step q1_cX7_step 1 (o := 184) rfl) (gB_c lq_cX7_step q1_cX7_step 2 (o := 0) rfl) (gB_c lq_cX7_step q1_cX7_step 3 (o := 141) rfl) rfl
theorem dX7_step_36 : decode cX7_step 36 = .ok (.ifCond .eq 16, 3) := dc_153 (gB_c lq_cX7_step q1_cX7_step 4 (o := 153) rfl) (gB_c lq_cX7_step q1_cX7_step 5 (o := 0) rfl) (gB_c lq_cX7_step q1_cX7_step 6 (o := 16) rfl) rfl
theorem dX7_step_39 : decode cX7_step 39 = .ok (.aload_n 0, 1) := dc_42 (gB_c lq_cX7_step q1_cX7_step 7 (o := 42) rfl)
theorem dX7_step_40 : decode cX7_step 40 = .ok (.dup, 1) := dc_89 (gB_c lq_cX7_step q1_cX7_step 8 (o := 89) rfl)
theorem dX7_step_41 : decode cX7_step 41 = .ok (.getfield 101, 3) := dc_180 (gB_c lq_cX7_step q1_cX7_step 9 (o := 180) rfl) (gB_c lq_cX7_step q1_cX7_step 10 (o := 0) rfl) (gB_c lq_cX7_step q1_cX7_step 11 (o := 101) rfl) rfl
theorem dX7_step_44 : decode cX7_step 44 = .ok (.iconst 1, 1) := dc_4 (gB_c lq_cX7_step q1_cX7_step 12 (o := 4) rfl)
theorem dX7_step_45 : decode cX7_step 45 = .ok (.iadd, 1) := dc_96 (gB_c lq_cX7_step q1_cX7_step 13 (o := 96) rfl)
theorem dX7_step_46 : decode cX7_step 46 = .ok (.putfield 101, 3) := dc_181 (gB_c lq_cX7_step q1_cX7_step 14 (o := 181) rfl) (gB_c lq_cX7_step q1_cX7_step 15 (o := 0) rfl) (gB_c lq_cX7_step q1_cX7_step 16 (o := 101) rfl) rfl
theorem dX7_step_49 : decode cX7_step 49 = .ok (.goto (-41), 3) := dc_167 (gB_c lq_cX7_step q1_cX7_step 17 (o := 167) rfl) (gB_c lq_cX7_step q1_cX7_step 18 (o := 255) rfl) (gB_c lq_cX7_step q1_cX7_step 19 (o := 215) rfl) rfl
theorem dX7_step_52 : decode cX7_step 52 = .ok (.aload_n 0, 1) := dc_42 (gB_c lq_cX7_step q1_cX7_step 20 (o := 42) rfl)
theorem dX7_step_53 : decode cX7_step 53 = .ok (.aload_n 0, 1) := dc_42 (gB_c lq_cX7_step q1_cX7_step 21 (o := 42) rfl)
theorem dX7_step_54 : decode cX7_step 54 = .ok (.getfield 22, 3) := dc_180 (gB_c lq_cX7_step q1_cX7_step 22 (o := 180) rfl) (gB_c lq_cX7_step q1_cX7_step 23 (o := 0) rfl) (gB_c lq_cX7_step q1_cX7_step 24 (o := 22) rfl) rfl
theorem dX7_step_57 : decode cX7_step 57 = .ok (.aload_n 0, 1) := dc_42 (gB_c lq_cX7_step q1_cX7_step 25 (o := 42) rfl)
theorem dX7_step_58 : decode cX7_step 58 = .ok (.getfield 101, 3) := dc_180 (gB_c lq_cX7_step q1_cX7_step 26 (o := 180) rfl) (gB_c lq_cX7_step q1_cX7_step 27 (o := 0) rfl) (gB_c lq_cX7_step q1_cX7_step 28 (o := 101) rfl) rfl
theorem dX7_step_61 : decode cX7_step 61 = .ok (.invokevirtual 107, 3) := dc_182 (gB_c lq_cX7_step q1_cX7_step 29 (o := 182) rfl) (gB_c lq_cX7_step q1_cX7_step 30 (o := 0) rfl) (gB_c lq_cX7_step q1_cX7_step 31 (o := 107) rfl) rfl
theorem dX7_step_64 : decode cX7_step 64 = .ok (.invokestatic 144, 3) := dc_184 (gB_c lq_cX7_step q2_cX7_step 0 (o := 184) rfl) (gB_c lq_cX7_step q2_cX7_step 1 (o := 0) rfl) (gB_c lq_cX7_step q2_cX7_step 2 (o := 144) rfl) rfl
theorem dX7_step_67 : decode cX7_step 67 = .ok (.putfield 93, 3) := dc_181 (gB_c lq_cX7_step q2_cX7_step 3 (o := 181) rfl) (gB_c lq_cX7_step q2_cX7_step 4 (o := 0) rfl) (gB_c lq_cX7_step q2_cX7_step 5 (o := 93) rfl) rfl
theorem dX7_step_70 : decode cX7_step 70 = .ok (.aload_n 0, 1) := dc_42 (gB_c lq_cX7_step q2_cX7_step 6 (o := 42) rfl)
theorem dX7_step_71 : decode cX7_step 71 = .ok (.aload_n 0, 1) := dc_42 (gB_c lq_cX7_step q2_cX7_step 7 (o := 42) rfl)
theorem dX7_step_72 : decode cX7_step 72 = .ok (.getfield 93, 3) := dc_180 (gB_c lq_cX7_step q2_cX7_step 8 (o := 180) rfl) (gB_c lq_cX7_step q2_cX7_step 9 (o := 0) rfl) (gB_c lq_cX7_step q2_cX7_step 10 (o := 93) rfl) rfl
theorem dX7_step_75 : decode cX7_step 75 = .ok (.ifCond .ne 10, 3) := dc_154 (gB_c lq_cX7_step q2_cX7_step 11 (o := 154) rfl) (gB_c lq_cX7_step q2_cX7_step 12 (o := 0) rfl) (gB_c lq_cX7_step q2_cX7_step 13 (o := 10) rfl) rfl
theorem dX7_step_78 : decode cX7_step 78 = .ok (.aload_n 0, 1) := dc_42 (gB_c lq_cX7_step q2_cX7_step 14 (o := 42) rfl)
theorem dX7_step_79 : decode cX7_step 79 = .ok (.getfield 101, 3) := dc_180 (gB_c lq_cX7_step q2_cX7_step 15 (o := 180) rfl) (gB_c lq_cX7_step q2_cX7_step 16 (o := 0) rfl) (gB_c lq_cX7_step q2_cX7_step 17 (o := 101) rfl) rfl
theorem dX7_step_82 : decode cX7_step 82 = .ok (.goto 9, 3) := dc_167 (gB_c lq_cX7_step q2_cX7_step 18 (o := 167) rfl) (gB_c lq_cX7_step q2_cX7_step 19 (o := 0) rfl) (gB_c lq_cX7_step q2_cX7_step 20 (o := 9) rfl) rfl
theorem dX7_step_85 : decode cX7_step 85 = .ok (.aload_n 0, 1) := dc_42 (gB_c lq_cX7_step q2_cX7_step 21 (o := 42) rfl)
theorem dX7_step_86 : decode cX7_step 86 = .ok (.getfield 101, 3) := dc_180 (gB_c lq_cX7_step q2_cX7_step 22 (o := 180) rfl) (gB_c lq_cX7_step q2_cX7_step 23 (o := 0) rfl) (gB_c lq_cX7_step q2_cX7_step 24 (o := 101) rfl) rfl
theorem dX7_step_89 : decode cX7_step 89 = .ok (.iconst 1, 1) := dc_4 (gB_c lq_cX7_step q2_cX7_step 25 (o := 4) rfl)
theorem dX7_step_90 : decode cX7_step 90 = .ok (.iadd, 1) := dc_96 (gB_c lq_cX7_step q2_cX7_step 26 (o := 96) rfl)
theorem dX7_step_91 : decode cX7_step 91 = .ok (.putfield 29, 3) := dc_181 (gB_c lq_cX7_step q2_cX7_step 27 (o := 181) rfl) (gB_c lq_cX7_step q2_cX7_step 28 (o := 0) rfl) (gB_c lq_cX7_step q2_cX7_step 29 (o := 29) rfl) rfl
theorem dX7_step_94 : decode cX7_step 94 = .ok (.aload_n 0, 1) := dc_42 (gB_c lq_cX7_step q2_cX7_step 30 (o := 42) rfl)
theorem dX7_step_95 : decode cX7_step 95 = .ok (.getfield 93, 3) := dc_180 (gB_c lq_cX7_step q2_cX7_step 31 (o := 180) rfl) (gB_c lq_cX7_step q3_cX7_step 0 (o := 0) rfl) (gB_c lq_cX7_step q3_cX7_step 1 (o := 93) rfl) rfl
theorem dX7_step_98 : decode cX7_step 98 = .ok (.iconst 1, 1) := dc_4 (gB_c lq_cX7_step q3_cX7_step 2 (o := 4) rfl)
theorem dX7_step_99 : decode cX7_step 99 = .ok (.if_icmp .eq 11, 3) := dc_159 (gB_c lq_cX7_step q3_cX7_step 3 (o := 159) rfl) (gB_c lq_cX7_step q3_cX7_step 4 (o := 0) rfl) (gB_c lq_cX7_step q3_cX7_step 5 (o := 11) rfl) rfl
theorem dX7_step_102 : decode cX7_step 102 = .ok (.aload_n 0, 1) := dc_42 (gB_c lq_cX7_step q3_cX7_step 6 (o := 42) rfl)
theorem dX7_step_103 : decode cX7_step 103 = .ok (.getfield 93, 3) := dc_180 (gB_c lq_cX7_step q3_cX7_step 7 (o := 180) rfl) (gB_c lq_cX7_step q3_cX7_step 8 (o := 0) rfl) (gB_c lq_cX7_step q3_cX7_step 9 (o := 93) rfl) rfl
theorem dX7_step_106 : decode cX7_step 106 = .ok (.iconst 2, 1) := dc_5 (gB_c lq_cX7_step q3_cX7_step 10 (o := 5) rfl)
theorem dX7_step_107 : decode cX7_step 107 = .ok (.if_icmp .ne 51, 3) := dc_160 (gB_c lq_cX7_step q3_cX7_step 11 (o := 160) rfl) (gB_c lq_cX7_step q3_cX7_step 12 (o := 0) rfl) (gB_c lq_cX7_step q3_cX7_step 13 (o := 51) rfl) rfl
theorem dX7_step_110 : decode cX7_step 110 = .ok (.aload_n 0, 1) := dc_42 (gB_c lq_cX7_step q3_cX7_step 14 (o := 42) rfl)
theorem dX7_step_111 : decode cX7_step 111 = .ok (.getfield 29, 3) := dc_180 (gB_c lq_cX7_step q3_cX7_step 15 (o := 180) rfl) (gB_c lq_cX7_step q3_cX7_step 16 (o := 0) rfl) (gB_c lq_cX7_step q3_cX7_step 17 (o := 29) rfl) rfl
theorem dX7_step_114 : decode cX7_step 114 = .ok (.aload_n 0, 1) := dc_42 (gB_c lq_cX7_step q3_cX7_step 18 (o := 42) rfl)
theorem dX7_step_115 : decode cX7_step 115 = .ok (.getfield 22, 3) := dc_180 (gB_c lq_cX7_step q3_cX7_step 19 (o := 180) rfl) (gB_c lq_cX7_step q3_cX7_step 20 (o := 0) rfl) (gB_c lq_cX7_step q3_cX7_step 21 (o := 22) rfl) rfl
theorem dX7_step_118 : decode cX7_step 118 = .ok (.getfield 138, 3) := dc_180 (gB_c lq_cX7_step q3_cX7_step 22 (o := 180) rfl) (gB_c lq_cX7_step q3_cX7_step 23 (o := 0) rfl) (gB_c lq_cX7_step q3_cX7_step 24 (o := 138) rfl) rfl
theorem dX7_step_121 : decode cX7_step 121 = .ok (.if_icmp .ge 37, 3) := dc_162 (gB_c lq_cX7_step q3_cX7_step 25 (o := 162) rfl) (gB_c lq_cX7_step q3_cX7_step 26 (o := 0) rfl) (gB_c lq_cX7_step q3_cX7_step 27 (o := 37) rfl) rfl
theorem dX7_step_124 : decode cX7_step 124 = .ok (.aload_n 0, 1) := dc_42 (gB_c lq_cX7_step q3_cX7_step 28 (o := 42) rfl)
theorem dX7_step_125 : decode cX7_step 125 = .ok (.getfield 22, 3) := dc_180 (gB_c lq_cX7_step q3_cX7_step 29 (o := 180) rfl) (gB_c lq_cX7_step q3_cX7_step 30 (o := 0) rfl) (gB_c lq_cX7_step q3_cX7_step 31 (o := 22) rfl) rfl
theorem dX7_step_128 : decode cX7_step 128 = .ok (.aload_n 0, 1) := dc_42 (gB_c lq_cX7_step q4_cX7_step 0 (o := 42) rfl)
theorem dX7_step_129 : decode cX7_step 129 = .ok (.getfield 29, 3) := dc_180 (gB_c lq_cX7_step q4_cX7_step 1 (o := 180) rfl) (gB_c lq_cX7_step q4_cX7_step 2 (o := 0) rfl) (gB_c lq_cX7_step q4_cX7_step 3 (o := 29) rfl) rfl
theorem dX7_step_132 : decode cX7_step 132 = .ok (.invokevirtual 107, 3) := dc_182 (gB_c lq_cX7_step q4_cX7_step 4 (o := 182) rfl) (gB_c lq_cX7_step q4_cX7_step 5 (o := 0) rfl) (gB_c lq_cX7_step q4_cX7_step 6 (o := 107) rfl) rfl
theorem dX7_step_135 : decode cX7_step 135 = .ok (.invokestatic 144, 3) := dc_184 (gB_c lq_cX7_step q4_cX7_step 7 (o := 184) rfl) (gB_c lq_cX7_step q4_cX7_step 8 (o := 0) rfl) (gB_c lq_cX7_step q4_cX7_step 9 (o := 144) rfl) rfl
theorem dX7_step_138 : decode cX7_step 138 = .ok (.aload_n 0, 1) := dc_42 (gB_c lq_cX7_step q4_cX7_step 10 (o := 42) rfl)
theorem dX7_step_139 : decode cX7_step 139 = .ok (.getfield 93, 3) := dc_180 (gB_c lq_cX7_step q4_cX7_step 11 (o := 180) rfl) (gB_c lq_cX7_step q4_cX7_step 12 (o := 0) rfl) (gB_c lq_cX7_step q4_cX7_step 13 (o := 93) rfl) rfl
theorem dX7_step_142 : decode cX7_step 142 = .ok (.if_icmp .ne 16, 3) := dc_160 (gB_c lq_cX7_step q4_cX7_step 14 (o := 160) rfl) (gB_c lq_cX7_step q4_cX7_step 15 (o := 0) rfl) (gB_c lq_cX7_step q4_cX7_step 16 (o := 16) rfl) rfl
theorem dX7_step_145 : decode cX7_step 145 = .ok (.aload_n 0, 1) := dc_42 (gB_c lq_cX7_step q4_cX7_step 17 (o := 42) rfl)
theorem dX7_step_146 : decode cX7_step 146 = .ok (.dup, 1) := dc_89 (gB_c lq_cX7_step q4_cX7_step 18 (o := 89) rfl)
theorem dX7_step_147 : decode cX7_step 147 = .ok (.getfield 29, 3) := dc_180 (gB_c lq_cX7_step q4_cX7_step 19 (o := 180) rfl) (gB_c lq_cX7_step q4_cX7_step 20 (o := 0) rfl) (gB_c lq_cX7_step q4_cX7_step 21 (o := 29) rfl) rfl
theorem dX7_step_150 : decode cX7_step 150 = .ok (.iconst 1, 1) := dc_4 (gB_c lq_cX7_step q4_cX7_step 22 (o := 4) rfl)
theorem dX7_step_151 : decode cX7_step 151 = .ok (.iadd, 1) := dc_96 (gB_c lq_cX7_step q4_cX7_step 23 (o := 96) rfl)
theorem dX7_step_152 : decode cX7_step 152 = .ok (.putfield 29, 3) := dc_181 (gB_c lq_cX7_step q4_cX7_step 24 (o := 181) rfl) (gB_c lq_cX7_step q4_cX7_step 25 (o := 0) rfl) (gB_c lq_cX7_step q4_cX7_step 26 (o := 29) rfl) rfl
theorem dX7_step_155 : decode cX7_step 155 = .ok (.goto (-45), 3) := dc_167 (gB_c lq_cX7_step q4_cX7_step 27 (o := 167) rfl) (gB_c lq_cX7_step q4_cX7_step 28 (o := 255) rfl) (gB_c lq_cX7_step q4_cX7_step 29 (o := 211) rfl) rfl
theorem dX7_step_158 : decode cX7_step 158 = .ok (.return_, 1) := dc_177 (gB_c lq_cX7_step q4_cX7_step 30 (o := 177) rfl)
abbrev r0_cX7_takeSign : List Nat := [42, 27, 182, 0, 66, 154, 0, 9, 42, 4, 182, 0, 51, 172, 42, 182, 0, 32, 4, 172]
theorem lq_cX7_takeSign : (cX7_takeSign).data.toList.map UInt8.toNat = r0_cX7_takeSign := by decide +kernel
theorem dX7_takeSign_0 : decode cX7_takeSign 0 = .ok (.aload_n 0, 1) := dc_42 (gB_l lq_cX7_takeSign (p := 0) (o := 42) rfl)
theorem dX7_takeSign_1 : decode cX7_takeSign 1 = .ok (.iload_n 1, 1) := dc_27 (gB_l lq_cX7_takeSign (p := 1) (o := 27) rfl)
theorem dX7_takeSign_2 : decode cX7_takeSign 2 = .ok (.invokevirtual 66, 3) := dc_182 (gB_l lq_cX7_takeSign (p := 2) (o := 182) rfl) (gB_l lq_cX7_takeSign (p := 3) (o := 0) rfl) (gB_l lq_cX7_takeSign (p := 4) (o := 66) rfl) rfl
theorem dX7_takeSign_5 : decode cX7_takeSign 5 = .ok (.ifCond .ne 9, 3) := dc_154 (gB_l lq_cX7_takeSign (p := 5) (o := 154) rfl) (gB_l lq_cX7_takeSign (p := 6) (o := 0) rfl) (gB_l lq_cX7_takeSign (p := 7) (o := 9) rfl) rfl
theorem dX7_takeSign_8 : decode cX7_takeSign 8 = .ok (.aload_n 0, 1) := dc_42 (gB_l lq_cX7_takeSign (p := 8) (o := 42) rfl)
theorem dX7_takeSign_9 : decode cX7_takeSign 9 = .ok (.iconst 1, 1) := dc_4 (gB_l lq_cX7_takeSign (p := 9) (o := 4) rfl)
theorem dX7_takeSign_10 : decode cX7_takeSign 10 = .ok (.invokevirtual 51, 3) := dc_182 (gB_l lq_cX7_takeSign (p := 10) (o := 182) rfl) (gB_l lq_cX7_takeSign (p := 11) (o := 0) rfl) (gB_l lq_cX7_takeSign (p := 12) (o := 51) rfl) rfl
theorem dX7_takeSign_13 : decode cX7_takeSign 13 = .ok (.ireturn, 1) := dc_172 (gB_l lq_cX7_takeSign (p := 13) (o := 172) rfl)
theorem dX7_takeSign_14 : decode cX7_takeSign 14 = .ok (.aload_n 0, 1) := dc_42 (gB_l lq_cX7_takeSign (p := 14) (o := 42) rfl)
theorem dX7_takeSign_15 : decode cX7_takeSign 15 = .ok (.invokevirtual 32, 3) := dc_182 (gB_l lq_cX7_takeSign (p := 15) (o := 182) rfl) (gB_l lq_cX7_takeSign (p := 16) (o := 0) rfl) (gB_l lq_cX7_takeSign (p := 17) (o := 32) rfl) rfl
theorem dX7_takeSign_18 : decode cX7_takeSign 18 = .ok (.iconst 1, 1) := dc_4 (gB_l lq_cX7_takeSign (p := 18) (o := 4) rfl)
theorem dX7_takeSign_19 : decode cX7_takeSign 19 = .ok (.ireturn, 1) := dc_172 (gB_l lq_cX7_takeSign (p := 19) (o := 172) rfl)
abbrev r0_cX8_bagGoing : List Nat := [42, 27, 182, 0, 61, 61, 4, 42, 180, 0, 21, 27, 46, 120, 42, 28, 28, 2, 130, 184, 0, 64, 128, 172]
theorem lq_cX8_bagGoing : (cX8_bagGoing).data.toList.map UInt8.toNat = r0_cX8_bagGoing := by decide +kernel
theorem dX8_bagGoing_0 : decode cX8_bagGoing 0 = .ok (.aload_n 0, 1) := dc_42 (gB_l lq_cX8_bagGoing (p := 0) (o := 42) rfl)
theorem dX8_bagGoing_1 : decode cX8_bagGoing 1 = .ok (.iload_n 1, 1) := dc_27 (gB_l lq_cX8_bagGoing (p := 1) (o := 27) rfl)
theorem dX8_bagGoing_2 : decode cX8_bagGoing 2 = .ok (.invokevirtual 61, 3) := dc_182 (gB_l lq_cX8_bagGoing (p := 2) (o := 182) rfl) (gB_l lq_cX8_bagGoing (p := 3) (o := 0) rfl) (gB_l lq_cX8_bagGoing (p := 4) (o := 61) rfl) rfl
theorem dX8_bagGoing_5 : decode cX8_bagGoing 5 = .ok (.istore_n 2, 1) := dc_61 (gB_l lq_cX8_bagGoing (p := 5) (o := 61) rfl)
theorem dX8_bagGoing_6 : decode cX8_bagGoing 6 = .ok (.iconst 1, 1) := dc_4 (gB_l lq_cX8_bagGoing (p := 6) (o := 4) rfl)
theorem dX8_bagGoing_7 : decode cX8_bagGoing 7 = .ok (.aload_n 0, 1) := dc_42 (gB_l lq_cX8_bagGoing (p := 7) (o := 42) rfl)
theorem dX8_bagGoing_8 : decode cX8_bagGoing 8 = .ok (.getfield 21, 3) := dc_180 (gB_l lq_cX8_bagGoing (p := 8) (o := 180) rfl) (gB_l lq_cX8_bagGoing (p := 9) (o := 0) rfl) (gB_l lq_cX8_bagGoing (p := 10) (o := 21) rfl) rfl
theorem dX8_bagGoing_11 : decode cX8_bagGoing 11 = .ok (.iload_n 1, 1) := dc_27 (gB_l lq_cX8_bagGoing (p := 11) (o := 27) rfl)
theorem dX8_bagGoing_12 : decode cX8_bagGoing 12 = .ok (.iaload, 1) := dc_46 (gB_l lq_cX8_bagGoing (p := 12) (o := 46) rfl)
theorem dX8_bagGoing_13 : decode cX8_bagGoing 13 = .ok (.ishl, 1) := dc_120 (gB_l lq_cX8_bagGoing (p := 13) (o := 120) rfl)
theorem dX8_bagGoing_14 : decode cX8_bagGoing 14 = .ok (.aload_n 0, 1) := dc_42 (gB_l lq_cX8_bagGoing (p := 14) (o := 42) rfl)
theorem dX8_bagGoing_15 : decode cX8_bagGoing 15 = .ok (.iload_n 2, 1) := dc_28 (gB_l lq_cX8_bagGoing (p := 15) (o := 28) rfl)
theorem dX8_bagGoing_16 : decode cX8_bagGoing 16 = .ok (.iload_n 2, 1) := dc_28 (gB_l lq_cX8_bagGoing (p := 16) (o := 28) rfl)
theorem dX8_bagGoing_17 : decode cX8_bagGoing 17 = .ok (.iconst (-1), 1) := dc_2 (gB_l lq_cX8_bagGoing (p := 17) (o := 2) rfl)
theorem dX8_bagGoing_18 : decode cX8_bagGoing 18 = .ok (.ixor, 1) := dc_130 (gB_l lq_cX8_bagGoing (p := 18) (o := 130) rfl)
theorem dX8_bagGoing_19 : decode cX8_bagGoing 19 = .ok (.invokestatic 64, 3) := dc_184 (gB_l lq_cX8_bagGoing (p := 19) (o := 184) rfl) (gB_l lq_cX8_bagGoing (p := 20) (o := 0) rfl) (gB_l lq_cX8_bagGoing (p := 21) (o := 64) rfl) rfl
theorem dX8_bagGoing_22 : decode cX8_bagGoing 22 = .ok (.ior, 1) := dc_128 (gB_l lq_cX8_bagGoing (p := 22) (o := 128) rfl)
theorem dX8_bagGoing_23 : decode cX8_bagGoing 23 = .ok (.ireturn, 1) := dc_172 (gB_l lq_cX8_bagGoing (p := 23) (o := 172) rfl)
abbrev r0_cX8_bagTaken : List Nat := [42, 180, 0, 21, 27, 46, 61, 4, 28, 120, 42, 42, 27, 182, 0, 61, 28, 184, 0, 67, 128, 172]
theorem lq_cX8_bagTaken : (cX8_bagTaken).data.toList.map UInt8.toNat = r0_cX8_bagTaken := by decide +kernel
theorem dX8_bagTaken_0 : decode cX8_bagTaken 0 = .ok (.aload_n 0, 1) := dc_42 (gB_l lq_cX8_bagTaken (p := 0) (o := 42) rfl)
theorem dX8_bagTaken_1 : decode cX8_bagTaken 1 = .ok (.getfield 21, 3) := dc_180 (gB_l lq_cX8_bagTaken (p := 1) (o := 180) rfl) (gB_l lq_cX8_bagTaken (p := 2) (o := 0) rfl) (gB_l lq_cX8_bagTaken (p := 3) (o := 21) rfl) rfl
theorem dX8_bagTaken_4 : decode cX8_bagTaken 4 = .ok (.iload_n 1, 1) := dc_27 (gB_l lq_cX8_bagTaken (p := 4) (o := 27) rfl)
theorem dX8_bagTaken_5 : decode cX8_bagTaken 5 = .ok (.iaload, 1) := dc_46 (gB_l lq_cX8_bagTaken (p := 5) (o := 46) rfl)
theorem dX8_bagTaken_6 : decode cX8_bagTaken 6 = .ok (.istore_n 2, 1) := dc_61 (gB_l lq_cX8_bagTaken (p := 6) (o := 61) rfl)
theorem dX8_bagTaken_7 : decode cX8_bagTaken 7 = .ok (.iconst 1, 1) := dc_4 (gB_l lq_cX8_bagTaken (p := 7) (o := 4) rfl)
theorem dX8_bagTaken_8 : decode cX8_bagTaken 8 = .ok (.iload_n 2, 1) := dc_28 (gB_l lq_cX8_bagTaken (p := 8) (o := 28) rfl)
theorem dX8_bagTaken_9 : decode cX8_bagTaken 9 = .ok (.ishl, 1) := dc_120 (gB_l lq_cX8_bagTaken (p := 9) (o := 120) rfl)
theorem dX8_bagTaken_10 : decode cX8_bagTaken 10 = .ok (.aload_n 0, 1) := dc_42 (gB_l lq_cX8_bagTaken (p := 10) (o := 42) rfl)
theorem dX8_bagTaken_11 : decode cX8_bagTaken 11 = .ok (.aload_n 0, 1) := dc_42 (gB_l lq_cX8_bagTaken (p := 11) (o := 42) rfl)
theorem dX8_bagTaken_12 : decode cX8_bagTaken 12 = .ok (.iload_n 1, 1) := dc_27 (gB_l lq_cX8_bagTaken (p := 12) (o := 27) rfl)
theorem dX8_bagTaken_13 : decode cX8_bagTaken 13 = .ok (.invokevirtual 61, 3) := dc_182 (gB_l lq_cX8_bagTaken (p := 13) (o := 182) rfl) (gB_l lq_cX8_bagTaken (p := 14) (o := 0) rfl) (gB_l lq_cX8_bagTaken (p := 15) (o := 61) rfl) rfl
theorem dX8_bagTaken_16 : decode cX8_bagTaken 16 = .ok (.iload_n 2, 1) := dc_28 (gB_l lq_cX8_bagTaken (p := 16) (o := 28) rfl)
theorem dX8_bagTaken_17 : decode cX8_bagTaken 17 = .ok (.invokestatic 67, 3) := dc_184 (gB_l lq_cX8_bagTaken (p := 17) (o := 184) rfl) (gB_l lq_cX8_bagTaken (p := 18) (o := 0) rfl) (gB_l lq_cX8_bagTaken (p := 19) (o := 67) rfl) rfl
theorem dX8_bagTaken_20 : decode cX8_bagTaken 20 = .ok (.ior, 1) := dc_128 (gB_l lq_cX8_bagTaken (p := 20) (o := 128) rfl)
theorem dX8_bagTaken_21 : decode cX8_bagTaken 21 = .ok (.ireturn, 1) := dc_172 (gB_l lq_cX8_bagTaken (p := 21) (o := 172) rfl)
abbrev r1_cX8_bitAt : List Nat := [255, 229, 2, 172]
def a0_cX8_bitAt : List Nat := [3, 61, 3, 62, 29, 16, 9, 162, 0, 27, 26, 29, 122, 4, 126, 153, 0, 13, 28, 27, 160, 0, 5, 29, 172, 132, 2, 1, 132, 3, 1, 167]
abbrev r0_cX8_bitAt : List Nat := a0_cX8_bitAt ++ r1_cX8_bitAt
theorem lq_cX8_bitAt : (cX8_bitAt).data.toList.map UInt8.toNat = r0_cX8_bitAt := by decide +kernel
theorem q1_cX8_bitAt : ∀ i, (r0_cX8_bitAt)[32 + i]? = (r1_cX8_bitAt)[i]? := chn (A := a0_cX8_bitAt) (B := r1_cX8_bitAt) (n := 0) (k := 32) rfl (ch0 (R := r0_cX8_bitAt))
theorem dX8_bitAt_0 : decode cX8_bitAt 0 = .ok (.iconst 0, 1) := dc_3 (gB_l lq_cX8_bitAt (p := 0) (o := 3) rfl)
theorem dX8_bitAt_1 : decode cX8_bitAt 1 = .ok (.istore_n 2, 1) := dc_61 (gB_l lq_cX8_bitAt (p := 1) (o := 61) rfl)
theorem dX8_bitAt_2 : decode cX8_bitAt 2 = .ok (.iconst 0, 1) := dc_3 (gB_l lq_cX8_bitAt (p := 2) (o := 3) rfl)
theorem dX8_bitAt_3 : decode cX8_bitAt 3 = .ok (.istore_n 3, 1) := dc_62 (gB_l lq_cX8_bitAt (p := 3) (o := 62) rfl)
theorem dX8_bitAt_4 : decode cX8_bitAt 4 = .ok (.iload_n 3, 1) := dc_29 (gB_l lq_cX8_bitAt (p := 4) (o := 29) rfl)
theorem dX8_bitAt_5 : decode cX8_bitAt 5 = .ok (.bipush 9, 2) := dc_16 (gB_l lq_cX8_bitAt (p := 5) (o := 16) rfl) (gB_l lq_cX8_bitAt (p := 6) (o := 9) rfl) rfl
theorem dX8_bitAt_7 : decode cX8_bitAt 7 = .ok (.if_icmp .ge 27, 3) := dc_162 (gB_l lq_cX8_bitAt (p := 7) (o := 162) rfl) (gB_l lq_cX8_bitAt (p := 8) (o := 0) rfl) (gB_l lq_cX8_bitAt (p := 9) (o := 27) rfl) rfl
theorem dX8_bitAt_10 : decode cX8_bitAt 10 = .ok (.iload_n 0, 1) := dc_26 (gB_l lq_cX8_bitAt (p := 10) (o := 26) rfl)
theorem dX8_bitAt_11 : decode cX8_bitAt 11 = .ok (.iload_n 3, 1) := dc_29 (gB_l lq_cX8_bitAt (p := 11) (o := 29) rfl)
theorem dX8_bitAt_12 : decode cX8_bitAt 12 = .ok (.ishr, 1) := dc_122 (gB_l lq_cX8_bitAt (p := 12) (o := 122) rfl)
theorem dX8_bitAt_13 : decode cX8_bitAt 13 = .ok (.iconst 1, 1) := dc_4 (gB_l lq_cX8_bitAt (p := 13) (o := 4) rfl)
theorem dX8_bitAt_14 : decode cX8_bitAt 14 = .ok (.iand, 1) := dc_126 (gB_l lq_cX8_bitAt (p := 14) (o := 126) rfl)
theorem dX8_bitAt_15 : decode cX8_bitAt 15 = .ok (.ifCond .eq 13, 3) := dc_153 (gB_l lq_cX8_bitAt (p := 15) (o := 153) rfl) (gB_l lq_cX8_bitAt (p := 16) (o := 0) rfl) (gB_l lq_cX8_bitAt (p := 17) (o := 13) rfl) rfl
theorem dX8_bitAt_18 : decode cX8_bitAt 18 = .ok (.iload_n 2, 1) := dc_28 (gB_l lq_cX8_bitAt (p := 18) (o := 28) rfl)
theorem dX8_bitAt_19 : decode cX8_bitAt 19 = .ok (.iload_n 1, 1) := dc_27 (gB_l lq_cX8_bitAt (p := 19) (o := 27) rfl)
theorem dX8_bitAt_20 : decode cX8_bitAt 20 = .ok (.if_icmp .ne 5, 3) := dc_160 (gB_l lq_cX8_bitAt (p := 20) (o := 160) rfl) (gB_l lq_cX8_bitAt (p := 21) (o := 0) rfl) (gB_l lq_cX8_bitAt (p := 22) (o := 5) rfl) rfl
theorem dX8_bitAt_23 : decode cX8_bitAt 23 = .ok (.iload_n 3, 1) := dc_29 (gB_l lq_cX8_bitAt (p := 23) (o := 29) rfl)
theorem dX8_bitAt_24 : decode cX8_bitAt 24 = .ok (.ireturn, 1) := dc_172 (gB_l lq_cX8_bitAt (p := 24) (o := 172) rfl)
theorem dX8_bitAt_25 : decode cX8_bitAt 25 = .ok (.iinc 2 1, 3) := dc_132 (gB_l lq_cX8_bitAt (p := 25) (o := 132) rfl) (gB_l lq_cX8_bitAt (p := 26) (o := 2) rfl) (gB_l lq_cX8_bitAt (p := 27) (o := 1) rfl) rfl
theorem dX8_bitAt_28 : decode cX8_bitAt 28 = .ok (.iinc 3 1, 3) := dc_132 (gB_l lq_cX8_bitAt (p := 28) (o := 132) rfl) (gB_l lq_cX8_bitAt (p := 29) (o := 3) rfl) (gB_l lq_cX8_bitAt (p := 30) (o := 1) rfl) rfl
theorem dX8_bitAt_31 : decode cX8_bitAt 31 = .ok (.goto (-27), 3) := dc_167 (gB_l lq_cX8_bitAt (p := 31) (o := 167) rfl) (gB_c lq_cX8_bitAt q1_cX8_bitAt 0 (o := 255) rfl) (gB_c lq_cX8_bitAt q1_cX8_bitAt 1 (o := 229) rfl) rfl
theorem dX8_bitAt_34 : decode cX8_bitAt 34 = .ok (.iconst (-1), 1) := dc_2 (gB_c lq_cX8_bitAt q1_cX8_bitAt 2 (o := 2) rfl)
theorem dX8_bitAt_35 : decode cX8_bitAt 35 = .ok (.ireturn, 1) := dc_172 (gB_c lq_cX8_bitAt q1_cX8_bitAt 3 (o := 172) rfl)
abbrev r3_cX8_changeBestTwo : List Nat := [42, 29, 21, 4, 182, 0, 89, 4, 172]
def a2_cX8_changeBestTwo : List Nat := [162, 0, 13, 21, 7, 61, 21, 5, 62, 21, 6, 54, 4, 132, 6, 1, 167, 255, 205, 132, 5, 1, 167, 255, 184, 29, 2, 160, 0, 5, 3, 172]
abbrev r2_cX8_changeBestTwo : List Nat := a2_cX8_changeBestTwo ++ r3_cX8_changeBestTwo
def a1_cX8_changeBestTwo : List Nat := [180, 0, 15, 162, 0, 48, 42, 21, 5, 21, 6, 182, 0, 89, 42, 27, 184, 0, 85, 54, 7, 42, 21, 5, 21, 6, 182, 0, 89, 21, 7, 28]
abbrev r1_cX8_changeBestTwo : List Nat := a1_cX8_changeBestTwo ++ r2_cX8_changeBestTwo
def a0_cX8_changeBestTwo : List Nat := [42, 27, 184, 0, 85, 61, 2, 62, 2, 54, 4, 3, 54, 5, 21, 5, 42, 180, 0, 15, 162, 0, 69, 21, 5, 4, 96, 54, 6, 21, 6, 42]
abbrev r0_cX8_changeBestTwo : List Nat := a0_cX8_changeBestTwo ++ r1_cX8_changeBestTwo
theorem lq_cX8_changeBestTwo : (cX8_changeBestTwo).data.toList.map UInt8.toNat = r0_cX8_changeBestTwo := by decide +kernel
theorem q1_cX8_changeBestTwo : ∀ i, (r0_cX8_changeBestTwo)[32 + i]? = (r1_cX8_changeBestTwo)[i]? := chn (A := a0_cX8_changeBestTwo) (B := r1_cX8_changeBestTwo) (n := 0) (k := 32) rfl (ch0 (R := r0_cX8_changeBestTwo))
theorem q2_cX8_changeBestTwo : ∀ i, (r0_cX8_changeBestTwo)[64 + i]? = (r2_cX8_changeBestTwo)[i]? := chn (A := a1_cX8_changeBestTwo) (B := r2_cX8_changeBestTwo) (n := 32) (k := 32) rfl q1_cX8_changeBestTwo
theorem q3_cX8_changeBestTwo : ∀ i, (r0_cX8_changeBestTwo)[96 + i]? = (r3_cX8_changeBestTwo)[i]? := chn (A := a2_cX8_changeBestTwo) (B := r3_cX8_changeBestTwo) (n := 64) (k := 32) rfl q2_cX8_changeBestTwo
theorem dX8_changeBestTwo_0 : decode cX8_changeBestTwo 0 = .ok (.aload_n 0, 1) := dc_42 (gB_l lq_cX8_changeBestTwo (p := 0) (o := 42) rfl)
theorem dX8_changeBestTwo_1 : decode cX8_changeBestTwo 1 = .ok (.iload_n 1, 1) := dc_27 (gB_l lq_cX8_changeBestTwo (p := 1) (o := 27) rfl)
theorem dX8_changeBestTwo_2 : decode cX8_changeBestTwo 2 = .ok (.invokestatic 85, 3) := dc_184 (gB_l lq_cX8_changeBestTwo (p := 2) (o := 184) rfl) (gB_l lq_cX8_changeBestTwo (p := 3) (o := 0) rfl) (gB_l lq_cX8_changeBestTwo (p := 4) (o := 85) rfl) rfl
theorem dX8_changeBestTwo_5 : decode cX8_changeBestTwo 5 = .ok (.istore_n 2, 1) := dc_61 (gB_l lq_cX8_changeBestTwo (p := 5) (o := 61) rfl)
theorem dX8_changeBestTwo_6 : decode cX8_changeBestTwo 6 = .ok (.iconst (-1), 1) := dc_2 (gB_l lq_cX8_changeBestTwo (p := 6) (o := 2) rfl)
theorem dX8_changeBestTwo_7 : decode cX8_changeBestTwo 7 = .ok (.istore_n 3, 1) := dc_62 (gB_l lq_cX8_changeBestTwo (p := 7) (o := 62) rfl)
theorem dX8_changeBestTwo_8 : decode cX8_changeBestTwo 8 = .ok (.iconst (-1), 1) := dc_2 (gB_l lq_cX8_changeBestTwo (p := 8) (o := 2) rfl)
theorem dX8_changeBestTwo_9 : decode cX8_changeBestTwo 9 = .ok (.istore 4, 2) := dc_54 (gB_l lq_cX8_changeBestTwo (p := 9) (o := 54) rfl) (gB_l lq_cX8_changeBestTwo (p := 10) (o := 4) rfl)
theorem dX8_changeBestTwo_11 : decode cX8_changeBestTwo 11 = .ok (.iconst 0, 1) := dc_3 (gB_l lq_cX8_changeBestTwo (p := 11) (o := 3) rfl)
theorem dX8_changeBestTwo_12 : decode cX8_changeBestTwo 12 = .ok (.istore 5, 2) := dc_54 (gB_l lq_cX8_changeBestTwo (p := 12) (o := 54) rfl) (gB_l lq_cX8_changeBestTwo (p := 13) (o := 5) rfl)
theorem dX8_changeBestTwo_14 : decode cX8_changeBestTwo 14 = .ok (.iload 5, 2) := dc_21 (gB_l lq_cX8_changeBestTwo (p := 14) (o := 21) rfl) (gB_l lq_cX8_changeBestTwo (p := 15) (o := 5) rfl)
theorem dX8_changeBestTwo_16 : decode cX8_changeBestTwo 16 = .ok (.aload_n 0, 1) := dc_42 (gB_l lq_cX8_changeBestTwo (p := 16) (o := 42) rfl)
theorem dX8_changeBestTwo_17 : decode cX8_changeBestTwo 17 = .ok (.getfield 15, 3) := dc_180 (gB_l lq_cX8_changeBestTwo (p := 17) (o := 180) rfl) (gB_l lq_cX8_changeBestTwo (p := 18) (o := 0) rfl) (gB_l lq_cX8_changeBestTwo (p := 19) (o := 15) rfl) rfl
theorem dX8_changeBestTwo_20 : decode cX8_changeBestTwo 20 = .ok (.if_icmp .ge 69, 3) := dc_162 (gB_l lq_cX8_changeBestTwo (p := 20) (o := 162) rfl) (gB_l lq_cX8_changeBestTwo (p := 21) (o := 0) rfl) (gB_l lq_cX8_changeBestTwo (p := 22) (o := 69) rfl) rfl
theorem dX8_changeBestTwo_23 : decode cX8_changeBestTwo 23 = .ok (.iload 5, 2) := dc_21 (gB_l lq_cX8_changeBestTwo (p := 23) (o := 21) rfl) (gB_l lq_cX8_changeBestTwo (p := 24) (o := 5) rfl)
theorem dX8_changeBestTwo_25 : decode cX8_changeBestTwo 25 = .ok (.iconst 1, 1) := dc_4 (gB_l lq_cX8_changeBestTwo (p := 25) (o := 4) rfl)
theorem dX8_changeBestTwo_26 : decode cX8_changeBestTwo 26 = .ok (.iadd, 1) := dc_96 (gB_l lq_cX8_changeBestTwo (p := 26) (o := 96) rfl)
theorem dX8_changeBestTwo_27 : decode cX8_changeBestTwo 27 = .ok (.istore 6, 2) := dc_54 (gB_l lq_cX8_changeBestTwo (p := 27) (o := 54) rfl) (gB_l lq_cX8_changeBestTwo (p := 28) (o := 6) rfl)
theorem dX8_changeBestTwo_29 : decode cX8_changeBestTwo 29 = .ok (.iload 6, 2) := dc_21 (gB_l lq_cX8_changeBestTwo (p := 29) (o := 21) rfl) (gB_l lq_cX8_changeBestTwo (p := 30) (o := 6) rfl)
theorem dX8_changeBestTwo_31 : decode cX8_changeBestTwo 31 = .ok (.aload_n 0, 1) := dc_42 (gB_l lq_cX8_changeBestTwo (p := 31) (o := 42) rfl)
theorem dX8_changeBestTwo_32 : decode cX8_changeBestTwo 32 = .ok (.getfield 15, 3) := dc_180 (gB_c lq_cX8_changeBestTwo q1_cX8_changeBestTwo 0 (o := 180) rfl) (gB_c lq_cX8_changeBestTwo q1_cX8_changeBestTwo 1 (o := 0) rfl) (gB_c lq_cX8_changeBestTwo q1_cX8_changeBestTwo 2 (o := 15) rfl) rfl
theorem dX8_changeBestTwo_35 : decode cX8_changeBestTwo 35 = .ok (.if_icmp .ge 48, 3) := dc_162 (gB_c lq_cX8_changeBestTwo q1_cX8_changeBestTwo 3 (o := 162) rfl) (gB_c lq_cX8_changeBestTwo q1_cX8_changeBestTwo 4 (o := 0) rfl) (gB_c lq_cX8_changeBestTwo q1_cX8_changeBestTwo 5 (o := 48) rfl) rfl
theorem dX8_changeBestTwo_38 : decode cX8_changeBestTwo 38 = .ok (.aload_n 0, 1) := dc_42 (gB_c lq_cX8_changeBestTwo q1_cX8_changeBestTwo 6 (o := 42) rfl)
theorem dX8_changeBestTwo_39 : decode cX8_changeBestTwo 39 = .ok (.iload 5, 2) := dc_21 (gB_c lq_cX8_changeBestTwo q1_cX8_changeBestTwo 7 (o := 21) rfl) (gB_c lq_cX8_changeBestTwo q1_cX8_changeBestTwo 8 (o := 5) rfl)
theorem dX8_changeBestTwo_41 : decode cX8_changeBestTwo 41 = .ok (.iload 6, 2) := dc_21 (gB_c lq_cX8_changeBestTwo q1_cX8_changeBestTwo 9 (o := 21) rfl) (gB_c lq_cX8_changeBestTwo q1_cX8_changeBestTwo 10 (o := 6) rfl)
theorem dX8_changeBestTwo_43 : decode cX8_changeBestTwo 43 = .ok (.invokevirtual 89, 3) := dc_182 (gB_c lq_cX8_changeBestTwo q1_cX8_changeBestTwo 11 (o := 182) rfl) (gB_c lq_cX8_changeBestTwo q1_cX8_changeBestTwo 12 (o := 0) rfl) (gB_c lq_cX8_changeBestTwo q1_cX8_changeBestTwo 13 (o := 89) rfl) rfl
theorem dX8_changeBestTwo_46 : decode cX8_changeBestTwo 46 = .ok (.aload_n 0, 1) := dc_42 (gB_c lq_cX8_changeBestTwo q1_cX8_changeBestTwo 14 (o := 42) rfl)
theorem dX8_changeBestTwo_47 : decode cX8_changeBestTwo 47 = .ok (.iload_n 1, 1) := dc_27 (gB_c lq_cX8_changeBestTwo q1_cX8_changeBestTwo 15 (o := 27) rfl)
theorem dX8_changeBestTwo_48 : decode cX8_changeBestTwo 48 = .ok (.invokestatic 85, 3) := dc_184 (gB_c lq_cX8_changeBestTwo q1_cX8_changeBestTwo 16 (o := 184) rfl) (gB_c lq_cX8_changeBestTwo q1_cX8_changeBestTwo 17 (o := 0) rfl) (gB_c lq_cX8_changeBestTwo q1_cX8_changeBestTwo 18 (o := 85) rfl) rfl
theorem dX8_changeBestTwo_51 : decode cX8_changeBestTwo 51 = .ok (.istore 7, 2) := dc_54 (gB_c lq_cX8_changeBestTwo q1_cX8_changeBestTwo 19 (o := 54) rfl) (gB_c lq_cX8_changeBestTwo q1_cX8_changeBestTwo 20 (o := 7) rfl)
theorem dX8_changeBestTwo_53 : decode cX8_changeBestTwo 53 = .ok (.aload_n 0, 1) := dc_42 (gB_c lq_cX8_changeBestTwo q1_cX8_changeBestTwo 21 (o := 42) rfl)
theorem dX8_changeBestTwo_54 : decode cX8_changeBestTwo 54 = .ok (.iload 5, 2) := dc_21 (gB_c lq_cX8_changeBestTwo q1_cX8_changeBestTwo 22 (o := 21) rfl) (gB_c lq_cX8_changeBestTwo q1_cX8_changeBestTwo 23 (o := 5) rfl)
theorem dX8_changeBestTwo_56 : decode cX8_changeBestTwo 56 = .ok (.iload 6, 2) := dc_21 (gB_c lq_cX8_changeBestTwo q1_cX8_changeBestTwo 24 (o := 21) rfl) (gB_c lq_cX8_changeBestTwo q1_cX8_changeBestTwo 25 (o := 6) rfl)
theorem dX8_changeBestTwo_58 : decode cX8_changeBestTwo 58 = .ok (.invokevirtual 89, 3) := dc_182 (gB_c lq_cX8_changeBestTwo q1_cX8_changeBestTwo 26 (o := 182) rfl) (gB_c lq_cX8_changeBestTwo q1_cX8_changeBestTwo 27 (o := 0) rfl) (gB_c lq_cX8_changeBestTwo q1_cX8_changeBestTwo 28 (o := 89) rfl) rfl
theorem dX8_changeBestTwo_61 : decode cX8_changeBestTwo 61 = .ok (.iload 7, 2) := dc_21 (gB_c lq_cX8_changeBestTwo q1_cX8_changeBestTwo 29 (o := 21) rfl) (gB_c lq_cX8_changeBestTwo q1_cX8_changeBestTwo 30 (o := 7) rfl)
theorem dX8_changeBestTwo_63 : decode cX8_changeBestTwo 63 = .ok (.iload_n 2, 1) := dc_28 (gB_c lq_cX8_changeBestTwo q1_cX8_changeBestTwo 31 (o := 28) rfl)
theorem dX8_changeBestTwo_64 : decode cX8_changeBestTwo 64 = .ok (.if_icmp .ge 13, 3) := dc_162 (gB_c lq_cX8_changeBestTwo q2_cX8_changeBestTwo 0 (o := 162) rfl) (gB_c lq_cX8_changeBestTwo q2_cX8_changeBestTwo 1 (o := 0) rfl) (gB_c lq_cX8_changeBestTwo q2_cX8_changeBestTwo 2 (o := 13) rfl) rfl
theorem dX8_changeBestTwo_67 : decode cX8_changeBestTwo 67 = .ok (.iload 7, 2) := dc_21 (gB_c lq_cX8_changeBestTwo q2_cX8_changeBestTwo 3 (o := 21) rfl) (gB_c lq_cX8_changeBestTwo q2_cX8_changeBestTwo 4 (o := 7) rfl)
theorem dX8_changeBestTwo_69 : decode cX8_changeBestTwo 69 = .ok (.istore_n 2, 1) := dc_61 (gB_c lq_cX8_changeBestTwo q2_cX8_changeBestTwo 5 (o := 61) rfl)
theorem dX8_changeBestTwo_70 : decode cX8_changeBestTwo 70 = .ok (.iload 5, 2) := dc_21 (gB_c lq_cX8_changeBestTwo q2_cX8_changeBestTwo 6 (o := 21) rfl) (gB_c lq_cX8_changeBestTwo q2_cX8_changeBestTwo 7 (o := 5) rfl)
theorem dX8_changeBestTwo_72 : decode cX8_changeBestTwo 72 = .ok (.istore_n 3, 1) := dc_62 (gB_c lq_cX8_changeBestTwo q2_cX8_changeBestTwo 8 (o := 62) rfl)
theorem dX8_changeBestTwo_73 : decode cX8_changeBestTwo 73 = .ok (.iload 6, 2) := dc_21 (gB_c lq_cX8_changeBestTwo q2_cX8_changeBestTwo 9 (o := 21) rfl) (gB_c lq_cX8_changeBestTwo q2_cX8_changeBestTwo 10 (o := 6) rfl)
theorem dX8_changeBestTwo_75 : decode cX8_changeBestTwo 75 = .ok (.istore 4, 2) := dc_54 (gB_c lq_cX8_changeBestTwo q2_cX8_changeBestTwo 11 (o := 54) rfl) (gB_c lq_cX8_changeBestTwo q2_cX8_changeBestTwo 12 (o := 4) rfl)
theorem dX8_changeBestTwo_77 : decode cX8_changeBestTwo 77 = .ok (.iinc 6 1, 3) := dc_132 (gB_c lq_cX8_changeBestTwo q2_cX8_changeBestTwo 13 (o := 132) rfl) (gB_c lq_cX8_changeBestTwo q2_cX8_changeBestTwo 14 (o := 6) rfl) (gB_c lq_cX8_changeBestTwo q2_cX8_changeBestTwo 15 (o := 1) rfl) rfl
theorem dX8_changeBestTwo_80 : decode cX8_changeBestTwo 80 = .ok (.goto (-51), 3) := dc_167 (gB_c lq_cX8_changeBestTwo q2_cX8_changeBestTwo 16 (o := 167) rfl) (gB_c lq_cX8_changeBestTwo q2_cX8_changeBestTwo 17 (o := 255) rfl) (gB_c lq_cX8_changeBestTwo q2_cX8_changeBestTwo 18 (o := 205) rfl) rfl
theorem dX8_changeBestTwo_83 : decode cX8_changeBestTwo 83 = .ok (.iinc 5 1, 3) := dc_132 (gB_c lq_cX8_changeBestTwo q2_cX8_changeBestTwo 19 (o := 132) rfl) (gB_c lq_cX8_changeBestTwo q2_cX8_changeBestTwo 20 (o := 5) rfl) (gB_c lq_cX8_changeBestTwo q2_cX8_changeBestTwo 21 (o := 1) rfl) rfl
theorem dX8_changeBestTwo_86 : decode cX8_changeBestTwo 86 = .ok (.goto (-72), 3) := dc_167 (gB_c lq_cX8_changeBestTwo q2_cX8_changeBestTwo 22 (o := 167) rfl) (gB_c lq_cX8_changeBestTwo q2_cX8_changeBestTwo 23 (o := 255) rfl) (gB_c lq_cX8_changeBestTwo q2_cX8_changeBestTwo 24 (o := 184) rfl) rfl
theorem dX8_changeBestTwo_89 : decode cX8_changeBestTwo 89 = .ok (.iload_n 3, 1) := dc_29 (gB_c lq_cX8_changeBestTwo q2_cX8_changeBestTwo 25 (o := 29) rfl)
theorem dX8_changeBestTwo_90 : decode cX8_changeBestTwo 90 = .ok (.iconst (-1), 1) := dc_2 (gB_c lq_cX8_changeBestTwo q2_cX8_changeBestTwo 26 (o := 2) rfl)
theorem dX8_changeBestTwo_91 : decode cX8_changeBestTwo 91 = .ok (.if_icmp .ne 5, 3) := dc_160 (gB_c lq_cX8_changeBestTwo q2_cX8_changeBestTwo 27 (o := 160) rfl) (gB_c lq_cX8_changeBestTwo q2_cX8_changeBestTwo 28 (o := 0) rfl) (gB_c lq_cX8_changeBestTwo q2_cX8_changeBestTwo 29 (o := 5) rfl) rfl
theorem dX8_changeBestTwo_94 : decode cX8_changeBestTwo 94 = .ok (.iconst 0, 1) := dc_3 (gB_c lq_cX8_changeBestTwo q2_cX8_changeBestTwo 30 (o := 3) rfl)
theorem dX8_changeBestTwo_95 : decode cX8_changeBestTwo 95 = .ok (.ireturn, 1) := dc_172 (gB_c lq_cX8_changeBestTwo q2_cX8_changeBestTwo 31 (o := 172) rfl)
theorem dX8_changeBestTwo_96 : decode cX8_changeBestTwo 96 = .ok (.aload_n 0, 1) := dc_42 (gB_c lq_cX8_changeBestTwo q3_cX8_changeBestTwo 0 (o := 42) rfl)
theorem dX8_changeBestTwo_97 : decode cX8_changeBestTwo 97 = .ok (.iload_n 3, 1) := dc_29 (gB_c lq_cX8_changeBestTwo q3_cX8_changeBestTwo 1 (o := 29) rfl)
theorem dX8_changeBestTwo_98 : decode cX8_changeBestTwo 98 = .ok (.iload 4, 2) := dc_21 (gB_c lq_cX8_changeBestTwo q3_cX8_changeBestTwo 2 (o := 21) rfl) (gB_c lq_cX8_changeBestTwo q3_cX8_changeBestTwo 3 (o := 4) rfl)
theorem dX8_changeBestTwo_100 : decode cX8_changeBestTwo 100 = .ok (.invokevirtual 89, 3) := dc_182 (gB_c lq_cX8_changeBestTwo q3_cX8_changeBestTwo 4 (o := 182) rfl) (gB_c lq_cX8_changeBestTwo q3_cX8_changeBestTwo 5 (o := 0) rfl) (gB_c lq_cX8_changeBestTwo q3_cX8_changeBestTwo 6 (o := 89) rfl) rfl
theorem dX8_changeBestTwo_103 : decode cX8_changeBestTwo 103 = .ok (.iconst 1, 1) := dc_4 (gB_c lq_cX8_changeBestTwo q3_cX8_changeBestTwo 7 (o := 4) rfl)
theorem dX8_changeBestTwo_104 : decode cX8_changeBestTwo 104 = .ok (.ireturn, 1) := dc_172 (gB_c lq_cX8_changeBestTwo q3_cX8_changeBestTwo 8 (o := 172) rfl)
abbrev r2_cX8_longestLine : List Nat := [16, 10, 29, 104, 21, 4, 96, 60, 132, 4, 1, 167, 255, 200, 132, 3, 1, 167, 255, 181, 27, 172]
def a1_cX8_longestLine : List Nat := [55, 42, 21, 4, 182, 0, 55, 100, 184, 0, 58, 54, 5, 42, 29, 21, 4, 182, 0, 38, 158, 0, 20, 21, 5, 28, 164, 0, 14, 21, 5, 61]
abbrev r1_cX8_longestLine : List Nat := a1_cX8_longestLine ++ r2_cX8_longestLine
def a0_cX8_longestLine : List Nat := [2, 60, 3, 61, 3, 62, 29, 42, 180, 0, 15, 162, 0, 73, 29, 4, 96, 54, 4, 21, 4, 42, 180, 0, 15, 162, 0, 53, 42, 29, 182, 0]
abbrev r0_cX8_longestLine : List Nat := a0_cX8_longestLine ++ r1_cX8_longestLine
theorem lq_cX8_longestLine : (cX8_longestLine).data.toList.map UInt8.toNat = r0_cX8_longestLine := by decide +kernel
theorem q1_cX8_longestLine : ∀ i, (r0_cX8_longestLine)[32 + i]? = (r1_cX8_longestLine)[i]? := chn (A := a0_cX8_longestLine) (B := r1_cX8_longestLine) (n := 0) (k := 32) rfl (ch0 (R := r0_cX8_longestLine))
theorem q2_cX8_longestLine : ∀ i, (r0_cX8_longestLine)[64 + i]? = (r2_cX8_longestLine)[i]? := chn (A := a1_cX8_longestLine) (B := r2_cX8_longestLine) (n := 32) (k := 32) rfl q1_cX8_longestLine
theorem dX8_longestLine_0 : decode cX8_longestLine 0 = .ok (.iconst (-1), 1) := dc_2 (gB_l lq_cX8_longestLine (p := 0) (o := 2) rfl)
theorem dX8_longestLine_1 : decode cX8_longestLine 1 = .ok (.istore_n 1, 1) := dc_60 (gB_l lq_cX8_longestLine (p := 1) (o := 60) rfl)
theorem dX8_longestLine_2 : decode cX8_longestLine 2 = .ok (.iconst 0, 1) := dc_3 (gB_l lq_cX8_longestLine (p := 2) (o := 3) rfl)
theorem dX8_longestLine_3 : decode cX8_longestLine 3 = .ok (.istore_n 2, 1) := dc_61 (gB_l lq_cX8_longestLine (p := 3) (o := 61) rfl)
theorem dX8_longestLine_4 : decode cX8_longestLine 4 = .ok (.iconst 0, 1) := dc_3 (gB_l lq_cX8_longestLine (p := 4) (o := 3) rfl)
theorem dX8_longestLine_5 : decode cX8_longestLine 5 = .ok (.istore_n 3, 1) := dc_62 (gB_l lq_cX8_longestLine (p := 5) (o := 62) rfl)
theorem dX8_longestLine_6 : decode cX8_longestLine 6 = .ok (.iload_n 3, 1) := dc_29 (gB_l lq_cX8_longestLine (p := 6) (o := 29) rfl)
theorem dX8_longestLine_7 : decode cX8_longestLine 7 = .ok (.aload_n 0, 1) := dc_42 (gB_l lq_cX8_longestLine (p := 7) (o := 42) rfl)
theorem dX8_longestLine_8 : decode cX8_longestLine 8 = .ok (.getfield 15, 3) := dc_180 (gB_l lq_cX8_longestLine (p := 8) (o := 180) rfl) (gB_l lq_cX8_longestLine (p := 9) (o := 0) rfl) (gB_l lq_cX8_longestLine (p := 10) (o := 15) rfl) rfl
theorem dX8_longestLine_11 : decode cX8_longestLine 11 = .ok (.if_icmp .ge 73, 3) := dc_162 (gB_l lq_cX8_longestLine (p := 11) (o := 162) rfl) (gB_l lq_cX8_longestLine (p := 12) (o := 0) rfl) (gB_l lq_cX8_longestLine (p := 13) (o := 73) rfl) rfl
theorem dX8_longestLine_14 : decode cX8_longestLine 14 = .ok (.iload_n 3, 1) := dc_29 (gB_l lq_cX8_longestLine (p := 14) (o := 29) rfl)
theorem dX8_longestLine_15 : decode cX8_longestLine 15 = .ok (.iconst 1, 1) := dc_4 (gB_l lq_cX8_longestLine (p := 15) (o := 4) rfl)
theorem dX8_longestLine_16 : decode cX8_longestLine 16 = .ok (.iadd, 1) := dc_96 (gB_l lq_cX8_longestLine (p := 16) (o := 96) rfl)
theorem dX8_longestLine_17 : decode cX8_longestLine 17 = .ok (.istore 4, 2) := dc_54 (gB_l lq_cX8_longestLine (p := 17) (o := 54) rfl) (gB_l lq_cX8_longestLine (p := 18) (o := 4) rfl)
theorem dX8_longestLine_19 : decode cX8_longestLine 19 = .ok (.iload 4, 2) := dc_21 (gB_l lq_cX8_longestLine (p := 19) (o := 21) rfl) (gB_l lq_cX8_longestLine (p := 20) (o := 4) rfl)
theorem dX8_longestLine_21 : decode cX8_longestLine 21 = .ok (.aload_n 0, 1) := dc_42 (gB_l lq_cX8_longestLine (p := 21) (o := 42) rfl)
theorem dX8_longestLine_22 : decode cX8_longestLine 22 = .ok (.getfield 15, 3) := dc_180 (gB_l lq_cX8_longestLine (p := 22) (o := 180) rfl) (gB_l lq_cX8_longestLine (p := 23) (o := 0) rfl) (gB_l lq_cX8_longestLine (p := 24) (o := 15) rfl) rfl
theorem dX8_longestLine_25 : decode cX8_longestLine 25 = .ok (.if_icmp .ge 53, 3) := dc_162 (gB_l lq_cX8_longestLine (p := 25) (o := 162) rfl) (gB_l lq_cX8_longestLine (p := 26) (o := 0) rfl) (gB_l lq_cX8_longestLine (p := 27) (o := 53) rfl) rfl
theorem dX8_longestLine_28 : decode cX8_longestLine 28 = .ok (.aload_n 0, 1) := dc_42 (gB_l lq_cX8_longestLine (p := 28) (o := 42) rfl)
theorem dX8_longestLine_29 : decode cX8_longestLine 29 = .ok (.iload_n 3, 1) := dc_29 (gB_l lq_cX8_longestLine (p := 29) (o := 29) rfl)
theorem dX8_longestLine_30 : decode cX8_longestLine 30 = .ok (.invokevirtual 55, 3) := dc_182 (gB_l lq_cX8_longestLine (p := 30) (o := 182) rfl) (gB_l lq_cX8_longestLine (p := 31) (o := 0) rfl) (gB_c lq_cX8_longestLine q1_cX8_longestLine 0 (o := 55) rfl) rfl
theorem dX8_longestLine_33 : decode cX8_longestLine 33 = .ok (.aload_n 0, 1) := dc_42 (gB_c lq_cX8_longestLine q1_cX8_longestLine 1 (o := 42) rfl)
theorem dX8_longestLine_34 : decode cX8_longestLine 34 = .ok (.iload 4, 2) := dc_21 (gB_c lq_cX8_longestLine q1_cX8_longestLine 2 (o := 21) rfl) (gB_c lq_cX8_longestLine q1_cX8_longestLine 3 (o := 4) rfl)
theorem dX8_longestLine_36 : decode cX8_longestLine 36 = .ok (.invokevirtual 55, 3) := dc_182 (gB_c lq_cX8_longestLine q1_cX8_longestLine 4 (o := 182) rfl) (gB_c lq_cX8_longestLine q1_cX8_longestLine 5 (o := 0) rfl) (gB_c lq_cX8_longestLine q1_cX8_longestLine 6 (o := 55) rfl) rfl
theorem dX8_longestLine_39 : decode cX8_longestLine 39 = .ok (.isub, 1) := dc_100 (gB_c lq_cX8_longestLine q1_cX8_longestLine 7 (o := 100) rfl)
theorem dX8_longestLine_40 : decode cX8_longestLine 40 = .ok (.invokestatic 58, 3) := dc_184 (gB_c lq_cX8_longestLine q1_cX8_longestLine 8 (o := 184) rfl) (gB_c lq_cX8_longestLine q1_cX8_longestLine 9 (o := 0) rfl) (gB_c lq_cX8_longestLine q1_cX8_longestLine 10 (o := 58) rfl) rfl
theorem dX8_longestLine_43 : decode cX8_longestLine 43 = .ok (.istore 5, 2) := dc_54 (gB_c lq_cX8_longestLine q1_cX8_longestLine 11 (o := 54) rfl) (gB_c lq_cX8_longestLine q1_cX8_longestLine 12 (o := 5) rfl)
theorem dX8_longestLine_45 : decode cX8_longestLine 45 = .ok (.aload_n 0, 1) := dc_42 (gB_c lq_cX8_longestLine q1_cX8_longestLine 13 (o := 42) rfl)
theorem dX8_longestLine_46 : decode cX8_longestLine 46 = .ok (.iload_n 3, 1) := dc_29 (gB_c lq_cX8_longestLine q1_cX8_longestLine 14 (o := 29) rfl)
theorem dX8_longestLine_47 : decode cX8_longestLine 47 = .ok (.iload 4, 2) := dc_21 (gB_c lq_cX8_longestLine q1_cX8_longestLine 15 (o := 21) rfl) (gB_c lq_cX8_longestLine q1_cX8_longestLine 16 (o := 4) rfl)
theorem dX8_longestLine_49 : decode cX8_longestLine 49 = .ok (.invokevirtual 38, 3) := dc_182 (gB_c lq_cX8_longestLine q1_cX8_longestLine 17 (o := 182) rfl) (gB_c lq_cX8_longestLine q1_cX8_longestLine 18 (o := 0) rfl) (gB_c lq_cX8_longestLine q1_cX8_longestLine 19 (o := 38) rfl) rfl
theorem dX8_longestLine_52 : decode cX8_longestLine 52 = .ok (.ifCond .le 20, 3) := dc_158 (gB_c lq_cX8_longestLine q1_cX8_longestLine 20 (o := 158) rfl) (gB_c lq_cX8_longestLine q1_cX8_longestLine 21 (o := 0) rfl) (gB_c lq_cX8_longestLine q1_cX8_longestLine 22 (o := 20) rfl) rfl
theorem dX8_longestLine_55 : decode cX8_longestLine 55 = .ok (.iload 5, 2) := dc_21 (gB_c lq_cX8_longestLine q1_cX8_longestLine 23 (o := 21) rfl) (gB_c lq_cX8_longestLine q1_cX8_longestLine 24 (o := 5) rfl)
theorem dX8_longestLine_57 : decode cX8_longestLine 57 = .ok (.iload_n 2, 1) := dc_28 (gB_c lq_cX8_longestLine q1_cX8_longestLine 25 (o := 28) rfl)
theorem dX8_longestLine_58 : decode cX8_longestLine 58 = .ok (.if_icmp .le 14, 3) := dc_164 (gB_c lq_cX8_longestLine q1_cX8_longestLine 26 (o := 164) rfl) (gB_c lq_cX8_longestLine q1_cX8_longestLine 27 (o := 0) rfl) (gB_c lq_cX8_longestLine q1_cX8_longestLine 28 (o := 14) rfl) rfl
theorem dX8_longestLine_61 : decode cX8_longestLine 61 = .ok (.iload 5, 2) := dc_21 (gB_c lq_cX8_longestLine q1_cX8_longestLine 29 (o := 21) rfl) (gB_c lq_cX8_longestLine q1_cX8_longestLine 30 (o := 5) rfl)
theorem dX8_longestLine_63 : decode cX8_longestLine 63 = .ok (.istore_n 2, 1) := dc_61 (gB_c lq_cX8_longestLine q1_cX8_longestLine 31 (o := 61) rfl)
theorem dX8_longestLine_64 : decode cX8_longestLine 64 = .ok (.bipush 10, 2) := dc_16 (gB_c lq_cX8_longestLine q2_cX8_longestLine 0 (o := 16) rfl) (gB_c lq_cX8_longestLine q2_cX8_longestLine 1 (o := 10) rfl) rfl
theorem dX8_longestLine_66 : decode cX8_longestLine 66 = .ok (.iload_n 3, 1) := dc_29 (gB_c lq_cX8_longestLine q2_cX8_longestLine 2 (o := 29) rfl)
theorem dX8_longestLine_67 : decode cX8_longestLine 67 = .ok (.imul, 1) := dc_104 (gB_c lq_cX8_longestLine q2_cX8_longestLine 3 (o := 104) rfl)
theorem dX8_longestLine_68 : decode cX8_longestLine 68 = .ok (.iload 4, 2) := dc_21 (gB_c lq_cX8_longestLine q2_cX8_longestLine 4 (o := 21) rfl) (gB_c lq_cX8_longestLine q2_cX8_longestLine 5 (o := 4) rfl)
theorem dX8_longestLine_70 : decode cX8_longestLine 70 = .ok (.iadd, 1) := dc_96 (gB_c lq_cX8_longestLine q2_cX8_longestLine 6 (o := 96) rfl)
theorem dX8_longestLine_71 : decode cX8_longestLine 71 = .ok (.istore_n 1, 1) := dc_60 (gB_c lq_cX8_longestLine q2_cX8_longestLine 7 (o := 60) rfl)
theorem dX8_longestLine_72 : decode cX8_longestLine 72 = .ok (.iinc 4 1, 3) := dc_132 (gB_c lq_cX8_longestLine q2_cX8_longestLine 8 (o := 132) rfl) (gB_c lq_cX8_longestLine q2_cX8_longestLine 9 (o := 4) rfl) (gB_c lq_cX8_longestLine q2_cX8_longestLine 10 (o := 1) rfl) rfl
theorem dX8_longestLine_75 : decode cX8_longestLine 75 = .ok (.goto (-56), 3) := dc_167 (gB_c lq_cX8_longestLine q2_cX8_longestLine 11 (o := 167) rfl) (gB_c lq_cX8_longestLine q2_cX8_longestLine 12 (o := 255) rfl) (gB_c lq_cX8_longestLine q2_cX8_longestLine 13 (o := 200) rfl) rfl
theorem dX8_longestLine_78 : decode cX8_longestLine 78 = .ok (.iinc 3 1, 3) := dc_132 (gB_c lq_cX8_longestLine q2_cX8_longestLine 14 (o := 132) rfl) (gB_c lq_cX8_longestLine q2_cX8_longestLine 15 (o := 3) rfl) (gB_c lq_cX8_longestLine q2_cX8_longestLine 16 (o := 1) rfl) rfl
theorem dX8_longestLine_81 : decode cX8_longestLine 81 = .ok (.goto (-75), 3) := dc_167 (gB_c lq_cX8_longestLine q2_cX8_longestLine 17 (o := 167) rfl) (gB_c lq_cX8_longestLine q2_cX8_longestLine 18 (o := 255) rfl) (gB_c lq_cX8_longestLine q2_cX8_longestLine 19 (o := 181) rfl) rfl
theorem dX8_longestLine_84 : decode cX8_longestLine 84 = .ok (.iload_n 1, 1) := dc_27 (gB_c lq_cX8_longestLine q2_cX8_longestLine 20 (o := 27) rfl)
theorem dX8_longestLine_85 : decode cX8_longestLine 85 = .ok (.ireturn, 1) := dc_172 (gB_c lq_cX8_longestLine q2_cX8_longestLine 21 (o := 172) rfl)
abbrev r3_cX8_makeGreedy : List Nat := [132, 3, 1, 167, 255, 161, 177]
def a2_cX8_makeGreedy : List Nat := [162, 0, 11, 21, 8, 54, 5, 21, 6, 54, 4, 132, 6, 1, 167, 255, 200, 42, 180, 0, 21, 29, 21, 4, 79, 28, 4, 21, 4, 120, 128, 61]
abbrev r2_cX8_makeGreedy : List Nat := a2_cX8_makeGreedy ++ r3_cX8_makeGreedy
def a1_cX8_makeGreedy : List Nat := [21, 6, 122, 4, 126, 154, 0, 38, 27, 28, 21, 6, 184, 0, 25, 54, 7, 42, 27, 21, 7, 21, 6, 184, 0, 31, 54, 8, 21, 8, 21, 5]
abbrev r1_cX8_makeGreedy : List Nat := a1_cX8_makeGreedy ++ r2_cX8_makeGreedy
def a0_cX8_makeGreedy : List Nat := [3, 61, 3, 62, 29, 42, 180, 0, 15, 162, 0, 93, 2, 54, 4, 18, 93, 54, 5, 3, 54, 6, 21, 6, 42, 180, 0, 15, 162, 0, 53, 28]
abbrev r0_cX8_makeGreedy : List Nat := a0_cX8_makeGreedy ++ r1_cX8_makeGreedy
theorem lq_cX8_makeGreedy : (cX8_makeGreedy).data.toList.map UInt8.toNat = r0_cX8_makeGreedy := by decide +kernel
theorem q1_cX8_makeGreedy : ∀ i, (r0_cX8_makeGreedy)[32 + i]? = (r1_cX8_makeGreedy)[i]? := chn (A := a0_cX8_makeGreedy) (B := r1_cX8_makeGreedy) (n := 0) (k := 32) rfl (ch0 (R := r0_cX8_makeGreedy))
theorem q2_cX8_makeGreedy : ∀ i, (r0_cX8_makeGreedy)[64 + i]? = (r2_cX8_makeGreedy)[i]? := chn (A := a1_cX8_makeGreedy) (B := r2_cX8_makeGreedy) (n := 32) (k := 32) rfl q1_cX8_makeGreedy
theorem q3_cX8_makeGreedy : ∀ i, (r0_cX8_makeGreedy)[96 + i]? = (r3_cX8_makeGreedy)[i]? := chn (A := a2_cX8_makeGreedy) (B := r3_cX8_makeGreedy) (n := 64) (k := 32) rfl q2_cX8_makeGreedy
theorem dX8_makeGreedy_0 : decode cX8_makeGreedy 0 = .ok (.iconst 0, 1) := dc_3 (gB_l lq_cX8_makeGreedy (p := 0) (o := 3) rfl)
theorem dX8_makeGreedy_1 : decode cX8_makeGreedy 1 = .ok (.istore_n 2, 1) := dc_61 (gB_l lq_cX8_makeGreedy (p := 1) (o := 61) rfl)
theorem dX8_makeGreedy_2 : decode cX8_makeGreedy 2 = .ok (.iconst 0, 1) := dc_3 (gB_l lq_cX8_makeGreedy (p := 2) (o := 3) rfl)
theorem dX8_makeGreedy_3 : decode cX8_makeGreedy 3 = .ok (.istore_n 3, 1) := dc_62 (gB_l lq_cX8_makeGreedy (p := 3) (o := 62) rfl)
theorem dX8_makeGreedy_4 : decode cX8_makeGreedy 4 = .ok (.iload_n 3, 1) := dc_29 (gB_l lq_cX8_makeGreedy (p := 4) (o := 29) rfl)
theorem dX8_makeGreedy_5 : decode cX8_makeGreedy 5 = .ok (.aload_n 0, 1) := dc_42 (gB_l lq_cX8_makeGreedy (p := 5) (o := 42) rfl)
theorem dX8_makeGreedy_6 : decode cX8_makeGreedy 6 = .ok (.getfield 15, 3) := dc_180 (gB_l lq_cX8_makeGreedy (p := 6) (o := 180) rfl) (gB_l lq_cX8_makeGreedy (p := 7) (o := 0) rfl) (gB_l lq_cX8_makeGreedy (p := 8) (o := 15) rfl) rfl
theorem dX8_makeGreedy_9 : decode cX8_makeGreedy 9 = .ok (.if_icmp .ge 93, 3) := dc_162 (gB_l lq_cX8_makeGreedy (p := 9) (o := 162) rfl) (gB_l lq_cX8_makeGreedy (p := 10) (o := 0) rfl) (gB_l lq_cX8_makeGreedy (p := 11) (o := 93) rfl) rfl
theorem dX8_makeGreedy_12 : decode cX8_makeGreedy 12 = .ok (.iconst (-1), 1) := dc_2 (gB_l lq_cX8_makeGreedy (p := 12) (o := 2) rfl)
theorem dX8_makeGreedy_13 : decode cX8_makeGreedy 13 = .ok (.istore 4, 2) := dc_54 (gB_l lq_cX8_makeGreedy (p := 13) (o := 54) rfl) (gB_l lq_cX8_makeGreedy (p := 14) (o := 4) rfl)
theorem dX8_makeGreedy_15 : decode cX8_makeGreedy 15 = .ok (.ldc 93, 2) := dc_18 (gB_l lq_cX8_makeGreedy (p := 15) (o := 18) rfl) (gB_l lq_cX8_makeGreedy (p := 16) (o := 93) rfl)
theorem dX8_makeGreedy_17 : decode cX8_makeGreedy 17 = .ok (.istore 5, 2) := dc_54 (gB_l lq_cX8_makeGreedy (p := 17) (o := 54) rfl) (gB_l lq_cX8_makeGreedy (p := 18) (o := 5) rfl)
theorem dX8_makeGreedy_19 : decode cX8_makeGreedy 19 = .ok (.iconst 0, 1) := dc_3 (gB_l lq_cX8_makeGreedy (p := 19) (o := 3) rfl)
theorem dX8_makeGreedy_20 : decode cX8_makeGreedy 20 = .ok (.istore 6, 2) := dc_54 (gB_l lq_cX8_makeGreedy (p := 20) (o := 54) rfl) (gB_l lq_cX8_makeGreedy (p := 21) (o := 6) rfl)
theorem dX8_makeGreedy_22 : decode cX8_makeGreedy 22 = .ok (.iload 6, 2) := dc_21 (gB_l lq_cX8_makeGreedy (p := 22) (o := 21) rfl) (gB_l lq_cX8_makeGreedy (p := 23) (o := 6) rfl)
theorem dX8_makeGreedy_24 : decode cX8_makeGreedy 24 = .ok (.aload_n 0, 1) := dc_42 (gB_l lq_cX8_makeGreedy (p := 24) (o := 42) rfl)
theorem dX8_makeGreedy_25 : decode cX8_makeGreedy 25 = .ok (.getfield 15, 3) := dc_180 (gB_l lq_cX8_makeGreedy (p := 25) (o := 180) rfl) (gB_l lq_cX8_makeGreedy (p := 26) (o := 0) rfl) (gB_l lq_cX8_makeGreedy (p := 27) (o := 15) rfl) rfl
theorem dX8_makeGreedy_28 : decode cX8_makeGreedy 28 = .ok (.if_icmp .ge 53, 3) := dc_162 (gB_l lq_cX8_makeGreedy (p := 28) (o := 162) rfl) (gB_l lq_cX8_makeGreedy (p := 29) (o := 0) rfl) (gB_l lq_cX8_makeGreedy (p := 30) (o := 53) rfl) rfl
theorem dX8_makeGreedy_31 : decode cX8_makeGreedy 31 = .ok (.iload_n 2, 1) := dc_28 (gB_l lq_cX8_makeGreedy (p := 31) (o := 28) rfl)
theorem dX8_makeGreedy_32 : decode cX8_makeGreedy 32 = .ok (.iload 6, 2) := dc_21 (gB_c lq_cX8_makeGreedy q1_cX8_makeGreedy 0 (o := 21) rfl) (gB_c lq_cX8_makeGreedy q1_cX8_makeGreedy 1 (o := 6) rfl)
theorem dX8_makeGreedy_34 : decode cX8_makeGreedy 34 = .ok (.ishr, 1) := dc_122 (gB_c lq_cX8_makeGreedy q1_cX8_makeGreedy 2 (o := 122) rfl)
theorem dX8_makeGreedy_35 : decode cX8_makeGreedy 35 = .ok (.iconst 1, 1) := dc_4 (gB_c lq_cX8_makeGreedy q1_cX8_makeGreedy 3 (o := 4) rfl)
theorem dX8_makeGreedy_36 : decode cX8_makeGreedy 36 = .ok (.iand, 1) := dc_126 (gB_c lq_cX8_makeGreedy q1_cX8_makeGreedy 4 (o := 126) rfl)
theorem dX8_makeGreedy_37 : decode cX8_makeGreedy 37 = .ok (.ifCond .ne 38, 3) := dc_154 (gB_c lq_cX8_makeGreedy q1_cX8_makeGreedy 5 (o := 154) rfl) (gB_c lq_cX8_makeGreedy q1_cX8_makeGreedy 6 (o := 0) rfl) (gB_c lq_cX8_makeGreedy q1_cX8_makeGreedy 7 (o := 38) rfl) rfl
theorem dX8_makeGreedy_40 : decode cX8_makeGreedy 40 = .ok (.iload_n 1, 1) := dc_27 (gB_c lq_cX8_makeGreedy q1_cX8_makeGreedy 8 (o := 27) rfl)
theorem dX8_makeGreedy_41 : decode cX8_makeGreedy 41 = .ok (.iload_n 2, 1) := dc_28 (gB_c lq_cX8_makeGreedy q1_cX8_makeGreedy 9 (o := 28) rfl)
theorem dX8_makeGreedy_42 : decode cX8_makeGreedy 42 = .ok (.iload 6, 2) := dc_21 (gB_c lq_cX8_makeGreedy q1_cX8_makeGreedy 10 (o := 21) rfl) (gB_c lq_cX8_makeGreedy q1_cX8_makeGreedy 11 (o := 6) rfl)
theorem dX8_makeGreedy_44 : decode cX8_makeGreedy 44 = .ok (.invokestatic 25, 3) := dc_184 (gB_c lq_cX8_makeGreedy q1_cX8_makeGreedy 12 (o := 184) rfl) (gB_c lq_cX8_makeGreedy q1_cX8_makeGreedy 13 (o := 0) rfl) (gB_c lq_cX8_makeGreedy q1_cX8_makeGreedy 14 (o := 25) rfl) rfl
theorem dX8_makeGreedy_47 : decode cX8_makeGreedy 47 = .ok (.istore 7, 2) := dc_54 (gB_c lq_cX8_makeGreedy q1_cX8_makeGreedy 15 (o := 54) rfl) (gB_c lq_cX8_makeGreedy q1_cX8_makeGreedy 16 (o := 7) rfl)
theorem dX8_makeGreedy_49 : decode cX8_makeGreedy 49 = .ok (.aload_n 0, 1) := dc_42 (gB_c lq_cX8_makeGreedy q1_cX8_makeGreedy 17 (o := 42) rfl)
theorem dX8_makeGreedy_50 : decode cX8_makeGreedy 50 = .ok (.iload_n 1, 1) := dc_27 (gB_c lq_cX8_makeGreedy q1_cX8_makeGreedy 18 (o := 27) rfl)
theorem dX8_makeGreedy_51 : decode cX8_makeGreedy 51 = .ok (.iload 7, 2) := dc_21 (gB_c lq_cX8_makeGreedy q1_cX8_makeGreedy 19 (o := 21) rfl) (gB_c lq_cX8_makeGreedy q1_cX8_makeGreedy 20 (o := 7) rfl)
theorem dX8_makeGreedy_53 : decode cX8_makeGreedy 53 = .ok (.iload 6, 2) := dc_21 (gB_c lq_cX8_makeGreedy q1_cX8_makeGreedy 21 (o := 21) rfl) (gB_c lq_cX8_makeGreedy q1_cX8_makeGreedy 22 (o := 6) rfl)
theorem dX8_makeGreedy_55 : decode cX8_makeGreedy 55 = .ok (.invokestatic 31, 3) := dc_184 (gB_c lq_cX8_makeGreedy q1_cX8_makeGreedy 23 (o := 184) rfl) (gB_c lq_cX8_makeGreedy q1_cX8_makeGreedy 24 (o := 0) rfl) (gB_c lq_cX8_makeGreedy q1_cX8_makeGreedy 25 (o := 31) rfl) rfl
theorem dX8_makeGreedy_58 : decode cX8_makeGreedy 58 = .ok (.istore 8, 2) := dc_54 (gB_c lq_cX8_makeGreedy q1_cX8_makeGreedy 26 (o := 54) rfl) (gB_c lq_cX8_makeGreedy q1_cX8_makeGreedy 27 (o := 8) rfl)
theorem dX8_makeGreedy_60 : decode cX8_makeGreedy 60 = .ok (.iload 8, 2) := dc_21 (gB_c lq_cX8_makeGreedy q1_cX8_makeGreedy 28 (o := 21) rfl) (gB_c lq_cX8_makeGreedy q1_cX8_makeGreedy 29 (o := 8) rfl)
theorem dX8_makeGreedy_62 : decode cX8_makeGreedy 62 = .ok (.iload 5, 2) := dc_21 (gB_c lq_cX8_makeGreedy q1_cX8_makeGreedy 30 (o := 21) rfl) (gB_c lq_cX8_makeGreedy q1_cX8_makeGreedy 31 (o := 5) rfl)
theorem dX8_makeGreedy_64 : decode cX8_makeGreedy 64 = .ok (.if_icmp .ge 11, 3) := dc_162 (gB_c lq_cX8_makeGreedy q2_cX8_makeGreedy 0 (o := 162) rfl) (gB_c lq_cX8_makeGreedy q2_cX8_makeGreedy 1 (o := 0) rfl) (gB_c lq_cX8_makeGreedy q2_cX8_makeGreedy 2 (o := 11) rfl) rfl
theorem dX8_makeGreedy_67 : decode cX8_makeGreedy 67 = .ok (.iload 8, 2) := dc_21 (gB_c lq_cX8_makeGreedy q2_cX8_makeGreedy 3 (o := 21) rfl) (gB_c lq_cX8_makeGreedy q2_cX8_makeGreedy 4 (o := 8) rfl)
theorem dX8_makeGreedy_69 : decode cX8_makeGreedy 69 = .ok (.istore 5, 2) := dc_54 (gB_c lq_cX8_makeGreedy q2_cX8_makeGreedy 5 (o := 54) rfl) (gB_c lq_cX8_makeGreedy q2_cX8_makeGreedy 6 (o := 5) rfl)
theorem dX8_makeGreedy_71 : decode cX8_makeGreedy 71 = .ok (.iload 6, 2) := dc_21 (gB_c lq_cX8_makeGreedy q2_cX8_makeGreedy 7 (o := 21) rfl) (gB_c lq_cX8_makeGreedy q2_cX8_makeGreedy 8 (o := 6) rfl)
theorem dX8_makeGreedy_73 : decode cX8_makeGreedy 73 = .ok (.istore 4, 2) := dc_54 (gB_c lq_cX8_makeGreedy q2_cX8_makeGreedy 9 (o := 54) rfl) (gB_c lq_cX8_makeGreedy q2_cX8_makeGreedy 10 (o := 4) rfl)
theorem dX8_makeGreedy_75 : decode cX8_makeGreedy 75 = .ok (.iinc 6 1, 3) := dc_132 (gB_c lq_cX8_makeGreedy q2_cX8_makeGreedy 11 (o := 132) rfl) (gB_c lq_cX8_makeGreedy q2_cX8_makeGreedy 12 (o := 6) rfl) (gB_c lq_cX8_makeGreedy q2_cX8_makeGreedy 13 (o := 1) rfl) rfl
theorem dX8_makeGreedy_78 : decode cX8_makeGreedy 78 = .ok (.goto (-56), 3) := dc_167 (gB_c lq_cX8_makeGreedy q2_cX8_makeGreedy 14 (o := 167) rfl) (gB_c lq_cX8_makeGreedy q2_cX8_makeGreedy 15 (o := 255) rfl) (gB_c lq_cX8_makeGreedy q2_cX8_makeGreedy 16 (o := 200) rfl) rfl
theorem dX8_makeGreedy_81 : decode cX8_makeGreedy 81 = .ok (.aload_n 0, 1) := dc_42 (gB_c lq_cX8_makeGreedy q2_cX8_makeGreedy 17 (o := 42) rfl)
theorem dX8_makeGreedy_82 : decode cX8_makeGreedy 82 = .ok (.getfield 21, 3) := dc_180 (gB_c lq_cX8_makeGreedy q2_cX8_makeGreedy 18 (o := 180) rfl) (gB_c lq_cX8_makeGreedy q2_cX8_makeGreedy 19 (o := 0) rfl) (gB_c lq_cX8_makeGreedy q2_cX8_makeGreedy 20 (o := 21) rfl) rfl
theorem dX8_makeGreedy_85 : decode cX8_makeGreedy 85 = .ok (.iload_n 3, 1) := dc_29 (gB_c lq_cX8_makeGreedy q2_cX8_makeGreedy 21 (o := 29) rfl)
theorem dX8_makeGreedy_86 : decode cX8_makeGreedy 86 = .ok (.iload 4, 2) := dc_21 (gB_c lq_cX8_makeGreedy q2_cX8_makeGreedy 22 (o := 21) rfl) (gB_c lq_cX8_makeGreedy q2_cX8_makeGreedy 23 (o := 4) rfl)
theorem dX8_makeGreedy_88 : decode cX8_makeGreedy 88 = .ok (.iastore, 1) := dc_79 (gB_c lq_cX8_makeGreedy q2_cX8_makeGreedy 24 (o := 79) rfl)
theorem dX8_makeGreedy_89 : decode cX8_makeGreedy 89 = .ok (.iload_n 2, 1) := dc_28 (gB_c lq_cX8_makeGreedy q2_cX8_makeGreedy 25 (o := 28) rfl)
theorem dX8_makeGreedy_90 : decode cX8_makeGreedy 90 = .ok (.iconst 1, 1) := dc_4 (gB_c lq_cX8_makeGreedy q2_cX8_makeGreedy 26 (o := 4) rfl)
theorem dX8_makeGreedy_91 : decode cX8_makeGreedy 91 = .ok (.iload 4, 2) := dc_21 (gB_c lq_cX8_makeGreedy q2_cX8_makeGreedy 27 (o := 21) rfl) (gB_c lq_cX8_makeGreedy q2_cX8_makeGreedy 28 (o := 4) rfl)
theorem dX8_makeGreedy_93 : decode cX8_makeGreedy 93 = .ok (.ishl, 1) := dc_120 (gB_c lq_cX8_makeGreedy q2_cX8_makeGreedy 29 (o := 120) rfl)
theorem dX8_makeGreedy_94 : decode cX8_makeGreedy 94 = .ok (.ior, 1) := dc_128 (gB_c lq_cX8_makeGreedy q2_cX8_makeGreedy 30 (o := 128) rfl)
theorem dX8_makeGreedy_95 : decode cX8_makeGreedy 95 = .ok (.istore_n 2, 1) := dc_61 (gB_c lq_cX8_makeGreedy q2_cX8_makeGreedy 31 (o := 61) rfl)
theorem dX8_makeGreedy_96 : decode cX8_makeGreedy 96 = .ok (.iinc 3 1, 3) := dc_132 (gB_c lq_cX8_makeGreedy q3_cX8_makeGreedy 0 (o := 132) rfl) (gB_c lq_cX8_makeGreedy q3_cX8_makeGreedy 1 (o := 3) rfl) (gB_c lq_cX8_makeGreedy q3_cX8_makeGreedy 2 (o := 1) rfl) rfl
theorem dX8_makeGreedy_99 : decode cX8_makeGreedy 99 = .ok (.goto (-95), 3) := dc_167 (gB_c lq_cX8_makeGreedy q3_cX8_makeGreedy 3 (o := 167) rfl) (gB_c lq_cX8_makeGreedy q3_cX8_makeGreedy 4 (o := 255) rfl) (gB_c lq_cX8_makeGreedy q3_cX8_makeGreedy 5 (o := 161) rfl) rfl
theorem dX8_makeGreedy_102 : decode cX8_makeGreedy 102 = .ok (.return_, 1) := dc_177 (gB_c lq_cX8_makeGreedy q3_cX8_makeGreedy 6 (o := 177) rfl)
abbrev r2_cX8_makeLayers : List Nat := [87, 177]
def a1_cX8_makeLayers : List Nat := [61, 29, 21, 4, 128, 62, 42, 29, 184, 0, 97, 54, 4, 132, 5, 1, 167, 255, 220, 42, 28, 42, 182, 0, 102, 29, 2, 130, 126, 184, 0, 94]
abbrev r1_cX8_makeLayers : List Nat := a1_cX8_makeLayers ++ r2_cX8_makeLayers
def a0_cX8_makeLayers : List Nat := [3, 61, 3, 62, 4, 27, 120, 54, 4, 3, 54, 5, 21, 5, 42, 180, 0, 15, 162, 0, 33, 42, 28, 21, 4, 29, 2, 130, 126, 184, 0, 94]
abbrev r0_cX8_makeLayers : List Nat := a0_cX8_makeLayers ++ r1_cX8_makeLayers
theorem lq_cX8_makeLayers : (cX8_makeLayers).data.toList.map UInt8.toNat = r0_cX8_makeLayers := by decide +kernel
theorem q1_cX8_makeLayers : ∀ i, (r0_cX8_makeLayers)[32 + i]? = (r1_cX8_makeLayers)[i]? := chn (A := a0_cX8_makeLayers) (B := r1_cX8_makeLayers) (n := 0) (k := 32) rfl (ch0 (R := r0_cX8_makeLayers))
theorem q2_cX8_makeLayers : ∀ i, (r0_cX8_makeLayers)[64 + i]? = (r2_cX8_makeLayers)[i]? := chn (A := a1_cX8_makeLayers) (B := r2_cX8_makeLayers) (n := 32) (k := 32) rfl q1_cX8_makeLayers
theorem dX8_makeLayers_0 : decode cX8_makeLayers 0 = .ok (.iconst 0, 1) := dc_3 (gB_l lq_cX8_makeLayers (p := 0) (o := 3) rfl)
theorem dX8_makeLayers_1 : decode cX8_makeLayers 1 = .ok (.istore_n 2, 1) := dc_61 (gB_l lq_cX8_makeLayers (p := 1) (o := 61) rfl)
theorem dX8_makeLayers_2 : decode cX8_makeLayers 2 = .ok (.iconst 0, 1) := dc_3 (gB_l lq_cX8_makeLayers (p := 2) (o := 3) rfl)
theorem dX8_makeLayers_3 : decode cX8_makeLayers 3 = .ok (.istore_n 3, 1) := dc_62 (gB_l lq_cX8_makeLayers (p := 3) (o := 62) rfl)
theorem dX8_makeLayers_4 : decode cX8_makeLayers 4 = .ok (.iconst 1, 1) := dc_4 (gB_l lq_cX8_makeLayers (p := 4) (o := 4) rfl)
theorem dX8_makeLayers_5 : decode cX8_makeLayers 5 = .ok (.iload_n 1, 1) := dc_27 (gB_l lq_cX8_makeLayers (p := 5) (o := 27) rfl)
theorem dX8_makeLayers_6 : decode cX8_makeLayers 6 = .ok (.ishl, 1) := dc_120 (gB_l lq_cX8_makeLayers (p := 6) (o := 120) rfl)
theorem dX8_makeLayers_7 : decode cX8_makeLayers 7 = .ok (.istore 4, 2) := dc_54 (gB_l lq_cX8_makeLayers (p := 7) (o := 54) rfl) (gB_l lq_cX8_makeLayers (p := 8) (o := 4) rfl)
theorem dX8_makeLayers_9 : decode cX8_makeLayers 9 = .ok (.iconst 0, 1) := dc_3 (gB_l lq_cX8_makeLayers (p := 9) (o := 3) rfl)
theorem dX8_makeLayers_10 : decode cX8_makeLayers 10 = .ok (.istore 5, 2) := dc_54 (gB_l lq_cX8_makeLayers (p := 10) (o := 54) rfl) (gB_l lq_cX8_makeLayers (p := 11) (o := 5) rfl)
theorem dX8_makeLayers_12 : decode cX8_makeLayers 12 = .ok (.iload 5, 2) := dc_21 (gB_l lq_cX8_makeLayers (p := 12) (o := 21) rfl) (gB_l lq_cX8_makeLayers (p := 13) (o := 5) rfl)
theorem dX8_makeLayers_14 : decode cX8_makeLayers 14 = .ok (.aload_n 0, 1) := dc_42 (gB_l lq_cX8_makeLayers (p := 14) (o := 42) rfl)
theorem dX8_makeLayers_15 : decode cX8_makeLayers 15 = .ok (.getfield 15, 3) := dc_180 (gB_l lq_cX8_makeLayers (p := 15) (o := 180) rfl) (gB_l lq_cX8_makeLayers (p := 16) (o := 0) rfl) (gB_l lq_cX8_makeLayers (p := 17) (o := 15) rfl) rfl
theorem dX8_makeLayers_18 : decode cX8_makeLayers 18 = .ok (.if_icmp .ge 33, 3) := dc_162 (gB_l lq_cX8_makeLayers (p := 18) (o := 162) rfl) (gB_l lq_cX8_makeLayers (p := 19) (o := 0) rfl) (gB_l lq_cX8_makeLayers (p := 20) (o := 33) rfl) rfl
theorem dX8_makeLayers_21 : decode cX8_makeLayers 21 = .ok (.aload_n 0, 1) := dc_42 (gB_l lq_cX8_makeLayers (p := 21) (o := 42) rfl)
theorem dX8_makeLayers_22 : decode cX8_makeLayers 22 = .ok (.iload_n 2, 1) := dc_28 (gB_l lq_cX8_makeLayers (p := 22) (o := 28) rfl)
theorem dX8_makeLayers_23 : decode cX8_makeLayers 23 = .ok (.iload 4, 2) := dc_21 (gB_l lq_cX8_makeLayers (p := 23) (o := 21) rfl) (gB_l lq_cX8_makeLayers (p := 24) (o := 4) rfl)
theorem dX8_makeLayers_25 : decode cX8_makeLayers 25 = .ok (.iload_n 3, 1) := dc_29 (gB_l lq_cX8_makeLayers (p := 25) (o := 29) rfl)
theorem dX8_makeLayers_26 : decode cX8_makeLayers 26 = .ok (.iconst (-1), 1) := dc_2 (gB_l lq_cX8_makeLayers (p := 26) (o := 2) rfl)
theorem dX8_makeLayers_27 : decode cX8_makeLayers 27 = .ok (.ixor, 1) := dc_130 (gB_l lq_cX8_makeLayers (p := 27) (o := 130) rfl)
theorem dX8_makeLayers_28 : decode cX8_makeLayers 28 = .ok (.iand, 1) := dc_126 (gB_l lq_cX8_makeLayers (p := 28) (o := 126) rfl)
theorem dX8_makeLayers_29 : decode cX8_makeLayers 29 = .ok (.invokestatic 94, 3) := dc_184 (gB_l lq_cX8_makeLayers (p := 29) (o := 184) rfl) (gB_l lq_cX8_makeLayers (p := 30) (o := 0) rfl) (gB_l lq_cX8_makeLayers (p := 31) (o := 94) rfl) rfl
theorem dX8_makeLayers_32 : decode cX8_makeLayers 32 = .ok (.istore_n 2, 1) := dc_61 (gB_c lq_cX8_makeLayers q1_cX8_makeLayers 0 (o := 61) rfl)
theorem dX8_makeLayers_33 : decode cX8_makeLayers 33 = .ok (.iload_n 3, 1) := dc_29 (gB_c lq_cX8_makeLayers q1_cX8_makeLayers 1 (o := 29) rfl)
theorem dX8_makeLayers_34 : decode cX8_makeLayers 34 = .ok (.iload 4, 2) := dc_21 (gB_c lq_cX8_makeLayers q1_cX8_makeLayers 2 (o := 21) rfl) (gB_c lq_cX8_makeLayers q1_cX8_makeLayers 3 (o := 4) rfl)
theorem dX8_makeLayers_36 : decode cX8_makeLayers 36 = .ok (.ior, 1) := dc_128 (gB_c lq_cX8_makeLayers q1_cX8_makeLayers 4 (o := 128) rfl)
theorem dX8_makeLayers_37 : decode cX8_makeLayers 37 = .ok (.istore_n 3, 1) := dc_62 (gB_c lq_cX8_makeLayers q1_cX8_makeLayers 5 (o := 62) rfl)
theorem dX8_makeLayers_38 : decode cX8_makeLayers 38 = .ok (.aload_n 0, 1) := dc_42 (gB_c lq_cX8_makeLayers q1_cX8_makeLayers 6 (o := 42) rfl)
theorem dX8_makeLayers_39 : decode cX8_makeLayers 39 = .ok (.iload_n 3, 1) := dc_29 (gB_c lq_cX8_makeLayers q1_cX8_makeLayers 7 (o := 29) rfl)
theorem dX8_makeLayers_40 : decode cX8_makeLayers 40 = .ok (.invokestatic 97, 3) := dc_184 (gB_c lq_cX8_makeLayers q1_cX8_makeLayers 8 (o := 184) rfl) (gB_c lq_cX8_makeLayers q1_cX8_makeLayers 9 (o := 0) rfl) (gB_c lq_cX8_makeLayers q1_cX8_makeLayers 10 (o := 97) rfl) rfl
theorem dX8_makeLayers_43 : decode cX8_makeLayers 43 = .ok (.istore 4, 2) := dc_54 (gB_c lq_cX8_makeLayers q1_cX8_makeLayers 11 (o := 54) rfl) (gB_c lq_cX8_makeLayers q1_cX8_makeLayers 12 (o := 4) rfl)
theorem dX8_makeLayers_45 : decode cX8_makeLayers 45 = .ok (.iinc 5 1, 3) := dc_132 (gB_c lq_cX8_makeLayers q1_cX8_makeLayers 13 (o := 132) rfl) (gB_c lq_cX8_makeLayers q1_cX8_makeLayers 14 (o := 5) rfl) (gB_c lq_cX8_makeLayers q1_cX8_makeLayers 15 (o := 1) rfl) rfl
theorem dX8_makeLayers_48 : decode cX8_makeLayers 48 = .ok (.goto (-36), 3) := dc_167 (gB_c lq_cX8_makeLayers q1_cX8_makeLayers 16 (o := 167) rfl) (gB_c lq_cX8_makeLayers q1_cX8_makeLayers 17 (o := 255) rfl) (gB_c lq_cX8_makeLayers q1_cX8_makeLayers 18 (o := 220) rfl) rfl
theorem dX8_makeLayers_51 : decode cX8_makeLayers 51 = .ok (.aload_n 0, 1) := dc_42 (gB_c lq_cX8_makeLayers q1_cX8_makeLayers 19 (o := 42) rfl)
theorem dX8_makeLayers_52 : decode cX8_makeLayers 52 = .ok (.iload_n 2, 1) := dc_28 (gB_c lq_cX8_makeLayers q1_cX8_makeLayers 20 (o := 28) rfl)
theorem dX8_makeLayers_53 : decode cX8_makeLayers 53 = .ok (.aload_n 0, 1) := dc_42 (gB_c lq_cX8_makeLayers q1_cX8_makeLayers 21 (o := 42) rfl)
theorem dX8_makeLayers_54 : decode cX8_makeLayers 54 = .ok (.invokevirtual 102, 3) := dc_182 (gB_c lq_cX8_makeLayers q1_cX8_makeLayers 22 (o := 182) rfl) (gB_c lq_cX8_makeLayers q1_cX8_makeLayers 23 (o := 0) rfl) (gB_c lq_cX8_makeLayers q1_cX8_makeLayers 24 (o := 102) rfl) rfl
theorem dX8_makeLayers_57 : decode cX8_makeLayers 57 = .ok (.iload_n 3, 1) := dc_29 (gB_c lq_cX8_makeLayers q1_cX8_makeLayers 25 (o := 29) rfl)
theorem dX8_makeLayers_58 : decode cX8_makeLayers 58 = .ok (.iconst (-1), 1) := dc_2 (gB_c lq_cX8_makeLayers q1_cX8_makeLayers 26 (o := 2) rfl)
theorem dX8_makeLayers_59 : decode cX8_makeLayers 59 = .ok (.ixor, 1) := dc_130 (gB_c lq_cX8_makeLayers q1_cX8_makeLayers 27 (o := 130) rfl)
theorem dX8_makeLayers_60 : decode cX8_makeLayers 60 = .ok (.iand, 1) := dc_126 (gB_c lq_cX8_makeLayers q1_cX8_makeLayers 28 (o := 126) rfl)
theorem dX8_makeLayers_61 : decode cX8_makeLayers 61 = .ok (.invokestatic 94, 3) := dc_184 (gB_c lq_cX8_makeLayers q1_cX8_makeLayers 29 (o := 184) rfl) (gB_c lq_cX8_makeLayers q1_cX8_makeLayers 30 (o := 0) rfl) (gB_c lq_cX8_makeLayers q1_cX8_makeLayers 31 (o := 94) rfl) rfl
theorem dX8_makeLayers_64 : decode cX8_makeLayers 64 = .ok (.pop, 1) := dc_87 (gB_c lq_cX8_makeLayers q2_cX8_makeLayers 0 (o := 87) rfl)
theorem dX8_makeLayers_65 : decode cX8_makeLayers 65 = .ok (.return_, 1) := dc_177 (gB_c lq_cX8_makeLayers q2_cX8_makeLayers 1 (o := 177) rfl)
abbrev r2_cX8_measured : List Nat := [128, 62, 132, 4, 1, 167, 255, 204, 28, 172]
def a1_cX8_measured : List Nat := [46, 54, 5, 27, 29, 21, 5, 184, 0, 25, 54, 6, 27, 28, 42, 27, 21, 6, 21, 5, 184, 0, 31, 184, 0, 35, 61, 29, 4, 21, 5, 120]
abbrev r1_cX8_measured : List Nat := a1_cX8_measured ++ r2_cX8_measured
def a0_cX8_measured : List Nat := [27, 5, 160, 0, 8, 42, 184, 0, 9, 172, 3, 61, 3, 62, 3, 54, 4, 21, 4, 42, 180, 0, 15, 162, 0, 49, 42, 180, 0, 21, 21, 4]
abbrev r0_cX8_measured : List Nat := a0_cX8_measured ++ r1_cX8_measured
theorem lq_cX8_measured : (cX8_measured).data.toList.map UInt8.toNat = r0_cX8_measured := by decide +kernel
theorem q1_cX8_measured : ∀ i, (r0_cX8_measured)[32 + i]? = (r1_cX8_measured)[i]? := chn (A := a0_cX8_measured) (B := r1_cX8_measured) (n := 0) (k := 32) rfl (ch0 (R := r0_cX8_measured))
theorem q2_cX8_measured : ∀ i, (r0_cX8_measured)[64 + i]? = (r2_cX8_measured)[i]? := chn (A := a1_cX8_measured) (B := r2_cX8_measured) (n := 32) (k := 32) rfl q1_cX8_measured
theorem dX8_measured_0 : decode cX8_measured 0 = .ok (.iload_n 1, 1) := dc_27 (gB_l lq_cX8_measured (p := 0) (o := 27) rfl)
theorem dX8_measured_1 : decode cX8_measured 1 = .ok (.iconst 2, 1) := dc_5 (gB_l lq_cX8_measured (p := 1) (o := 5) rfl)
theorem dX8_measured_2 : decode cX8_measured 2 = .ok (.if_icmp .ne 8, 3) := dc_160 (gB_l lq_cX8_measured (p := 2) (o := 160) rfl) (gB_l lq_cX8_measured (p := 3) (o := 0) rfl) (gB_l lq_cX8_measured (p := 4) (o := 8) rfl) rfl
theorem dX8_measured_5 : decode cX8_measured 5 = .ok (.aload_n 0, 1) := dc_42 (gB_l lq_cX8_measured (p := 5) (o := 42) rfl)
theorem dX8_measured_6 : decode cX8_measured 6 = .ok (.invokestatic 9, 3) := dc_184 (gB_l lq_cX8_measured (p := 6) (o := 184) rfl) (gB_l lq_cX8_measured (p := 7) (o := 0) rfl) (gB_l lq_cX8_measured (p := 8) (o := 9) rfl) rfl
theorem dX8_measured_9 : decode cX8_measured 9 = .ok (.ireturn, 1) := dc_172 (gB_l lq_cX8_measured (p := 9) (o := 172) rfl)
theorem dX8_measured_10 : decode cX8_measured 10 = .ok (.iconst 0, 1) := dc_3 (gB_l lq_cX8_measured (p := 10) (o := 3) rfl)
theorem dX8_measured_11 : decode cX8_measured 11 = .ok (.istore_n 2, 1) := dc_61 (gB_l lq_cX8_measured (p := 11) (o := 61) rfl)
theorem dX8_measured_12 : decode cX8_measured 12 = .ok (.iconst 0, 1) := dc_3 (gB_l lq_cX8_measured (p := 12) (o := 3) rfl)
theorem dX8_measured_13 : decode cX8_measured 13 = .ok (.istore_n 3, 1) := dc_62 (gB_l lq_cX8_measured (p := 13) (o := 62) rfl)
theorem dX8_measured_14 : decode cX8_measured 14 = .ok (.iconst 0, 1) := dc_3 (gB_l lq_cX8_measured (p := 14) (o := 3) rfl)
theorem dX8_measured_15 : decode cX8_measured 15 = .ok (.istore 4, 2) := dc_54 (gB_l lq_cX8_measured (p := 15) (o := 54) rfl) (gB_l lq_cX8_measured (p := 16) (o := 4) rfl)
theorem dX8_measured_17 : decode cX8_measured 17 = .ok (.iload 4, 2) := dc_21 (gB_l lq_cX8_measured (p := 17) (o := 21) rfl) (gB_l lq_cX8_measured (p := 18) (o := 4) rfl)
theorem dX8_measured_19 : decode cX8_measured 19 = .ok (.aload_n 0, 1) := dc_42 (gB_l lq_cX8_measured (p := 19) (o := 42) rfl)
theorem dX8_measured_20 : decode cX8_measured 20 = .ok (.getfield 15, 3) := dc_180 (gB_l lq_cX8_measured (p := 20) (o := 180) rfl) (gB_l lq_cX8_measured (p := 21) (o := 0) rfl) (gB_l lq_cX8_measured (p := 22) (o := 15) rfl) rfl
theorem dX8_measured_23 : decode cX8_measured 23 = .ok (.if_icmp .ge 49, 3) := dc_162 (gB_l lq_cX8_measured (p := 23) (o := 162) rfl) (gB_l lq_cX8_measured (p := 24) (o := 0) rfl) (gB_l lq_cX8_measured (p := 25) (o := 49) rfl) rfl
theorem dX8_measured_26 : decode cX8_measured 26 = .ok (.aload_n 0, 1) := dc_42 (gB_l lq_cX8_measured (p := 26) (o := 42) rfl)
theorem dX8_measured_27 : decode cX8_measured 27 = .ok (.getfield 21, 3) := dc_180 (gB_l lq_cX8_measured (p := 27) (o := 180) rfl) (gB_l lq_cX8_measured (p := 28) (o := 0) rfl) (gB_l lq_cX8_measured (p := 29) (o := 21) rfl) rfl
theorem dX8_measured_30 : decode cX8_measured 30 = .ok (.iload 4, 2) := dc_21 (gB_l lq_cX8_measured (p := 30) (o := 21) rfl) (gB_l lq_cX8_measured (p := 31) (o := 4) rfl)
theorem dX8_measured_32 : decode cX8_measured 32 = .ok (.iaload, 1) := dc_46 (gB_c lq_cX8_measured q1_cX8_measured 0 (o := 46) rfl)
theorem dX8_measured_33 : decode cX8_measured 33 = .ok (.istore 5, 2) := dc_54 (gB_c lq_cX8_measured q1_cX8_measured 1 (o := 54) rfl) (gB_c lq_cX8_measured q1_cX8_measured 2 (o := 5) rfl)
theorem dX8_measured_35 : decode cX8_measured 35 = .ok (.iload_n 1, 1) := dc_27 (gB_c lq_cX8_measured q1_cX8_measured 3 (o := 27) rfl)
theorem dX8_measured_36 : decode cX8_measured 36 = .ok (.iload_n 3, 1) := dc_29 (gB_c lq_cX8_measured q1_cX8_measured 4 (o := 29) rfl)
theorem dX8_measured_37 : decode cX8_measured 37 = .ok (.iload 5, 2) := dc_21 (gB_c lq_cX8_measured q1_cX8_measured 5 (o := 21) rfl) (gB_c lq_cX8_measured q1_cX8_measured 6 (o := 5) rfl)
theorem dX8_measured_39 : decode cX8_measured 39 = .ok (.invokestatic 25, 3) := dc_184 (gB_c lq_cX8_measured q1_cX8_measured 7 (o := 184) rfl) (gB_c lq_cX8_measured q1_cX8_measured 8 (o := 0) rfl) (gB_c lq_cX8_measured q1_cX8_measured 9 (o := 25) rfl) rfl
theorem dX8_measured_42 : decode cX8_measured 42 = .ok (.istore 6, 2) := dc_54 (gB_c lq_cX8_measured q1_cX8_measured 10 (o := 54) rfl) (gB_c lq_cX8_measured q1_cX8_measured 11 (o := 6) rfl)
theorem dX8_measured_44 : decode cX8_measured 44 = .ok (.iload_n 1, 1) := dc_27 (gB_c lq_cX8_measured q1_cX8_measured 12 (o := 27) rfl)
theorem dX8_measured_45 : decode cX8_measured 45 = .ok (.iload_n 2, 1) := dc_28 (gB_c lq_cX8_measured q1_cX8_measured 13 (o := 28) rfl)
theorem dX8_measured_46 : decode cX8_measured 46 = .ok (.aload_n 0, 1) := dc_42 (gB_c lq_cX8_measured q1_cX8_measured 14 (o := 42) rfl)
theorem dX8_measured_47 : decode cX8_measured 47 = .ok (.iload_n 1, 1) := dc_27 (gB_c lq_cX8_measured q1_cX8_measured 15 (o := 27) rfl)
theorem dX8_measured_48 : decode cX8_measured 48 = .ok (.iload 6, 2) := dc_21 (gB_c lq_cX8_measured q1_cX8_measured 16 (o := 21) rfl) (gB_c lq_cX8_measured q1_cX8_measured 17 (o := 6) rfl)
theorem dX8_measured_50 : decode cX8_measured 50 = .ok (.iload 5, 2) := dc_21 (gB_c lq_cX8_measured q1_cX8_measured 18 (o := 21) rfl) (gB_c lq_cX8_measured q1_cX8_measured 19 (o := 5) rfl)
theorem dX8_measured_52 : decode cX8_measured 52 = .ok (.invokestatic 31, 3) := dc_184 (gB_c lq_cX8_measured q1_cX8_measured 20 (o := 184) rfl) (gB_c lq_cX8_measured q1_cX8_measured 21 (o := 0) rfl) (gB_c lq_cX8_measured q1_cX8_measured 22 (o := 31) rfl) rfl
theorem dX8_measured_55 : decode cX8_measured 55 = .ok (.invokestatic 35, 3) := dc_184 (gB_c lq_cX8_measured q1_cX8_measured 23 (o := 184) rfl) (gB_c lq_cX8_measured q1_cX8_measured 24 (o := 0) rfl) (gB_c lq_cX8_measured q1_cX8_measured 25 (o := 35) rfl) rfl
theorem dX8_measured_58 : decode cX8_measured 58 = .ok (.istore_n 2, 1) := dc_61 (gB_c lq_cX8_measured q1_cX8_measured 26 (o := 61) rfl)
theorem dX8_measured_59 : decode cX8_measured 59 = .ok (.iload_n 3, 1) := dc_29 (gB_c lq_cX8_measured q1_cX8_measured 27 (o := 29) rfl)
theorem dX8_measured_60 : decode cX8_measured 60 = .ok (.iconst 1, 1) := dc_4 (gB_c lq_cX8_measured q1_cX8_measured 28 (o := 4) rfl)
theorem dX8_measured_61 : decode cX8_measured 61 = .ok (.iload 5, 2) := dc_21 (gB_c lq_cX8_measured q1_cX8_measured 29 (o := 21) rfl) (gB_c lq_cX8_measured q1_cX8_measured 30 (o := 5) rfl)
theorem dX8_measured_63 : decode cX8_measured 63 = .ok (.ishl, 1) := dc_120 (gB_c lq_cX8_measured q1_cX8_measured 31 (o := 120) rfl)
theorem dX8_measured_64 : decode cX8_measured 64 = .ok (.ior, 1) := dc_128 (gB_c lq_cX8_measured q2_cX8_measured 0 (o := 128) rfl)
theorem dX8_measured_65 : decode cX8_measured 65 = .ok (.istore_n 3, 1) := dc_62 (gB_c lq_cX8_measured q2_cX8_measured 1 (o := 62) rfl)
theorem dX8_measured_66 : decode cX8_measured 66 = .ok (.iinc 4 1, 3) := dc_132 (gB_c lq_cX8_measured q2_cX8_measured 2 (o := 132) rfl) (gB_c lq_cX8_measured q2_cX8_measured 3 (o := 4) rfl) (gB_c lq_cX8_measured q2_cX8_measured 4 (o := 1) rfl) rfl
theorem dX8_measured_69 : decode cX8_measured 69 = .ok (.goto (-52), 3) := dc_167 (gB_c lq_cX8_measured q2_cX8_measured 5 (o := 167) rfl) (gB_c lq_cX8_measured q2_cX8_measured 6 (o := 255) rfl) (gB_c lq_cX8_measured q2_cX8_measured 7 (o := 204) rfl) rfl
theorem dX8_measured_72 : decode cX8_measured 72 = .ok (.iload_n 2, 1) := dc_28 (gB_c lq_cX8_measured q2_cX8_measured 8 (o := 28) rfl)
theorem dX8_measured_73 : decode cX8_measured 73 = .ok (.ireturn, 1) := dc_172 (gB_c lq_cX8_measured q2_cX8_measured 9 (o := 172) rfl)
abbrev r4_cX8_newLine : List Nat := [5, 120, 128, 61, 132, 4, 1, 167, 255, 128, 27, 2, 160, 0, 7, 29, 167, 0, 4, 2, 172]
def a3_cX8_newLine : List Nat := [162, 0, 18, 16, 10, 21, 7, 104, 21, 8, 27, 29, 100, 184, 0, 78, 96, 172, 29, 21, 9, 96, 62, 132, 7, 1, 167, 255, 171, 28, 4, 21]
abbrev r3_cX8_newLine : List Nat := a3_cX8_newLine ++ r4_cX8_newLine
def a2_cX8_newLine : List Nat := [184, 0, 70, 42, 28, 21, 7, 184, 0, 67, 2, 130, 126, 54, 8, 21, 8, 184, 0, 73, 54, 9, 27, 29, 161, 0, 26, 27, 29, 21, 9, 96]
abbrev r2_cX8_newLine : List Nat := a2_cX8_newLine ++ r3_cX8_newLine
def a1_cX8_newLine : List Nat := [54, 6, 3, 54, 7, 21, 7, 42, 180, 0, 15, 162, 0, 82, 21, 6, 21, 7, 122, 4, 126, 154, 0, 7, 3, 167, 0, 20, 21, 6, 21, 7]
abbrev r1_cX8_newLine : List Nat := a1_cX8_newLine ++ r2_cX8_newLine
def a0_cX8_newLine : List Nat := [3, 61, 3, 62, 3, 54, 4, 21, 4, 42, 180, 0, 15, 162, 0, 125, 42, 180, 0, 21, 21, 4, 46, 54, 5, 42, 28, 21, 5, 184, 0, 67]
abbrev r0_cX8_newLine : List Nat := a0_cX8_newLine ++ r1_cX8_newLine
theorem lq_cX8_newLine : (cX8_newLine).data.toList.map UInt8.toNat = r0_cX8_newLine := by decide +kernel
theorem q1_cX8_newLine : ∀ i, (r0_cX8_newLine)[32 + i]? = (r1_cX8_newLine)[i]? := chn (A := a0_cX8_newLine) (B := r1_cX8_newLine) (n := 0) (k := 32) rfl (ch0 (R := r0_cX8_newLine))
theorem q2_cX8_newLine : ∀ i, (r0_cX8_newLine)[64 + i]? = (r2_cX8_newLine)[i]? := chn (A := a1_cX8_newLine) (B := r2_cX8_newLine) (n := 32) (k := 32) rfl q1_cX8_newLine
theorem q3_cX8_newLine : ∀ i, (r0_cX8_newLine)[96 + i]? = (r3_cX8_newLine)[i]? := chn (A := a2_cX8_newLine) (B := r3_cX8_newLine) (n := 64) (k := 32) rfl q2_cX8_newLine
theorem q4_cX8_newLine : ∀ i, (r0_cX8_newLine)[128 + i]? = (r4_cX8_newLine)[i]? := chn (A := a3_cX8_newLine) (B := r4_cX8_newLine) (n := 96) (k := 32) rfl q3_cX8_newLine
theorem dX8_newLine_0 : decode cX8_newLine 0 = .ok (.iconst 0, 1) := dc_3 (gB_l lq_cX8_newLine (p := 0) (o := 3) rfl)
theorem dX8_newLine_1 : decode cX8_newLine 1 = .ok (.istore_n 2, 1) := dc_61 (gB_l lq_cX8_newLine (p := 1) (o := 61) rfl)
theorem dX8_newLine_2 : decode cX8_newLine 2 = .ok (.iconst 0, 1) := dc_3 (gB_l lq_cX8_newLine (p := 2) (o := 3) rfl)
theorem dX8_newLine_3 : decode cX8_newLine 3 = .ok (.istore_n 3, 1) := dc_62 (gB_l lq_cX8_newLine (p := 3) (o := 62) rfl)
theorem dX8_newLine_4 : decode cX8_newLine 4 = .ok (.iconst 0, 1) := dc_3 (gB_l lq_cX8_newLine (p := 4) (o := 3) rfl)
theorem dX8_newLine_5 : decode cX8_newLine 5 = .ok (.istore 4, 2) := dc_54 (gB_l lq_cX8_newLine (p := 5) (o := 54) rfl) (gB_l lq_cX8_newLine (p := 6) (o := 4) rfl)
theorem dX8_newLine_7 : decode cX8_newLine 7 = .ok (.iload 4, 2) := dc_21 (gB_l lq_cX8_newLine (p := 7) (o := 21) rfl) (gB_l lq_cX8_newLine (p := 8) (o := 4) rfl)
theorem dX8_newLine_9 : decode cX8_newLine 9 = .ok (.aload_n 0, 1) := dc_42 (gB_l lq_cX8_newLine (p := 9) (o := 42) rfl)
theorem dX8_newLine_10 : decode cX8_newLine 10 = .ok (.getfield 15, 3) := dc_180 (gB_l lq_cX8_newLine (p := 10) (o := 180) rfl) (gB_l lq_cX8_newLine (p := 11) (o := 0) rfl) (gB_l lq_cX8_newLine (p := 12) (o := 15) rfl) rfl
theorem dX8_newLine_13 : decode cX8_newLine 13 = .ok (.if_icmp .ge 125, 3) := dc_162 (gB_l lq_cX8_newLine (p := 13) (o := 162) rfl) (gB_l lq_cX8_newLine (p := 14) (o := 0) rfl) (gB_l lq_cX8_newLine (p := 15) (o := 125) rfl) rfl
theorem dX8_newLine_16 : decode cX8_newLine 16 = .ok (.aload_n 0, 1) := dc_42 (gB_l lq_cX8_newLine (p := 16) (o := 42) rfl)
theorem dX8_newLine_17 : decode cX8_newLine 17 = .ok (.getfield 21, 3) := dc_180 (gB_l lq_cX8_newLine (p := 17) (o := 180) rfl) (gB_l lq_cX8_newLine (p := 18) (o := 0) rfl) (gB_l lq_cX8_newLine (p := 19) (o := 21) rfl) rfl
theorem dX8_newLine_20 : decode cX8_newLine 20 = .ok (.iload 4, 2) := dc_21 (gB_l lq_cX8_newLine (p := 20) (o := 21) rfl) (gB_l lq_cX8_newLine (p := 21) (o := 4) rfl)
theorem dX8_newLine_22 : decode cX8_newLine 22 = .ok (.iaload, 1) := dc_46 (gB_l lq_cX8_newLine (p := 22) (o := 46) rfl)
theorem dX8_newLine_23 : decode cX8_newLine 23 = .ok (.istore 5, 2) := dc_54 (gB_l lq_cX8_newLine (p := 23) (o := 54) rfl) (gB_l lq_cX8_newLine (p := 24) (o := 5) rfl)
theorem dX8_newLine_25 : decode cX8_newLine 25 = .ok (.aload_n 0, 1) := dc_42 (gB_l lq_cX8_newLine (p := 25) (o := 42) rfl)
theorem dX8_newLine_26 : decode cX8_newLine 26 = .ok (.iload_n 2, 1) := dc_28 (gB_l lq_cX8_newLine (p := 26) (o := 28) rfl)
theorem dX8_newLine_27 : decode cX8_newLine 27 = .ok (.iload 5, 2) := dc_21 (gB_l lq_cX8_newLine (p := 27) (o := 21) rfl) (gB_l lq_cX8_newLine (p := 28) (o := 5) rfl)
theorem dX8_newLine_29 : decode cX8_newLine 29 = .ok (.invokestatic 67, 3) := dc_184 (gB_l lq_cX8_newLine (p := 29) (o := 184) rfl) (gB_l lq_cX8_newLine (p := 30) (o := 0) rfl) (gB_l lq_cX8_newLine (p := 31) (o := 67) rfl) rfl
theorem dX8_newLine_32 : decode cX8_newLine 32 = .ok (.istore 6, 2) := dc_54 (gB_c lq_cX8_newLine q1_cX8_newLine 0 (o := 54) rfl) (gB_c lq_cX8_newLine q1_cX8_newLine 1 (o := 6) rfl)
theorem dX8_newLine_34 : decode cX8_newLine 34 = .ok (.iconst 0, 1) := dc_3 (gB_c lq_cX8_newLine q1_cX8_newLine 2 (o := 3) rfl)
theorem dX8_newLine_35 : decode cX8_newLine 35 = .ok (.istore 7, 2) := dc_54 (gB_c lq_cX8_newLine q1_cX8_newLine 3 (o := 54) rfl) (gB_c lq_cX8_newLine q1_cX8_newLine 4 (o := 7) rfl)
theorem dX8_newLine_37 : decode cX8_newLine 37 = .ok (.iload 7, 2) := dc_21 (gB_c lq_cX8_newLine q1_cX8_newLine 5 (o := 21) rfl) (gB_c lq_cX8_newLine q1_cX8_newLine 6 (o := 7) rfl)
theorem dX8_newLine_39 : decode cX8_newLine 39 = .ok (.aload_n 0, 1) := dc_42 (gB_c lq_cX8_newLine q1_cX8_newLine 7 (o := 42) rfl)
theorem dX8_newLine_40 : decode cX8_newLine 40 = .ok (.getfield 15, 3) := dc_180 (gB_c lq_cX8_newLine q1_cX8_newLine 8 (o := 180) rfl) (gB_c lq_cX8_newLine q1_cX8_newLine 9 (o := 0) rfl) (gB_c lq_cX8_newLine q1_cX8_newLine 10 (o := 15) rfl) rfl
theorem dX8_newLine_43 : decode cX8_newLine 43 = .ok (.if_icmp .ge 82, 3) := dc_162 (gB_c lq_cX8_newLine q1_cX8_newLine 11 (o := 162) rfl) (gB_c lq_cX8_newLine q1_cX8_newLine 12 (o := 0) rfl) (gB_c lq_cX8_newLine q1_cX8_newLine 13 (o := 82) rfl) rfl
theorem dX8_newLine_46 : decode cX8_newLine 46 = .ok (.iload 6, 2) := dc_21 (gB_c lq_cX8_newLine q1_cX8_newLine 14 (o := 21) rfl) (gB_c lq_cX8_newLine q1_cX8_newLine 15 (o := 6) rfl)
theorem dX8_newLine_48 : decode cX8_newLine 48 = .ok (.iload 7, 2) := dc_21 (gB_c lq_cX8_newLine q1_cX8_newLine 16 (o := 21) rfl) (gB_c lq_cX8_newLine q1_cX8_newLine 17 (o := 7) rfl)
theorem dX8_newLine_50 : decode cX8_newLine 50 = .ok (.ishr, 1) := dc_122 (gB_c lq_cX8_newLine q1_cX8_newLine 18 (o := 122) rfl)
theorem dX8_newLine_51 : decode cX8_newLine 51 = .ok (.iconst 1, 1) := dc_4 (gB_c lq_cX8_newLine q1_cX8_newLine 19 (o := 4) rfl)
theorem dX8_newLine_52 : decode cX8_newLine 52 = .ok (.iand, 1) := dc_126 (gB_c lq_cX8_newLine q1_cX8_newLine 20 (o := 126) rfl)
theorem dX8_newLine_53 : decode cX8_newLine 53 = .ok (.ifCond .ne 7, 3) := dc_154 (gB_c lq_cX8_newLine q1_cX8_newLine 21 (o := 154) rfl) (gB_c lq_cX8_newLine q1_cX8_newLine 22 (o := 0) rfl) (gB_c lq_cX8_newLine q1_cX8_newLine 23 (o := 7) rfl) rfl
theorem dX8_newLine_56 : decode cX8_newLine 56 = .ok (.iconst 0, 1) := dc_3 (gB_c lq_cX8_newLine q1_cX8_newLine 24 (o := 3) rfl)
theorem dX8_newLine_57 : decode cX8_newLine 57 = .ok (.goto 20, 3) := dc_167 (gB_c lq_cX8_newLine q1_cX8_newLine 25 (o := 167) rfl) (gB_c lq_cX8_newLine q1_cX8_newLine 26 (o := 0) rfl) (gB_c lq_cX8_newLine q1_cX8_newLine 27 (o := 20) rfl) rfl
theorem dX8_newLine_60 : decode cX8_newLine 60 = .ok (.iload 6, 2) := dc_21 (gB_c lq_cX8_newLine q1_cX8_newLine 28 (o := 21) rfl) (gB_c lq_cX8_newLine q1_cX8_newLine 29 (o := 6) rfl)
theorem dX8_newLine_62 : decode cX8_newLine 62 = .ok (.iload 7, 2) := dc_21 (gB_c lq_cX8_newLine q1_cX8_newLine 30 (o := 21) rfl) (gB_c lq_cX8_newLine q1_cX8_newLine 31 (o := 7) rfl)
theorem dX8_newLine_64 : decode cX8_newLine 64 = .ok (.invokestatic 70, 3) := dc_184 (gB_c lq_cX8_newLine q2_cX8_newLine 0 (o := 184) rfl) (gB_c lq_cX8_newLine q2_cX8_newLine 1 (o := 0) rfl) (gB_c lq_cX8_newLine q2_cX8_newLine 2 (o := 70) rfl) rfl
theorem dX8_newLine_67 : decode cX8_newLine 67 = .ok (.aload_n 0, 1) := dc_42 (gB_c lq_cX8_newLine q2_cX8_newLine 3 (o := 42) rfl)
theorem dX8_newLine_68 : decode cX8_newLine 68 = .ok (.iload_n 2, 1) := dc_28 (gB_c lq_cX8_newLine q2_cX8_newLine 4 (o := 28) rfl)
theorem dX8_newLine_69 : decode cX8_newLine 69 = .ok (.iload 7, 2) := dc_21 (gB_c lq_cX8_newLine q2_cX8_newLine 5 (o := 21) rfl) (gB_c lq_cX8_newLine q2_cX8_newLine 6 (o := 7) rfl)
theorem dX8_newLine_71 : decode cX8_newLine 71 = .ok (.invokestatic 67, 3) := dc_184 (gB_c lq_cX8_newLine q2_cX8_newLine 7 (o := 184) rfl) (gB_c lq_cX8_newLine q2_cX8_newLine 8 (o := 0) rfl) (gB_c lq_cX8_newLine q2_cX8_newLine 9 (o := 67) rfl) rfl
theorem dX8_newLine_74 : decode cX8_newLine 74 = .ok (.iconst (-1), 1) := dc_2 (gB_c lq_cX8_newLine q2_cX8_newLine 10 (o := 2) rfl)
theorem dX8_newLine_75 : decode cX8_newLine 75 = .ok (.ixor, 1) := dc_130 (gB_c lq_cX8_newLine q2_cX8_newLine 11 (o := 130) rfl)
theorem dX8_newLine_76 : decode cX8_newLine 76 = .ok (.iand, 1) := dc_126 (gB_c lq_cX8_newLine q2_cX8_newLine 12 (o := 126) rfl)
theorem dX8_newLine_77 : decode cX8_newLine 77 = .ok (.istore 8, 2) := dc_54 (gB_c lq_cX8_newLine q2_cX8_newLine 13 (o := 54) rfl) (gB_c lq_cX8_newLine q2_cX8_newLine 14 (o := 8) rfl)
theorem dX8_newLine_79 : decode cX8_newLine 79 = .ok (.iload 8, 2) := dc_21 (gB_c lq_cX8_newLine q2_cX8_newLine 15 (o := 21) rfl) (gB_c lq_cX8_newLine q2_cX8_newLine 16 (o := 8) rfl)
theorem dX8_newLine_81 : decode cX8_newLine 81 = .ok (.invokestatic 73, 3) := dc_184 (gB_c lq_cX8_newLine q2_cX8_newLine 17 (o := 184) rfl) (gB_c lq_cX8_newLine q2_cX8_newLine 18 (o := 0) rfl) (gB_c lq_cX8_newLine q2_cX8_newLine 19 (o := 73) rfl) rfl
theorem dX8_newLine_84 : decode cX8_newLine 84 = .ok (.istore 9, 2) := dc_54 (gB_c lq_cX8_newLine q2_cX8_newLine 20 (o := 54) rfl) (gB_c lq_cX8_newLine q2_cX8_newLine 21 (o := 9) rfl)
theorem dX8_newLine_86 : decode cX8_newLine 86 = .ok (.iload_n 1, 1) := dc_27 (gB_c lq_cX8_newLine q2_cX8_newLine 22 (o := 27) rfl)
theorem dX8_newLine_87 : decode cX8_newLine 87 = .ok (.iload_n 3, 1) := dc_29 (gB_c lq_cX8_newLine q2_cX8_newLine 23 (o := 29) rfl)
theorem dX8_newLine_88 : decode cX8_newLine 88 = .ok (.if_icmp .lt 26, 3) := dc_161 (gB_c lq_cX8_newLine q2_cX8_newLine 24 (o := 161) rfl) (gB_c lq_cX8_newLine q2_cX8_newLine 25 (o := 0) rfl) (gB_c lq_cX8_newLine q2_cX8_newLine 26 (o := 26) rfl) rfl
theorem dX8_newLine_91 : decode cX8_newLine 91 = .ok (.iload_n 1, 1) := dc_27 (gB_c lq_cX8_newLine q2_cX8_newLine 27 (o := 27) rfl)
theorem dX8_newLine_92 : decode cX8_newLine 92 = .ok (.iload_n 3, 1) := dc_29 (gB_c lq_cX8_newLine q2_cX8_newLine 28 (o := 29) rfl)
theorem dX8_newLine_93 : decode cX8_newLine 93 = .ok (.iload 9, 2) := dc_21 (gB_c lq_cX8_newLine q2_cX8_newLine 29 (o := 21) rfl) (gB_c lq_cX8_newLine q2_cX8_newLine 30 (o := 9) rfl)
theorem dX8_newLine_95 : decode cX8_newLine 95 = .ok (.iadd, 1) := dc_96 (gB_c lq_cX8_newLine q2_cX8_newLine 31 (o := 96) rfl)
theorem dX8_newLine_96 : decode cX8_newLine 96 = .ok (.if_icmp .ge 18, 3) := dc_162 (gB_c lq_cX8_newLine q3_cX8_newLine 0 (o := 162) rfl) (gB_c lq_cX8_newLine q3_cX8_newLine 1 (o := 0) rfl) (gB_c lq_cX8_newLine q3_cX8_newLine 2 (o := 18) rfl) rfl
theorem dX8_newLine_99 : decode cX8_newLine 99 = .ok (.bipush 10, 2) := dc_16 (gB_c lq_cX8_newLine q3_cX8_newLine 3 (o := 16) rfl) (gB_c lq_cX8_newLine q3_cX8_newLine 4 (o := 10) rfl) rfl
theorem dX8_newLine_101 : decode cX8_newLine 101 = .ok (.iload 7, 2) := dc_21 (gB_c lq_cX8_newLine q3_cX8_newLine 5 (o := 21) rfl) (gB_c lq_cX8_newLine q3_cX8_newLine 6 (o := 7) rfl)
theorem dX8_newLine_103 : decode cX8_newLine 103 = .ok (.imul, 1) := dc_104 (gB_c lq_cX8_newLine q3_cX8_newLine 7 (o := 104) rfl)
theorem dX8_newLine_104 : decode cX8_newLine 104 = .ok (.iload 8, 2) := dc_21 (gB_c lq_cX8_newLine q3_cX8_newLine 8 (o := 21) rfl) (gB_c lq_cX8_newLine q3_cX8_newLine 9 (o := 8) rfl)
theorem dX8_newLine_106 : decode cX8_newLine 106 = .ok (.iload_n 1, 1) := dc_27 (gB_c lq_cX8_newLine q3_cX8_newLine 10 (o := 27) rfl)
theorem dX8_newLine_107 : decode cX8_newLine 107 = .ok (.iload_n 3, 1) := dc_29 (gB_c lq_cX8_newLine q3_cX8_newLine 11 (o := 29) rfl)
theorem dX8_newLine_108 : decode cX8_newLine 108 = .ok (.isub, 1) := dc_100 (gB_c lq_cX8_newLine q3_cX8_newLine 12 (o := 100) rfl)
theorem dX8_newLine_109 : decode cX8_newLine 109 = .ok (.invokestatic 78, 3) := dc_184 (gB_c lq_cX8_newLine q3_cX8_newLine 13 (o := 184) rfl) (gB_c lq_cX8_newLine q3_cX8_newLine 14 (o := 0) rfl) (gB_c lq_cX8_newLine q3_cX8_newLine 15 (o := 78) rfl) rfl
theorem dX8_newLine_112 : decode cX8_newLine 112 = .ok (.iadd, 1) := dc_96 (gB_c lq_cX8_newLine q3_cX8_newLine 16 (o := 96) rfl)
theorem dX8_newLine_113 : decode cX8_newLine 113 = .ok (.ireturn, 1) := dc_172 (gB_c lq_cX8_newLine q3_cX8_newLine 17 (o := 172) rfl)
theorem dX8_newLine_114 : decode cX8_newLine 114 = .ok (.iload_n 3, 1) := dc_29 (gB_c lq_cX8_newLine q3_cX8_newLine 18 (o := 29) rfl)
theorem dX8_newLine_115 : decode cX8_newLine 115 = .ok (.iload 9, 2) := dc_21 (gB_c lq_cX8_newLine q3_cX8_newLine 19 (o := 21) rfl) (gB_c lq_cX8_newLine q3_cX8_newLine 20 (o := 9) rfl)
theorem dX8_newLine_117 : decode cX8_newLine 117 = .ok (.iadd, 1) := dc_96 (gB_c lq_cX8_newLine q3_cX8_newLine 21 (o := 96) rfl)
theorem dX8_newLine_118 : decode cX8_newLine 118 = .ok (.istore_n 3, 1) := dc_62 (gB_c lq_cX8_newLine q3_cX8_newLine 22 (o := 62) rfl)
theorem dX8_newLine_119 : decode cX8_newLine 119 = .ok (.iinc 7 1, 3) := dc_132 (gB_c lq_cX8_newLine q3_cX8_newLine 23 (o := 132) rfl) (gB_c lq_cX8_newLine q3_cX8_newLine 24 (o := 7) rfl) (gB_c lq_cX8_newLine q3_cX8_newLine 25 (o := 1) rfl) rfl
theorem dX8_newLine_122 : decode cX8_newLine 122 = .ok (.goto (-85), 3) := dc_167 (gB_c lq_cX8_newLine q3_cX8_newLine 26 (o := 167) rfl) (gB_c lq_cX8_newLine q3_cX8_newLine 27 (o := 255) rfl) (gB_c lq_cX8_newLine q3_cX8_newLine 28 (o := 171) rfl) rfl
theorem dX8_newLine_125 : decode cX8_newLine 125 = .ok (.iload_n 2, 1) := dc_28 (gB_c lq_cX8_newLine q3_cX8_newLine 29 (o := 28) rfl)
theorem dX8_newLine_126 : decode cX8_newLine 126 = .ok (.iconst 1, 1) := dc_4 (gB_c lq_cX8_newLine q3_cX8_newLine 30 (o := 4) rfl)
theorem dX8_newLine_127 : decode cX8_newLine 127 = .ok (.iload 5, 2) := dc_21 (gB_c lq_cX8_newLine q3_cX8_newLine 31 (o := 21) rfl) (gB_c lq_cX8_newLine q4_cX8_newLine 0 (o := 5) rfl)
theorem dX8_newLine_129 : decode cX8_newLine 129 = .ok (.ishl, 1) := dc_120 (gB_c lq_cX8_newLine q4_cX8_newLine 1 (o := 120) rfl)
theorem dX8_newLine_130 : decode cX8_newLine 130 = .ok (.ior, 1) := dc_128 (gB_c lq_cX8_newLine q4_cX8_newLine 2 (o := 128) rfl)
theorem dX8_newLine_131 : decode cX8_newLine 131 = .ok (.istore_n 2, 1) := dc_61 (gB_c lq_cX8_newLine q4_cX8_newLine 3 (o := 61) rfl)
theorem dX8_newLine_132 : decode cX8_newLine 132 = .ok (.iinc 4 1, 3) := dc_132 (gB_c lq_cX8_newLine q4_cX8_newLine 4 (o := 132) rfl) (gB_c lq_cX8_newLine q4_cX8_newLine 5 (o := 4) rfl) (gB_c lq_cX8_newLine q4_cX8_newLine 6 (o := 1) rfl) rfl
theorem dX8_newLine_135 : decode cX8_newLine 135 = .ok (.goto (-128), 3) := dc_167 (gB_c lq_cX8_newLine q4_cX8_newLine 7 (o := 167) rfl) (gB_c lq_cX8_newLine q4_cX8_newLine 8 (o := 255) rfl) (gB_c lq_cX8_newLine q4_cX8_newLine 9 (o := 128) rfl) rfl
theorem dX8_newLine_138 : decode cX8_newLine 138 = .ok (.iload_n 1, 1) := dc_27 (gB_c lq_cX8_newLine q4_cX8_newLine 10 (o := 27) rfl)
theorem dX8_newLine_139 : decode cX8_newLine 139 = .ok (.iconst (-1), 1) := dc_2 (gB_c lq_cX8_newLine q4_cX8_newLine 11 (o := 2) rfl)
theorem dX8_newLine_140 : decode cX8_newLine 140 = .ok (.if_icmp .ne 7, 3) := dc_160 (gB_c lq_cX8_newLine q4_cX8_newLine 12 (o := 160) rfl) (gB_c lq_cX8_newLine q4_cX8_newLine 13 (o := 0) rfl) (gB_c lq_cX8_newLine q4_cX8_newLine 14 (o := 7) rfl) rfl
theorem dX8_newLine_143 : decode cX8_newLine 143 = .ok (.iload_n 3, 1) := dc_29 (gB_c lq_cX8_newLine q4_cX8_newLine 15 (o := 29) rfl)
theorem dX8_newLine_144 : decode cX8_newLine 144 = .ok (.goto 4, 3) := dc_167 (gB_c lq_cX8_newLine q4_cX8_newLine 16 (o := 167) rfl) (gB_c lq_cX8_newLine q4_cX8_newLine 17 (o := 0) rfl) (gB_c lq_cX8_newLine q4_cX8_newLine 18 (o := 4) rfl) rfl
theorem dX8_newLine_147 : decode cX8_newLine 147 = .ok (.iconst (-1), 1) := dc_2 (gB_c lq_cX8_newLine q4_cX8_newLine 19 (o := 2) rfl)
theorem dX8_newLine_148 : decode cX8_newLine 148 = .ok (.ireturn, 1) := dc_172 (gB_c lq_cX8_newLine q4_cX8_newLine 20 (o := 172) rfl)
abbrev r0_cX8_polishRow : List Nat := [3, 61, 28, 17, 15, 160, 162, 0, 19, 42, 27, 184, 0, 81, 154, 0, 5, 28, 172, 132, 2, 1, 167, 255, 236, 17, 15, 160, 172]
theorem lq_cX8_polishRow : (cX8_polishRow).data.toList.map UInt8.toNat = r0_cX8_polishRow := by decide +kernel
theorem dX8_polishRow_0 : decode cX8_polishRow 0 = .ok (.iconst 0, 1) := dc_3 (gB_l lq_cX8_polishRow (p := 0) (o := 3) rfl)
theorem dX8_polishRow_1 : decode cX8_polishRow 1 = .ok (.istore_n 2, 1) := dc_61 (gB_l lq_cX8_polishRow (p := 1) (o := 61) rfl)
theorem dX8_polishRow_2 : decode cX8_polishRow 2 = .ok (.iload_n 2, 1) := dc_28 (gB_l lq_cX8_polishRow (p := 2) (o := 28) rfl)
theorem dX8_polishRow_3 : decode cX8_polishRow 3 = .ok (.sipush 4000, 3) := dc_17 (gB_l lq_cX8_polishRow (p := 3) (o := 17) rfl) (gB_l lq_cX8_polishRow (p := 4) (o := 15) rfl) (gB_l lq_cX8_polishRow (p := 5) (o := 160) rfl) rfl
theorem dX8_polishRow_6 : decode cX8_polishRow 6 = .ok (.if_icmp .ge 19, 3) := dc_162 (gB_l lq_cX8_polishRow (p := 6) (o := 162) rfl) (gB_l lq_cX8_polishRow (p := 7) (o := 0) rfl) (gB_l lq_cX8_polishRow (p := 8) (o := 19) rfl) rfl
theorem dX8_polishRow_9 : decode cX8_polishRow 9 = .ok (.aload_n 0, 1) := dc_42 (gB_l lq_cX8_polishRow (p := 9) (o := 42) rfl)
theorem dX8_polishRow_10 : decode cX8_polishRow 10 = .ok (.iload_n 1, 1) := dc_27 (gB_l lq_cX8_polishRow (p := 10) (o := 27) rfl)
theorem dX8_polishRow_11 : decode cX8_polishRow 11 = .ok (.invokestatic 81, 3) := dc_184 (gB_l lq_cX8_polishRow (p := 11) (o := 184) rfl) (gB_l lq_cX8_polishRow (p := 12) (o := 0) rfl) (gB_l lq_cX8_polishRow (p := 13) (o := 81) rfl) rfl
theorem dX8_polishRow_14 : decode cX8_polishRow 14 = .ok (.ifCond .ne 5, 3) := dc_154 (gB_l lq_cX8_polishRow (p := 14) (o := 154) rfl) (gB_l lq_cX8_polishRow (p := 15) (o := 0) rfl) (gB_l lq_cX8_polishRow (p := 16) (o := 5) rfl) rfl
theorem dX8_polishRow_17 : decode cX8_polishRow 17 = .ok (.iload_n 2, 1) := dc_28 (gB_l lq_cX8_polishRow (p := 17) (o := 28) rfl)
theorem dX8_polishRow_18 : decode cX8_polishRow 18 = .ok (.ireturn, 1) := dc_172 (gB_l lq_cX8_polishRow (p := 18) (o := 172) rfl)
theorem dX8_polishRow_19 : decode cX8_polishRow 19 = .ok (.iinc 2 1, 3) := dc_132 (gB_l lq_cX8_polishRow (p := 19) (o := 132) rfl) (gB_l lq_cX8_polishRow (p := 20) (o := 2) rfl) (gB_l lq_cX8_polishRow (p := 21) (o := 1) rfl) rfl
theorem dX8_polishRow_22 : decode cX8_polishRow 22 = .ok (.goto (-20), 3) := dc_167 (gB_l lq_cX8_polishRow (p := 22) (o := 167) rfl) (gB_l lq_cX8_polishRow (p := 23) (o := 255) rfl) (gB_l lq_cX8_polishRow (p := 24) (o := 236) rfl) rfl
theorem dX8_polishRow_25 : decode cX8_polishRow 25 = .ok (.sipush 4000, 3) := dc_17 (gB_l lq_cX8_polishRow (p := 25) (o := 17) rfl) (gB_l lq_cX8_polishRow (p := 26) (o := 15) rfl) (gB_l lq_cX8_polishRow (p := 27) (o := 160) rfl) rfl
theorem dX8_polishRow_28 : decode cX8_polishRow 28 = .ok (.ireturn, 1) := dc_172 (gB_l lq_cX8_polishRow (p := 28) (o := 172) rfl)
abbrev r1_cX8_putInRow : List Nat := [180, 0, 21, 29, 21, 4, 79, 132, 3, 1, 132, 4, 1, 167, 255, 216, 29, 172]
def a0_cX8_putInRow : List Nat := [27, 62, 3, 54, 4, 21, 4, 42, 180, 0, 15, 162, 0, 37, 28, 21, 4, 122, 4, 126, 153, 0, 22, 29, 42, 180, 0, 15, 162, 0, 14, 42]
abbrev r0_cX8_putInRow : List Nat := a0_cX8_putInRow ++ r1_cX8_putInRow
theorem lq_cX8_putInRow : (cX8_putInRow).data.toList.map UInt8.toNat = r0_cX8_putInRow := by decide +kernel
theorem q1_cX8_putInRow : ∀ i, (r0_cX8_putInRow)[32 + i]? = (r1_cX8_putInRow)[i]? := chn (A := a0_cX8_putInRow) (B := r1_cX8_putInRow) (n := 0) (k := 32) rfl (ch0 (R := r0_cX8_putInRow))
theorem dX8_putInRow_0 : decode cX8_putInRow 0 = .ok (.iload_n 1, 1) := dc_27 (gB_l lq_cX8_putInRow (p := 0) (o := 27) rfl)
theorem dX8_putInRow_1 : decode cX8_putInRow 1 = .ok (.istore_n 3, 1) := dc_62 (gB_l lq_cX8_putInRow (p := 1) (o := 62) rfl)
theorem dX8_putInRow_2 : decode cX8_putInRow 2 = .ok (.iconst 0, 1) := dc_3 (gB_l lq_cX8_putInRow (p := 2) (o := 3) rfl)
theorem dX8_putInRow_3 : decode cX8_putInRow 3 = .ok (.istore 4, 2) := dc_54 (gB_l lq_cX8_putInRow (p := 3) (o := 54) rfl) (gB_l lq_cX8_putInRow (p := 4) (o := 4) rfl)
theorem dX8_putInRow_5 : decode cX8_putInRow 5 = .ok (.iload 4, 2) := dc_21 (gB_l lq_cX8_putInRow (p := 5) (o := 21) rfl) (gB_l lq_cX8_putInRow (p := 6) (o := 4) rfl)
theorem dX8_putInRow_7 : decode cX8_putInRow 7 = .ok (.aload_n 0, 1) := dc_42 (gB_l lq_cX8_putInRow (p := 7) (o := 42) rfl)
theorem dX8_putInRow_8 : decode cX8_putInRow 8 = .ok (.getfield 15, 3) := dc_180 (gB_l lq_cX8_putInRow (p := 8) (o := 180) rfl) (gB_l lq_cX8_putInRow (p := 9) (o := 0) rfl) (gB_l lq_cX8_putInRow (p := 10) (o := 15) rfl) rfl
theorem dX8_putInRow_11 : decode cX8_putInRow 11 = .ok (.if_icmp .ge 37, 3) := dc_162 (gB_l lq_cX8_putInRow (p := 11) (o := 162) rfl) (gB_l lq_cX8_putInRow (p := 12) (o := 0) rfl) (gB_l lq_cX8_putInRow (p := 13) (o := 37) rfl) rfl
theorem dX8_putInRow_14 : decode cX8_putInRow 14 = .ok (.iload_n 2, 1) := dc_28 (gB_l lq_cX8_putInRow (p := 14) (o := 28) rfl)
theorem dX8_putInRow_15 : decode cX8_putInRow 15 = .ok (.iload 4, 2) := dc_21 (gB_l lq_cX8_putInRow (p := 15) (o := 21) rfl) (gB_l lq_cX8_putInRow (p := 16) (o := 4) rfl)
theorem dX8_putInRow_17 : decode cX8_putInRow 17 = .ok (.ishr, 1) := dc_122 (gB_l lq_cX8_putInRow (p := 17) (o := 122) rfl)
theorem dX8_putInRow_18 : decode cX8_putInRow 18 = .ok (.iconst 1, 1) := dc_4 (gB_l lq_cX8_putInRow (p := 18) (o := 4) rfl)
theorem dX8_putInRow_19 : decode cX8_putInRow 19 = .ok (.iand, 1) := dc_126 (gB_l lq_cX8_putInRow (p := 19) (o := 126) rfl)
theorem dX8_putInRow_20 : decode cX8_putInRow 20 = .ok (.ifCond .eq 22, 3) := dc_153 (gB_l lq_cX8_putInRow (p := 20) (o := 153) rfl) (gB_l lq_cX8_putInRow (p := 21) (o := 0) rfl) (gB_l lq_cX8_putInRow (p := 22) (o := 22) rfl) rfl
theorem dX8_putInRow_23 : decode cX8_putInRow 23 = .ok (.iload_n 3, 1) := dc_29 (gB_l lq_cX8_putInRow (p := 23) (o := 29) rfl)
theorem dX8_putInRow_24 : decode cX8_putInRow 24 = .ok (.aload_n 0, 1) := dc_42 (gB_l lq_cX8_putInRow (p := 24) (o := 42) rfl)
theorem dX8_putInRow_25 : decode cX8_putInRow 25 = .ok (.getfield 15, 3) := dc_180 (gB_l lq_cX8_putInRow (p := 25) (o := 180) rfl) (gB_l lq_cX8_putInRow (p := 26) (o := 0) rfl) (gB_l lq_cX8_putInRow (p := 27) (o := 15) rfl) rfl
theorem dX8_putInRow_28 : decode cX8_putInRow 28 = .ok (.if_icmp .ge 14, 3) := dc_162 (gB_l lq_cX8_putInRow (p := 28) (o := 162) rfl) (gB_l lq_cX8_putInRow (p := 29) (o := 0) rfl) (gB_l lq_cX8_putInRow (p := 30) (o := 14) rfl) rfl
theorem dX8_putInRow_31 : decode cX8_putInRow 31 = .ok (.aload_n 0, 1) := dc_42 (gB_l lq_cX8_putInRow (p := 31) (o := 42) rfl)
theorem dX8_putInRow_32 : decode cX8_putInRow 32 = .ok (.getfield 21, 3) := dc_180 (gB_c lq_cX8_putInRow q1_cX8_putInRow 0 (o := 180) rfl) (gB_c lq_cX8_putInRow q1_cX8_putInRow 1 (o := 0) rfl) (gB_c lq_cX8_putInRow q1_cX8_putInRow 2 (o := 21) rfl) rfl
theorem dX8_putInRow_35 : decode cX8_putInRow 35 = .ok (.iload_n 3, 1) := dc_29 (gB_c lq_cX8_putInRow q1_cX8_putInRow 3 (o := 29) rfl)
theorem dX8_putInRow_36 : decode cX8_putInRow 36 = .ok (.iload 4, 2) := dc_21 (gB_c lq_cX8_putInRow q1_cX8_putInRow 4 (o := 21) rfl) (gB_c lq_cX8_putInRow q1_cX8_putInRow 5 (o := 4) rfl)
theorem dX8_putInRow_38 : decode cX8_putInRow 38 = .ok (.iastore, 1) := dc_79 (gB_c lq_cX8_putInRow q1_cX8_putInRow 6 (o := 79) rfl)
theorem dX8_putInRow_39 : decode cX8_putInRow 39 = .ok (.iinc 3 1, 3) := dc_132 (gB_c lq_cX8_putInRow q1_cX8_putInRow 7 (o := 132) rfl) (gB_c lq_cX8_putInRow q1_cX8_putInRow 8 (o := 3) rfl) (gB_c lq_cX8_putInRow q1_cX8_putInRow 9 (o := 1) rfl) rfl
theorem dX8_putInRow_42 : decode cX8_putInRow 42 = .ok (.iinc 4 1, 3) := dc_132 (gB_c lq_cX8_putInRow q1_cX8_putInRow 10 (o := 132) rfl) (gB_c lq_cX8_putInRow q1_cX8_putInRow 11 (o := 4) rfl) (gB_c lq_cX8_putInRow q1_cX8_putInRow 12 (o := 1) rfl) rfl
theorem dX8_putInRow_45 : decode cX8_putInRow 45 = .ok (.goto (-40), 3) := dc_167 (gB_c lq_cX8_putInRow q1_cX8_putInRow 13 (o := 167) rfl) (gB_c lq_cX8_putInRow q1_cX8_putInRow 14 (o := 255) rfl) (gB_c lq_cX8_putInRow q1_cX8_putInRow 15 (o := 216) rfl) rfl
theorem dX8_putInRow_48 : decode cX8_putInRow 48 = .ok (.iload_n 3, 1) := dc_29 (gB_c lq_cX8_putInRow q1_cX8_putInRow 16 (o := 29) rfl)
theorem dX8_putInRow_49 : decode cX8_putInRow 49 = .ok (.ireturn, 1) := dc_172 (gB_c lq_cX8_putInRow q1_cX8_putInRow 17 (o := 172) rfl)
abbrev r2_cX8_widestBand : List Nat := [172]
def a1_cX8_widestBand : List Nat := [180, 0, 21, 29, 46, 182, 0, 38, 158, 0, 11, 27, 29, 28, 100, 184, 0, 42, 60, 132, 3, 1, 167, 255, 218, 132, 2, 1, 167, 255, 200, 27]
abbrev r1_cX8_widestBand : List Nat := a1_cX8_widestBand ++ r2_cX8_widestBand
def a0_cX8_widestBand : List Nat := [3, 60, 3, 61, 28, 42, 180, 0, 15, 162, 0, 54, 28, 4, 96, 62, 29, 42, 180, 0, 15, 162, 0, 36, 42, 42, 180, 0, 21, 28, 46, 42]
abbrev r0_cX8_widestBand : List Nat := a0_cX8_widestBand ++ r1_cX8_widestBand
theorem lq_cX8_widestBand : (cX8_widestBand).data.toList.map UInt8.toNat = r0_cX8_widestBand := by decide +kernel
theorem q1_cX8_widestBand : ∀ i, (r0_cX8_widestBand)[32 + i]? = (r1_cX8_widestBand)[i]? := chn (A := a0_cX8_widestBand) (B := r1_cX8_widestBand) (n := 0) (k := 32) rfl (ch0 (R := r0_cX8_widestBand))
theorem q2_cX8_widestBand : ∀ i, (r0_cX8_widestBand)[64 + i]? = (r2_cX8_widestBand)[i]? := chn (A := a1_cX8_widestBand) (B := r2_cX8_widestBand) (n := 32) (k := 32) rfl q1_cX8_widestBand
theorem dX8_widestBand_0 : decode cX8_widestBand 0 = .ok (.iconst 0, 1) := dc_3 (gB_l lq_cX8_widestBand (p := 0) (o := 3) rfl)
theorem dX8_widestBand_1 : decode cX8_widestBand 1 = .ok (.istore_n 1, 1) := dc_60 (gB_l lq_cX8_widestBand (p := 1) (o := 60) rfl)
theorem dX8_widestBand_2 : decode cX8_widestBand 2 = .ok (.iconst 0, 1) := dc_3 (gB_l lq_cX8_widestBand (p := 2) (o := 3) rfl)
theorem dX8_widestBand_3 : decode cX8_widestBand 3 = .ok (.istore_n 2, 1) := dc_61 (gB_l lq_cX8_widestBand (p := 3) (o := 61) rfl)
theorem dX8_widestBand_4 : decode cX8_widestBand 4 = .ok (.iload_n 2, 1) := dc_28 (gB_l lq_cX8_widestBand (p := 4) (o := 28) rfl)
theorem dX8_widestBand_5 : decode cX8_widestBand 5 = .ok (.aload_n 0, 1) := dc_42 (gB_l lq_cX8_widestBand (p := 5) (o := 42) rfl)
theorem dX8_widestBand_6 : decode cX8_widestBand 6 = .ok (.getfield 15, 3) := dc_180 (gB_l lq_cX8_widestBand (p := 6) (o := 180) rfl) (gB_l lq_cX8_widestBand (p := 7) (o := 0) rfl) (gB_l lq_cX8_widestBand (p := 8) (o := 15) rfl) rfl
theorem dX8_widestBand_9 : decode cX8_widestBand 9 = .ok (.if_icmp .ge 54, 3) := dc_162 (gB_l lq_cX8_widestBand (p := 9) (o := 162) rfl) (gB_l lq_cX8_widestBand (p := 10) (o := 0) rfl) (gB_l lq_cX8_widestBand (p := 11) (o := 54) rfl) rfl
theorem dX8_widestBand_12 : decode cX8_widestBand 12 = .ok (.iload_n 2, 1) := dc_28 (gB_l lq_cX8_widestBand (p := 12) (o := 28) rfl)
theorem dX8_widestBand_13 : decode cX8_widestBand 13 = .ok (.iconst 1, 1) := dc_4 (gB_l lq_cX8_widestBand (p := 13) (o := 4) rfl)
theorem dX8_widestBand_14 : decode cX8_widestBand 14 = .ok (.iadd, 1) := dc_96 (gB_l lq_cX8_widestBand (p := 14) (o := 96) rfl)
theorem dX8_widestBand_15 : decode cX8_widestBand 15 = .ok (.istore_n 3, 1) := dc_62 (gB_l lq_cX8_widestBand (p := 15) (o := 62) rfl)
theorem dX8_widestBand_16 : decode cX8_widestBand 16 = .ok (.iload_n 3, 1) := dc_29 (gB_l lq_cX8_widestBand (p := 16) (o := 29) rfl)
theorem dX8_widestBand_17 : decode cX8_widestBand 17 = .ok (.aload_n 0, 1) := dc_42 (gB_l lq_cX8_widestBand (p := 17) (o := 42) rfl)
theorem dX8_widestBand_18 : decode cX8_widestBand 18 = .ok (.getfield 15, 3) := dc_180 (gB_l lq_cX8_widestBand (p := 18) (o := 180) rfl) (gB_l lq_cX8_widestBand (p := 19) (o := 0) rfl) (gB_l lq_cX8_widestBand (p := 20) (o := 15) rfl) rfl
theorem dX8_widestBand_21 : decode cX8_widestBand 21 = .ok (.if_icmp .ge 36, 3) := dc_162 (gB_l lq_cX8_widestBand (p := 21) (o := 162) rfl) (gB_l lq_cX8_widestBand (p := 22) (o := 0) rfl) (gB_l lq_cX8_widestBand (p := 23) (o := 36) rfl) rfl
theorem dX8_widestBand_24 : decode cX8_widestBand 24 = .ok (.aload_n 0, 1) := dc_42 (gB_l lq_cX8_widestBand (p := 24) (o := 42) rfl)
theorem dX8_widestBand_25 : decode cX8_widestBand 25 = .ok (.aload_n 0, 1) := dc_42 (gB_l lq_cX8_widestBand (p := 25) (o := 42) rfl)
theorem dX8_widestBand_26 : decode cX8_widestBand 26 = .ok (.getfield 21, 3) := dc_180 (gB_l lq_cX8_widestBand (p := 26) (o := 180) rfl) (gB_l lq_cX8_widestBand (p := 27) (o := 0) rfl) (gB_l lq_cX8_widestBand (p := 28) (o := 21) rfl) rfl
theorem dX8_widestBand_29 : decode cX8_widestBand 29 = .ok (.iload_n 2, 1) := dc_28 (gB_l lq_cX8_widestBand (p := 29) (o := 28) rfl)
theorem dX8_widestBand_30 : decode cX8_widestBand 30 = .ok (.iaload, 1) := dc_46 (gB_l lq_cX8_widestBand (p := 30) (o := 46) rfl)
theorem dX8_widestBand_31 : decode cX8_widestBand 31 = .ok (.aload_n 0, 1) := dc_42 (gB_l lq_cX8_widestBand (p := 31) (o := 42) rfl)
theorem dX8_widestBand_32 : decode cX8_widestBand 32 = .ok (.getfield 21, 3) := dc_180 (gB_c lq_cX8_widestBand q1_cX8_widestBand 0 (o := 180) rfl) (gB_c lq_cX8_widestBand q1_cX8_widestBand 1 (o := 0) rfl) (gB_c lq_cX8_widestBand q1_cX8_widestBand 2 (o := 21) rfl) rfl
theorem dX8_widestBand_35 : decode cX8_widestBand 35 = .ok (.iload_n 3, 1) := dc_29 (gB_c lq_cX8_widestBand q1_cX8_widestBand 3 (o := 29) rfl)
theorem dX8_widestBand_36 : decode cX8_widestBand 36 = .ok (.iaload, 1) := dc_46 (gB_c lq_cX8_widestBand q1_cX8_widestBand 4 (o := 46) rfl)
theorem dX8_widestBand_37 : decode cX8_widestBand 37 = .ok (.invokevirtual 38, 3) := dc_182 (gB_c lq_cX8_widestBand q1_cX8_widestBand 5 (o := 182) rfl) (gB_c lq_cX8_widestBand q1_cX8_widestBand 6 (o := 0) rfl) (gB_c lq_cX8_widestBand q1_cX8_widestBand 7 (o := 38) rfl) rfl
theorem dX8_widestBand_40 : decode cX8_widestBand 40 = .ok (.ifCond .le 11, 3) := dc_158 (gB_c lq_cX8_widestBand q1_cX8_widestBand 8 (o := 158) rfl) (gB_c lq_cX8_widestBand q1_cX8_widestBand 9 (o := 0) rfl) (gB_c lq_cX8_widestBand q1_cX8_widestBand 10 (o := 11) rfl) rfl
theorem dX8_widestBand_43 : decode cX8_widestBand 43 = .ok (.iload_n 1, 1) := dc_27 (gB_c lq_cX8_widestBand q1_cX8_widestBand 11 (o := 27) rfl)
theorem dX8_widestBand_44 : decode cX8_widestBand 44 = .ok (.iload_n 3, 1) := dc_29 (gB_c lq_cX8_widestBand q1_cX8_widestBand 12 (o := 29) rfl)
theorem dX8_widestBand_45 : decode cX8_widestBand 45 = .ok (.iload_n 2, 1) := dc_28 (gB_c lq_cX8_widestBand q1_cX8_widestBand 13 (o := 28) rfl)
theorem dX8_widestBand_46 : decode cX8_widestBand 46 = .ok (.isub, 1) := dc_100 (gB_c lq_cX8_widestBand q1_cX8_widestBand 14 (o := 100) rfl)
theorem dX8_widestBand_47 : decode cX8_widestBand 47 = .ok (.invokestatic 42, 3) := dc_184 (gB_c lq_cX8_widestBand q1_cX8_widestBand 15 (o := 184) rfl) (gB_c lq_cX8_widestBand q1_cX8_widestBand 16 (o := 0) rfl) (gB_c lq_cX8_widestBand q1_cX8_widestBand 17 (o := 42) rfl) rfl
theorem dX8_widestBand_50 : decode cX8_widestBand 50 = .ok (.istore_n 1, 1) := dc_60 (gB_c lq_cX8_widestBand q1_cX8_widestBand 18 (o := 60) rfl)
theorem dX8_widestBand_51 : decode cX8_widestBand 51 = .ok (.iinc 3 1, 3) := dc_132 (gB_c lq_cX8_widestBand q1_cX8_widestBand 19 (o := 132) rfl) (gB_c lq_cX8_widestBand q1_cX8_widestBand 20 (o := 3) rfl) (gB_c lq_cX8_widestBand q1_cX8_widestBand 21 (o := 1) rfl) rfl
theorem dX8_widestBand_54 : decode cX8_widestBand 54 = .ok (.goto (-38), 3) := dc_167 (gB_c lq_cX8_widestBand q1_cX8_widestBand 22 (o := 167) rfl) (gB_c lq_cX8_widestBand q1_cX8_widestBand 23 (o := 255) rfl) (gB_c lq_cX8_widestBand q1_cX8_widestBand 24 (o := 218) rfl) rfl
theorem dX8_widestBand_57 : decode cX8_widestBand 57 = .ok (.iinc 2 1, 3) := dc_132 (gB_c lq_cX8_widestBand q1_cX8_widestBand 25 (o := 132) rfl) (gB_c lq_cX8_widestBand q1_cX8_widestBand 26 (o := 2) rfl) (gB_c lq_cX8_widestBand q1_cX8_widestBand 27 (o := 1) rfl) rfl
theorem dX8_widestBand_60 : decode cX8_widestBand 60 = .ok (.goto (-56), 3) := dc_167 (gB_c lq_cX8_widestBand q1_cX8_widestBand 28 (o := 167) rfl) (gB_c lq_cX8_widestBand q1_cX8_widestBand 29 (o := 255) rfl) (gB_c lq_cX8_widestBand q1_cX8_widestBand 30 (o := 200) rfl) rfl
theorem dX8_widestBand_63 : decode cX8_widestBand 63 = .ok (.iload_n 1, 1) := dc_27 (gB_c lq_cX8_widestBand q1_cX8_widestBand 31 (o := 27) rfl)
theorem dX8_widestBand_64 : decode cX8_widestBand 64 = .ok (.ireturn, 1) := dc_172 (gB_c lq_cX8_widestBand q2_cX8_widestBand 0 (o := 172) rfl)
abbrev r1_cX8_worstStep : List Nat := [0, 9, 21, 5, 62, 21, 4, 61, 132, 4, 1, 167, 255, 223, 28, 172]
def a0_cX8_worstStep : List Nat := [2, 61, 2, 62, 27, 184, 0, 47, 54, 4, 21, 4, 42, 180, 0, 15, 162, 0, 30, 42, 27, 21, 4, 184, 0, 51, 54, 5, 21, 5, 29, 164]
abbrev r0_cX8_worstStep : List Nat := a0_cX8_worstStep ++ r1_cX8_worstStep
theorem lq_cX8_worstStep : (cX8_worstStep).data.toList.map UInt8.toNat = r0_cX8_worstStep := by decide +kernel
theorem q1_cX8_worstStep : ∀ i, (r0_cX8_worstStep)[32 + i]? = (r1_cX8_worstStep)[i]? := chn (A := a0_cX8_worstStep) (B := r1_cX8_worstStep) (n := 0) (k := 32) rfl (ch0 (R := r0_cX8_worstStep))
theorem dX8_worstStep_0 : decode cX8_worstStep 0 = .ok (.iconst (-1), 1) := dc_2 (gB_l lq_cX8_worstStep (p := 0) (o := 2) rfl)
theorem dX8_worstStep_1 : decode cX8_worstStep 1 = .ok (.istore_n 2, 1) := dc_61 (gB_l lq_cX8_worstStep (p := 1) (o := 61) rfl)
theorem dX8_worstStep_2 : decode cX8_worstStep 2 = .ok (.iconst (-1), 1) := dc_2 (gB_l lq_cX8_worstStep (p := 2) (o := 2) rfl)
theorem dX8_worstStep_3 : decode cX8_worstStep 3 = .ok (.istore_n 3, 1) := dc_62 (gB_l lq_cX8_worstStep (p := 3) (o := 62) rfl)
theorem dX8_worstStep_4 : decode cX8_worstStep 4 = .ok (.iload_n 1, 1) := dc_27 (gB_l lq_cX8_worstStep (p := 4) (o := 27) rfl)
theorem dX8_worstStep_5 : decode cX8_worstStep 5 = .ok (.invokestatic 47, 3) := dc_184 (gB_l lq_cX8_worstStep (p := 5) (o := 184) rfl) (gB_l lq_cX8_worstStep (p := 6) (o := 0) rfl) (gB_l lq_cX8_worstStep (p := 7) (o := 47) rfl) rfl
theorem dX8_worstStep_8 : decode cX8_worstStep 8 = .ok (.istore 4, 2) := dc_54 (gB_l lq_cX8_worstStep (p := 8) (o := 54) rfl) (gB_l lq_cX8_worstStep (p := 9) (o := 4) rfl)
theorem dX8_worstStep_10 : decode cX8_worstStep 10 = .ok (.iload 4, 2) := dc_21 (gB_l lq_cX8_worstStep (p := 10) (o := 21) rfl) (gB_l lq_cX8_worstStep (p := 11) (o := 4) rfl)
theorem dX8_worstStep_12 : decode cX8_worstStep 12 = .ok (.aload_n 0, 1) := dc_42 (gB_l lq_cX8_worstStep (p := 12) (o := 42) rfl)
theorem dX8_worstStep_13 : decode cX8_worstStep 13 = .ok (.getfield 15, 3) := dc_180 (gB_l lq_cX8_worstStep (p := 13) (o := 180) rfl) (gB_l lq_cX8_worstStep (p := 14) (o := 0) rfl) (gB_l lq_cX8_worstStep (p := 15) (o := 15) rfl) rfl
theorem dX8_worstStep_16 : decode cX8_worstStep 16 = .ok (.if_icmp .ge 30, 3) := dc_162 (gB_l lq_cX8_worstStep (p := 16) (o := 162) rfl) (gB_l lq_cX8_worstStep (p := 17) (o := 0) rfl) (gB_l lq_cX8_worstStep (p := 18) (o := 30) rfl) rfl
theorem dX8_worstStep_19 : decode cX8_worstStep 19 = .ok (.aload_n 0, 1) := dc_42 (gB_l lq_cX8_worstStep (p := 19) (o := 42) rfl)
theorem dX8_worstStep_20 : decode cX8_worstStep 20 = .ok (.iload_n 1, 1) := dc_27 (gB_l lq_cX8_worstStep (p := 20) (o := 27) rfl)
theorem dX8_worstStep_21 : decode cX8_worstStep 21 = .ok (.iload 4, 2) := dc_21 (gB_l lq_cX8_worstStep (p := 21) (o := 21) rfl) (gB_l lq_cX8_worstStep (p := 22) (o := 4) rfl)
theorem dX8_worstStep_23 : decode cX8_worstStep 23 = .ok (.invokestatic 51, 3) := dc_184 (gB_l lq_cX8_worstStep (p := 23) (o := 184) rfl) (gB_l lq_cX8_worstStep (p := 24) (o := 0) rfl) (gB_l lq_cX8_worstStep (p := 25) (o := 51) rfl) rfl
theorem dX8_worstStep_26 : decode cX8_worstStep 26 = .ok (.istore 5, 2) := dc_54 (gB_l lq_cX8_worstStep (p := 26) (o := 54) rfl) (gB_l lq_cX8_worstStep (p := 27) (o := 5) rfl)
theorem dX8_worstStep_28 : decode cX8_worstStep 28 = .ok (.iload 5, 2) := dc_21 (gB_l lq_cX8_worstStep (p := 28) (o := 21) rfl) (gB_l lq_cX8_worstStep (p := 29) (o := 5) rfl)
theorem dX8_worstStep_30 : decode cX8_worstStep 30 = .ok (.iload_n 3, 1) := dc_29 (gB_l lq_cX8_worstStep (p := 30) (o := 29) rfl)
theorem dX8_worstStep_31 : decode cX8_worstStep 31 = .ok (.if_icmp .le 9, 3) := dc_164 (gB_l lq_cX8_worstStep (p := 31) (o := 164) rfl) (gB_c lq_cX8_worstStep q1_cX8_worstStep 0 (o := 0) rfl) (gB_c lq_cX8_worstStep q1_cX8_worstStep 1 (o := 9) rfl) rfl
theorem dX8_worstStep_34 : decode cX8_worstStep 34 = .ok (.iload 5, 2) := dc_21 (gB_c lq_cX8_worstStep q1_cX8_worstStep 2 (o := 21) rfl) (gB_c lq_cX8_worstStep q1_cX8_worstStep 3 (o := 5) rfl)
theorem dX8_worstStep_36 : decode cX8_worstStep 36 = .ok (.istore_n 3, 1) := dc_62 (gB_c lq_cX8_worstStep q1_cX8_worstStep 4 (o := 62) rfl)
theorem dX8_worstStep_37 : decode cX8_worstStep 37 = .ok (.iload 4, 2) := dc_21 (gB_c lq_cX8_worstStep q1_cX8_worstStep 5 (o := 21) rfl) (gB_c lq_cX8_worstStep q1_cX8_worstStep 6 (o := 4) rfl)
theorem dX8_worstStep_39 : decode cX8_worstStep 39 = .ok (.istore_n 2, 1) := dc_61 (gB_c lq_cX8_worstStep q1_cX8_worstStep 7 (o := 61) rfl)
theorem dX8_worstStep_40 : decode cX8_worstStep 40 = .ok (.iinc 4 1, 3) := dc_132 (gB_c lq_cX8_worstStep q1_cX8_worstStep 8 (o := 132) rfl) (gB_c lq_cX8_worstStep q1_cX8_worstStep 9 (o := 4) rfl) (gB_c lq_cX8_worstStep q1_cX8_worstStep 10 (o := 1) rfl) rfl
theorem dX8_worstStep_43 : decode cX8_worstStep 43 = .ok (.goto (-33), 3) := dc_167 (gB_c lq_cX8_worstStep q1_cX8_worstStep 11 (o := 167) rfl) (gB_c lq_cX8_worstStep q1_cX8_worstStep 12 (o := 255) rfl) (gB_c lq_cX8_worstStep q1_cX8_worstStep 13 (o := 223) rfl) rfl
theorem dX8_worstStep_46 : decode cX8_worstStep 46 = .ok (.iload_n 2, 1) := dc_28 (gB_c lq_cX8_worstStep q1_cX8_worstStep 14 (o := 28) rfl)
theorem dX8_worstStep_47 : decode cX8_worstStep 47 = .ok (.ireturn, 1) := dc_172 (gB_c lq_cX8_worstStep q1_cX8_worstStep 15 (o := 172) rfl)
abbrev r3_cX9_countRows : List Nat := [5, 255, 167, 255, 178, 177]
def a2_cX9_countRows : List Nat := [6, 42, 180, 0, 24, 21, 5, 4, 21, 7, 120, 128, 46, 96, 54, 6, 132, 7, 1, 167, 255, 204, 42, 180, 0, 24, 21, 5, 21, 6, 79, 132]
abbrev r2_cX9_countRows : List Nat := a2_cX9_countRows ++ r3_cX9_countRows
def a1_cX9_countRows : List Nat := [7, 43, 180, 0, 56, 162, 0, 49, 21, 5, 21, 7, 122, 4, 126, 154, 0, 33, 42, 28, 21, 5, 21, 7, 29, 182, 0, 113, 153, 0, 20, 21]
abbrev r1_cX9_countRows : List Nat := a1_cX9_countRows ++ r2_cX9_countRows
def a0_cX9_countRows : List Nat := [43, 182, 0, 77, 54, 4, 42, 180, 0, 24, 21, 4, 4, 79, 21, 4, 4, 100, 54, 5, 21, 5, 155, 0, 79, 3, 54, 6, 3, 54, 7, 21]
abbrev r0_cX9_countRows : List Nat := a0_cX9_countRows ++ r1_cX9_countRows
theorem lq_cX9_countRows : (cX9_countRows).data.toList.map UInt8.toNat = r0_cX9_countRows := by decide +kernel
theorem q1_cX9_countRows : ∀ i, (r0_cX9_countRows)[32 + i]? = (r1_cX9_countRows)[i]? := chn (A := a0_cX9_countRows) (B := r1_cX9_countRows) (n := 0) (k := 32) rfl (ch0 (R := r0_cX9_countRows))
theorem q2_cX9_countRows : ∀ i, (r0_cX9_countRows)[64 + i]? = (r2_cX9_countRows)[i]? := chn (A := a1_cX9_countRows) (B := r2_cX9_countRows) (n := 32) (k := 32) rfl q1_cX9_countRows
theorem q3_cX9_countRows : ∀ i, (r0_cX9_countRows)[96 + i]? = (r3_cX9_countRows)[i]? := chn (A := a2_cX9_countRows) (B := r3_cX9_countRows) (n := 64) (k := 32) rfl q2_cX9_countRows
theorem dX9_countRows_0 : decode cX9_countRows 0 = .ok (.aload_n 1, 1) := dc_43 (gB_l lq_cX9_countRows (p := 0) (o := 43) rfl)
theorem dX9_countRows_1 : decode cX9_countRows 1 = .ok (.invokevirtual 77, 3) := dc_182 (gB_l lq_cX9_countRows (p := 1) (o := 182) rfl) (gB_l lq_cX9_countRows (p := 2) (o := 0) rfl) (gB_l lq_cX9_countRows (p := 3) (o := 77) rfl) rfl
theorem dX9_countRows_4 : decode cX9_countRows 4 = .ok (.istore 4, 2) := dc_54 (gB_l lq_cX9_countRows (p := 4) (o := 54) rfl) (gB_l lq_cX9_countRows (p := 5) (o := 4) rfl)
theorem dX9_countRows_6 : decode cX9_countRows 6 = .ok (.aload_n 0, 1) := dc_42 (gB_l lq_cX9_countRows (p := 6) (o := 42) rfl)
theorem dX9_countRows_7 : decode cX9_countRows 7 = .ok (.getfield 24, 3) := dc_180 (gB_l lq_cX9_countRows (p := 7) (o := 180) rfl) (gB_l lq_cX9_countRows (p := 8) (o := 0) rfl) (gB_l lq_cX9_countRows (p := 9) (o := 24) rfl) rfl
theorem dX9_countRows_10 : decode cX9_countRows 10 = .ok (.iload 4, 2) := dc_21 (gB_l lq_cX9_countRows (p := 10) (o := 21) rfl) (gB_l lq_cX9_countRows (p := 11) (o := 4) rfl)
theorem dX9_countRows_12 : decode cX9_countRows 12 = .ok (.iconst 1, 1) := dc_4 (gB_l lq_cX9_countRows (p := 12) (o := 4) rfl)
theorem dX9_countRows_13 : decode cX9_countRows 13 = .ok (.iastore, 1) := dc_79 (gB_l lq_cX9_countRows (p := 13) (o := 79) rfl)
theorem dX9_countRows_14 : decode cX9_countRows 14 = .ok (.iload 4, 2) := dc_21 (gB_l lq_cX9_countRows (p := 14) (o := 21) rfl) (gB_l lq_cX9_countRows (p := 15) (o := 4) rfl)
theorem dX9_countRows_16 : decode cX9_countRows 16 = .ok (.iconst 1, 1) := dc_4 (gB_l lq_cX9_countRows (p := 16) (o := 4) rfl)
theorem dX9_countRows_17 : decode cX9_countRows 17 = .ok (.isub, 1) := dc_100 (gB_l lq_cX9_countRows (p := 17) (o := 100) rfl)
theorem dX9_countRows_18 : decode cX9_countRows 18 = .ok (.istore 5, 2) := dc_54 (gB_l lq_cX9_countRows (p := 18) (o := 54) rfl) (gB_l lq_cX9_countRows (p := 19) (o := 5) rfl)
theorem dX9_countRows_20 : decode cX9_countRows 20 = .ok (.iload 5, 2) := dc_21 (gB_l lq_cX9_countRows (p := 20) (o := 21) rfl) (gB_l lq_cX9_countRows (p := 21) (o := 5) rfl)
theorem dX9_countRows_22 : decode cX9_countRows 22 = .ok (.ifCond .lt 79, 3) := dc_155 (gB_l lq_cX9_countRows (p := 22) (o := 155) rfl) (gB_l lq_cX9_countRows (p := 23) (o := 0) rfl) (gB_l lq_cX9_countRows (p := 24) (o := 79) rfl) rfl
theorem dX9_countRows_25 : decode cX9_countRows 25 = .ok (.iconst 0, 1) := dc_3 (gB_l lq_cX9_countRows (p := 25) (o := 3) rfl)
theorem dX9_countRows_26 : decode cX9_countRows 26 = .ok (.istore 6, 2) := dc_54 (gB_l lq_cX9_countRows (p := 26) (o := 54) rfl) (gB_l lq_cX9_countRows (p := 27) (o := 6) rfl)
theorem dX9_countRows_28 : decode cX9_countRows 28 = .ok (.iconst 0, 1) := dc_3 (gB_l lq_cX9_countRows (p := 28) (o := 3) rfl)
theorem dX9_countRows_29 : decode cX9_countRows 29 = .ok (.istore 7, 2) := dc_54 (gB_l lq_cX9_countRows (p := 29) (o := 54) rfl) (gB_l lq_cX9_countRows (p := 30) (o := 7) rfl)
theorem dX9_countRows_31 : decode cX9_countRows 31 = .ok (.iload 7, 2) := dc_21 (gB_l lq_cX9_countRows (p := 31) (o := 21) rfl) (gB_c lq_cX9_countRows q1_cX9_countRows 0 (o := 7) rfl)
theorem dX9_countRows_33 : decode cX9_countRows 33 = .ok (.aload_n 1, 1) := dc_43 (gB_c lq_cX9_countRows q1_cX9_countRows 1 (o := 43) rfl)
theorem dX9_countRows_34 : decode cX9_countRows 34 = .ok (.getfield 56, 3) := dc_180 (gB_c lq_cX9_countRows q1_cX9_countRows 2 (o := 180) rfl) (gB_c lq_cX9_countRows q1_cX9_countRows 3 (o := 0) rfl) (gB_c lq_cX9_countRows q1_cX9_countRows 4 (o := 56) rfl) rfl
theorem dX9_countRows_37 : decode cX9_countRows 37 = .ok (.if_icmp .ge 49, 3) := dc_162 (gB_c lq_cX9_countRows q1_cX9_countRows 5 (o := 162) rfl) (gB_c lq_cX9_countRows q1_cX9_countRows 6 (o := 0) rfl) (gB_c lq_cX9_countRows q1_cX9_countRows 7 (o := 49) rfl) rfl
theorem dX9_countRows_40 : decode cX9_countRows 40 = .ok (.iload 5, 2) := dc_21 (gB_c lq_cX9_countRows q1_cX9_countRows 8 (o := 21) rfl) (gB_c lq_cX9_countRows q1_cX9_countRows 9 (o := 5) rfl)
theorem dX9_countRows_42 : decode cX9_countRows 42 = .ok (.iload 7, 2) := dc_21 (gB_c lq_cX9_countRows q1_cX9_countRows 10 (o := 21) rfl) (gB_c lq_cX9_countRows q1_cX9_countRows 11 (o := 7) rfl)
theorem dX9_countRows_44 : decode cX9_countRows 44 = .ok (.ishr, 1) := dc_122 (gB_c lq_cX9_countRows q1_cX9_countRows 12 (o := 122) rfl)
theorem dX9_countRows_45 : decode cX9_countRows 45 = .ok (.iconst 1, 1) := dc_4 (gB_c lq_cX9_countRows q1_cX9_countRows 13 (o := 4) rfl)
theorem dX9_countRows_46 : decode cX9_countRows 46 = .ok (.iand, 1) := dc_126 (gB_c lq_cX9_countRows q1_cX9_countRows 14 (o := 126) rfl)
theorem dX9_countRows_47 : decode cX9_countRows 47 = .ok (.ifCond .ne 33, 3) := dc_154 (gB_c lq_cX9_countRows q1_cX9_countRows 15 (o := 154) rfl) (gB_c lq_cX9_countRows q1_cX9_countRows 16 (o := 0) rfl) (gB_c lq_cX9_countRows q1_cX9_countRows 17 (o := 33) rfl) rfl
theorem dX9_countRows_50 : decode cX9_countRows 50 = .ok (.aload_n 0, 1) := dc_42 (gB_c lq_cX9_countRows q1_cX9_countRows 18 (o := 42) rfl)
theorem dX9_countRows_51 : decode cX9_countRows 51 = .ok (.iload_n 2, 1) := dc_28 (gB_c lq_cX9_countRows q1_cX9_countRows 19 (o := 28) rfl)
theorem dX9_countRows_52 : decode cX9_countRows 52 = .ok (.iload 5, 2) := dc_21 (gB_c lq_cX9_countRows q1_cX9_countRows 20 (o := 21) rfl) (gB_c lq_cX9_countRows q1_cX9_countRows 21 (o := 5) rfl)
theorem dX9_countRows_54 : decode cX9_countRows 54 = .ok (.iload 7, 2) := dc_21 (gB_c lq_cX9_countRows q1_cX9_countRows 22 (o := 21) rfl) (gB_c lq_cX9_countRows q1_cX9_countRows 23 (o := 7) rfl)
theorem dX9_countRows_56 : decode cX9_countRows 56 = .ok (.iload_n 3, 1) := dc_29 (gB_c lq_cX9_countRows q1_cX9_countRows 24 (o := 29) rfl)
theorem dX9_countRows_57 : decode cX9_countRows 57 = .ok (.invokevirtual 113, 3) := dc_182 (gB_c lq_cX9_countRows q1_cX9_countRows 25 (o := 182) rfl) (gB_c lq_cX9_countRows q1_cX9_countRows 26 (o := 0) rfl) (gB_c lq_cX9_countRows q1_cX9_countRows 27 (o := 113) rfl) rfl
theorem dX9_countRows_60 : decode cX9_countRows 60 = .ok (.ifCond .eq 20, 3) := dc_153 (gB_c lq_cX9_countRows q1_cX9_countRows 28 (o := 153) rfl) (gB_c lq_cX9_countRows q1_cX9_countRows 29 (o := 0) rfl) (gB_c lq_cX9_countRows q1_cX9_countRows 30 (o := 20) rfl) rfl
theorem dX9_countRows_63 : decode cX9_countRows 63 = .ok (.iload 6, 2) := dc_21 (gB_c lq_cX9_countRows q1_cX9_countRows 31 (o := 21) rfl) (gB_c lq_cX9_countRows q2_cX9_countRows 0 (o := 6) rfl)
theorem dX9_countRows_65 : decode cX9_countRows 65 = .ok (.aload_n 0, 1) := dc_42 (gB_c lq_cX9_countRows q2_cX9_countRows 1 (o := 42) rfl)
theorem dX9_countRows_66 : decode cX9_countRows 66 = .ok (.getfield 24, 3) := dc_180 (gB_c lq_cX9_countRows q2_cX9_countRows 2 (o := 180) rfl) (gB_c lq_cX9_countRows q2_cX9_countRows 3 (o := 0) rfl) (gB_c lq_cX9_countRows q2_cX9_countRows 4 (o := 24) rfl) rfl
theorem dX9_countRows_69 : decode cX9_countRows 69 = .ok (.iload 5, 2) := dc_21 (gB_c lq_cX9_countRows q2_cX9_countRows 5 (o := 21) rfl) (gB_c lq_cX9_countRows q2_cX9_countRows 6 (o := 5) rfl)
theorem dX9_countRows_71 : decode cX9_countRows 71 = .ok (.iconst 1, 1) := dc_4 (gB_c lq_cX9_countRows q2_cX9_countRows 7 (o := 4) rfl)
theorem dX9_countRows_72 : decode cX9_countRows 72 = .ok (.iload 7, 2) := dc_21 (gB_c lq_cX9_countRows q2_cX9_countRows 8 (o := 21) rfl) (gB_c lq_cX9_countRows q2_cX9_countRows 9 (o := 7) rfl)
theorem dX9_countRows_74 : decode cX9_countRows 74 = .ok (.ishl, 1) := dc_120 (gB_c lq_cX9_countRows q2_cX9_countRows 10 (o := 120) rfl)
theorem dX9_countRows_75 : decode cX9_countRows 75 = .ok (.ior, 1) := dc_128 (gB_c lq_cX9_countRows q2_cX9_countRows 11 (o := 128) rfl)
theorem dX9_countRows_76 : decode cX9_countRows 76 = .ok (.iaload, 1) := dc_46 (gB_c lq_cX9_countRows q2_cX9_countRows 12 (o := 46) rfl)
theorem dX9_countRows_77 : decode cX9_countRows 77 = .ok (.iadd, 1) := dc_96 (gB_c lq_cX9_countRows q2_cX9_countRows 13 (o := 96) rfl)
theorem dX9_countRows_78 : decode cX9_countRows 78 = .ok (.istore 6, 2) := dc_54 (gB_c lq_cX9_countRows q2_cX9_countRows 14 (o := 54) rfl) (gB_c lq_cX9_countRows q2_cX9_countRows 15 (o := 6) rfl)
theorem dX9_countRows_80 : decode cX9_countRows 80 = .ok (.iinc 7 1, 3) := dc_132 (gB_c lq_cX9_countRows q2_cX9_countRows 16 (o := 132) rfl) (gB_c lq_cX9_countRows q2_cX9_countRows 17 (o := 7) rfl) (gB_c lq_cX9_countRows q2_cX9_countRows 18 (o := 1) rfl) rfl
theorem dX9_countRows_83 : decode cX9_countRows 83 = .ok (.goto (-52), 3) := dc_167 (gB_c lq_cX9_countRows q2_cX9_countRows 19 (o := 167) rfl) (gB_c lq_cX9_countRows q2_cX9_countRows 20 (o := 255) rfl) (gB_c lq_cX9_countRows q2_cX9_countRows 21 (o := 204) rfl) rfl
theorem dX9_countRows_86 : decode cX9_countRows 86 = .ok (.aload_n 0, 1) := dc_42 (gB_c lq_cX9_countRows q2_cX9_countRows 22 (o := 42) rfl)
theorem dX9_countRows_87 : decode cX9_countRows 87 = .ok (.getfield 24, 3) := dc_180 (gB_c lq_cX9_countRows q2_cX9_countRows 23 (o := 180) rfl) (gB_c lq_cX9_countRows q2_cX9_countRows 24 (o := 0) rfl) (gB_c lq_cX9_countRows q2_cX9_countRows 25 (o := 24) rfl) rfl
theorem dX9_countRows_90 : decode cX9_countRows 90 = .ok (.iload 5, 2) := dc_21 (gB_c lq_cX9_countRows q2_cX9_countRows 26 (o := 21) rfl) (gB_c lq_cX9_countRows q2_cX9_countRows 27 (o := 5) rfl)
theorem dX9_countRows_92 : decode cX9_countRows 92 = .ok (.iload 6, 2) := dc_21 (gB_c lq_cX9_countRows q2_cX9_countRows 28 (o := 21) rfl) (gB_c lq_cX9_countRows q2_cX9_countRows 29 (o := 6) rfl)
theorem dX9_countRows_94 : decode cX9_countRows 94 = .ok (.iastore, 1) := dc_79 (gB_c lq_cX9_countRows q2_cX9_countRows 30 (o := 79) rfl)
theorem dX9_countRows_95 : decode cX9_countRows 95 = .ok (.iinc 5 (-1), 3) := dc_132 (gB_c lq_cX9_countRows q2_cX9_countRows 31 (o := 132) rfl) (gB_c lq_cX9_countRows q3_cX9_countRows 0 (o := 5) rfl) (gB_c lq_cX9_countRows q3_cX9_countRows 1 (o := 255) rfl) rfl
theorem dX9_countRows_98 : decode cX9_countRows 98 = .ok (.goto (-78), 3) := dc_167 (gB_c lq_cX9_countRows q3_cX9_countRows 2 (o := 167) rfl) (gB_c lq_cX9_countRows q3_cX9_countRows 3 (o := 255) rfl) (gB_c lq_cX9_countRows q3_cX9_countRows 4 (o := 178) rfl) rfl
theorem dX9_countRows_101 : decode cX9_countRows 101 = .ok (.return_, 1) := dc_177 (gB_c lq_cX9_countRows q3_cX9_countRows 5 (o := 177) rfl)
abbrev r4_cX9_fillAround : List Nat := [21, 5, 96, 21, 6, 79, 132, 5, 1, 167, 255, 175, 132, 2, 1, 167, 255, 143, 177]
def a3_cX9_fillAround : List Nat := [6, 42, 180, 0, 18, 21, 4, 29, 96, 46, 128, 4, 21, 5, 120, 4, 29, 120, 128, 2, 130, 126, 54, 6, 42, 180, 0, 18, 28, 16, 9, 104]
abbrev r3_cX9_fillAround : List Nat := a3_cX9_fillAround ++ r4_cX9_fillAround
def a2_cX9_fillAround : List Nat := [78, 28, 21, 5, 122, 4, 126, 154, 0, 63, 42, 180, 0, 18, 21, 4, 21, 5, 96, 46, 54, 6, 21, 6, 29, 122, 4, 126, 153, 0, 28, 21]
abbrev r2_cX9_fillAround : List Nat := a2_cX9_fillAround ++ r3_cX9_fillAround
def a1_cX9_fillAround : List Nat := [182, 0, 77, 163, 0, 111, 28, 184, 0, 61, 62, 28, 28, 4, 100, 126, 16, 9, 104, 54, 4, 3, 54, 5, 21, 5, 43, 180, 0, 56, 162, 0]
abbrev r1_cX9_fillAround : List Nat := a1_cX9_fillAround ++ r2_cX9_fillAround
def a0_cX9_fillAround : List Nat := [3, 61, 28, 43, 180, 0, 56, 162, 0, 21, 42, 180, 0, 18, 28, 43, 180, 0, 101, 28, 46, 79, 132, 2, 1, 167, 255, 233, 4, 61, 28, 43]
abbrev r0_cX9_fillAround : List Nat := a0_cX9_fillAround ++ r1_cX9_fillAround
theorem lq_cX9_fillAround : (cX9_fillAround).data.toList.map UInt8.toNat = r0_cX9_fillAround := by decide +kernel
theorem q1_cX9_fillAround : ∀ i, (r0_cX9_fillAround)[32 + i]? = (r1_cX9_fillAround)[i]? := chn (A := a0_cX9_fillAround) (B := r1_cX9_fillAround) (n := 0) (k := 32) rfl (ch0 (R := r0_cX9_fillAround))
theorem q2_cX9_fillAround : ∀ i, (r0_cX9_fillAround)[64 + i]? = (r2_cX9_fillAround)[i]? := chn (A := a1_cX9_fillAround) (B := r2_cX9_fillAround) (n := 32) (k := 32) rfl q1_cX9_fillAround
theorem q3_cX9_fillAround : ∀ i, (r0_cX9_fillAround)[96 + i]? = (r3_cX9_fillAround)[i]? := chn (A := a2_cX9_fillAround) (B := r3_cX9_fillAround) (n := 64) (k := 32) rfl q2_cX9_fillAround
theorem q4_cX9_fillAround : ∀ i, (r0_cX9_fillAround)[128 + i]? = (r4_cX9_fillAround)[i]? := chn (A := a3_cX9_fillAround) (B := r4_cX9_fillAround) (n := 96) (k := 32) rfl q3_cX9_fillAround
theorem dX9_fillAround_0 : decode cX9_fillAround 0 = .ok (.iconst 0, 1) := dc_3 (gB_l lq_cX9_fillAround (p := 0) (o := 3) rfl)
theorem dX9_fillAround_1 : decode cX9_fillAround 1 = .ok (.istore_n 2, 1) := dc_61 (gB_l lq_cX9_fillAround (p := 1) (o := 61) rfl)
theorem dX9_fillAround_2 : decode cX9_fillAround 2 = .ok (.iload_n 2, 1) := dc_28 (gB_l lq_cX9_fillAround (p := 2) (o := 28) rfl)
theorem dX9_fillAround_3 : decode cX9_fillAround 3 = .ok (.aload_n 1, 1) := dc_43 (gB_l lq_cX9_fillAround (p := 3) (o := 43) rfl)
theorem dX9_fillAround_4 : decode cX9_fillAround 4 = .ok (.getfield 56, 3) := dc_180 (gB_l lq_cX9_fillAround (p := 4) (o := 180) rfl) (gB_l lq_cX9_fillAround (p := 5) (o := 0) rfl) (gB_l lq_cX9_fillAround (p := 6) (o := 56) rfl) rfl
theorem dX9_fillAround_7 : decode cX9_fillAround 7 = .ok (.if_icmp .ge 21, 3) := dc_162 (gB_l lq_cX9_fillAround (p := 7) (o := 162) rfl) (gB_l lq_cX9_fillAround (p := 8) (o := 0) rfl) (gB_l lq_cX9_fillAround (p := 9) (o := 21) rfl) rfl
theorem dX9_fillAround_10 : decode cX9_fillAround 10 = .ok (.aload_n 0, 1) := dc_42 (gB_l lq_cX9_fillAround (p := 10) (o := 42) rfl)
theorem dX9_fillAround_11 : decode cX9_fillAround 11 = .ok (.getfield 18, 3) := dc_180 (gB_l lq_cX9_fillAround (p := 11) (o := 180) rfl) (gB_l lq_cX9_fillAround (p := 12) (o := 0) rfl) (gB_l lq_cX9_fillAround (p := 13) (o := 18) rfl) rfl
theorem dX9_fillAround_14 : decode cX9_fillAround 14 = .ok (.iload_n 2, 1) := dc_28 (gB_l lq_cX9_fillAround (p := 14) (o := 28) rfl)
theorem dX9_fillAround_15 : decode cX9_fillAround 15 = .ok (.aload_n 1, 1) := dc_43 (gB_l lq_cX9_fillAround (p := 15) (o := 43) rfl)
theorem dX9_fillAround_16 : decode cX9_fillAround 16 = .ok (.getfield 101, 3) := dc_180 (gB_l lq_cX9_fillAround (p := 16) (o := 180) rfl) (gB_l lq_cX9_fillAround (p := 17) (o := 0) rfl) (gB_l lq_cX9_fillAround (p := 18) (o := 101) rfl) rfl
theorem dX9_fillAround_19 : decode cX9_fillAround 19 = .ok (.iload_n 2, 1) := dc_28 (gB_l lq_cX9_fillAround (p := 19) (o := 28) rfl)
theorem dX9_fillAround_20 : decode cX9_fillAround 20 = .ok (.iaload, 1) := dc_46 (gB_l lq_cX9_fillAround (p := 20) (o := 46) rfl)
theorem dX9_fillAround_21 : decode cX9_fillAround 21 = .ok (.iastore, 1) := dc_79 (gB_l lq_cX9_fillAround (p := 21) (o := 79) rfl)
theorem dX9_fillAround_22 : decode cX9_fillAround 22 = .ok (.iinc 2 1, 3) := dc_132 (gB_l lq_cX9_fillAround (p := 22) (o := 132) rfl) (gB_l lq_cX9_fillAround (p := 23) (o := 2) rfl) (gB_l lq_cX9_fillAround (p := 24) (o := 1) rfl) rfl
theorem dX9_fillAround_25 : decode cX9_fillAround 25 = .ok (.goto (-23), 3) := dc_167 (gB_l lq_cX9_fillAround (p := 25) (o := 167) rfl) (gB_l lq_cX9_fillAround (p := 26) (o := 255) rfl) (gB_l lq_cX9_fillAround (p := 27) (o := 233) rfl) rfl
theorem dX9_fillAround_28 : decode cX9_fillAround 28 = .ok (.iconst 1, 1) := dc_4 (gB_l lq_cX9_fillAround (p := 28) (o := 4) rfl)
theorem dX9_fillAround_29 : decode cX9_fillAround 29 = .ok (.istore_n 2, 1) := dc_61 (gB_l lq_cX9_fillAround (p := 29) (o := 61) rfl)
theorem dX9_fillAround_30 : decode cX9_fillAround 30 = .ok (.iload_n 2, 1) := dc_28 (gB_l lq_cX9_fillAround (p := 30) (o := 28) rfl)
theorem dX9_fillAround_31 : decode cX9_fillAround 31 = .ok (.aload_n 1, 1) := dc_43 (gB_l lq_cX9_fillAround (p := 31) (o := 43) rfl)
theorem dX9_fillAround_32 : decode cX9_fillAround 32 = .ok (.invokevirtual 77, 3) := dc_182 (gB_c lq_cX9_fillAround q1_cX9_fillAround 0 (o := 182) rfl) (gB_c lq_cX9_fillAround q1_cX9_fillAround 1 (o := 0) rfl) (gB_c lq_cX9_fillAround q1_cX9_fillAround 2 (o := 77) rfl) rfl
theorem dX9_fillAround_35 : decode cX9_fillAround 35 = .ok (.if_icmp .gt 111, 3) := dc_163 (gB_c lq_cX9_fillAround q1_cX9_fillAround 3 (o := 163) rfl) (gB_c lq_cX9_fillAround q1_cX9_fillAround 4 (o := 0) rfl) (gB_c lq_cX9_fillAround q1_cX9_fillAround 5 (o := 111) rfl) rfl
theorem dX9_fillAround_38 : decode cX9_fillAround 38 = .ok (.iload_n 2, 1) := dc_28 (gB_c lq_cX9_fillAround q1_cX9_fillAround 6 (o := 28) rfl)
theorem dX9_fillAround_39 : decode cX9_fillAround 39 = .ok (.invokestatic 61, 3) := dc_184 (gB_c lq_cX9_fillAround q1_cX9_fillAround 7 (o := 184) rfl) (gB_c lq_cX9_fillAround q1_cX9_fillAround 8 (o := 0) rfl) (gB_c lq_cX9_fillAround q1_cX9_fillAround 9 (o := 61) rfl) rfl
theorem dX9_fillAround_42 : decode cX9_fillAround 42 = .ok (.istore_n 3, 1) := dc_62 (gB_c lq_cX9_fillAround q1_cX9_fillAround 10 (o := 62) rfl)
theorem dX9_fillAround_43 : decode cX9_fillAround 43 = .ok (.iload_n 2, 1) := dc_28 (gB_c lq_cX9_fillAround q1_cX9_fillAround 11 (o := 28) rfl)
theorem dX9_fillAround_44 : decode cX9_fillAround 44 = .ok (.iload_n 2, 1) := dc_28 (gB_c lq_cX9_fillAround q1_cX9_fillAround 12 (o := 28) rfl)
theorem dX9_fillAround_45 : decode cX9_fillAround 45 = .ok (.iconst 1, 1) := dc_4 (gB_c lq_cX9_fillAround q1_cX9_fillAround 13 (o := 4) rfl)
theorem dX9_fillAround_46 : decode cX9_fillAround 46 = .ok (.isub, 1) := dc_100 (gB_c lq_cX9_fillAround q1_cX9_fillAround 14 (o := 100) rfl)
theorem dX9_fillAround_47 : decode cX9_fillAround 47 = .ok (.iand, 1) := dc_126 (gB_c lq_cX9_fillAround q1_cX9_fillAround 15 (o := 126) rfl)
theorem dX9_fillAround_48 : decode cX9_fillAround 48 = .ok (.bipush 9, 2) := dc_16 (gB_c lq_cX9_fillAround q1_cX9_fillAround 16 (o := 16) rfl) (gB_c lq_cX9_fillAround q1_cX9_fillAround 17 (o := 9) rfl) rfl
theorem dX9_fillAround_50 : decode cX9_fillAround 50 = .ok (.imul, 1) := dc_104 (gB_c lq_cX9_fillAround q1_cX9_fillAround 18 (o := 104) rfl)
theorem dX9_fillAround_51 : decode cX9_fillAround 51 = .ok (.istore 4, 2) := dc_54 (gB_c lq_cX9_fillAround q1_cX9_fillAround 19 (o := 54) rfl) (gB_c lq_cX9_fillAround q1_cX9_fillAround 20 (o := 4) rfl)
theorem dX9_fillAround_53 : decode cX9_fillAround 53 = .ok (.iconst 0, 1) := dc_3 (gB_c lq_cX9_fillAround q1_cX9_fillAround 21 (o := 3) rfl)
theorem dX9_fillAround_54 : decode cX9_fillAround 54 = .ok (.istore 5, 2) := dc_54 (gB_c lq_cX9_fillAround q1_cX9_fillAround 22 (o := 54) rfl) (gB_c lq_cX9_fillAround q1_cX9_fillAround 23 (o := 5) rfl)
theorem dX9_fillAround_56 : decode cX9_fillAround 56 = .ok (.iload 5, 2) := dc_21 (gB_c lq_cX9_fillAround q1_cX9_fillAround 24 (o := 21) rfl) (gB_c lq_cX9_fillAround q1_cX9_fillAround 25 (o := 5) rfl)
theorem dX9_fillAround_58 : decode cX9_fillAround 58 = .ok (.aload_n 1, 1) := dc_43 (gB_c lq_cX9_fillAround q1_cX9_fillAround 26 (o := 43) rfl)
theorem dX9_fillAround_59 : decode cX9_fillAround 59 = .ok (.getfield 56, 3) := dc_180 (gB_c lq_cX9_fillAround q1_cX9_fillAround 27 (o := 180) rfl) (gB_c lq_cX9_fillAround q1_cX9_fillAround 28 (o := 0) rfl) (gB_c lq_cX9_fillAround q1_cX9_fillAround 29 (o := 56) rfl) rfl
theorem dX9_fillAround_62 : decode cX9_fillAround 62 = .ok (.if_icmp .ge 78, 3) := dc_162 (gB_c lq_cX9_fillAround q1_cX9_fillAround 30 (o := 162) rfl) (gB_c lq_cX9_fillAround q1_cX9_fillAround 31 (o := 0) rfl) (gB_c lq_cX9_fillAround q2_cX9_fillAround 0 (o := 78) rfl) rfl
theorem dX9_fillAround_65 : decode cX9_fillAround 65 = .ok (.iload_n 2, 1) := dc_28 (gB_c lq_cX9_fillAround q2_cX9_fillAround 1 (o := 28) rfl)
theorem dX9_fillAround_66 : decode cX9_fillAround 66 = .ok (.iload 5, 2) := dc_21 (gB_c lq_cX9_fillAround q2_cX9_fillAround 2 (o := 21) rfl) (gB_c lq_cX9_fillAround q2_cX9_fillAround 3 (o := 5) rfl)
theorem dX9_fillAround_68 : decode cX9_fillAround 68 = .ok (.ishr, 1) := dc_122 (gB_c lq_cX9_fillAround q2_cX9_fillAround 4 (o := 122) rfl)
theorem dX9_fillAround_69 : decode cX9_fillAround 69 = .ok (.iconst 1, 1) := dc_4 (gB_c lq_cX9_fillAround q2_cX9_fillAround 5 (o := 4) rfl)
theorem dX9_fillAround_70 : decode cX9_fillAround 70 = .ok (.iand, 1) := dc_126 (gB_c lq_cX9_fillAround q2_cX9_fillAround 6 (o := 126) rfl)
theorem dX9_fillAround_71 : decode cX9_fillAround 71 = .ok (.ifCond .ne 63, 3) := dc_154 (gB_c lq_cX9_fillAround q2_cX9_fillAround 7 (o := 154) rfl) (gB_c lq_cX9_fillAround q2_cX9_fillAround 8 (o := 0) rfl) (gB_c lq_cX9_fillAround q2_cX9_fillAround 9 (o := 63) rfl) rfl
theorem dX9_fillAround_74 : decode cX9_fillAround 74 = .ok (.aload_n 0, 1) := dc_42 (gB_c lq_cX9_fillAround q2_cX9_fillAround 10 (o := 42) rfl)
theorem dX9_fillAround_75 : decode cX9_fillAround 75 = .ok (.getfield 18, 3) := dc_180 (gB_c lq_cX9_fillAround q2_cX9_fillAround 11 (o := 180) rfl) (gB_c lq_cX9_fillAround q2_cX9_fillAround 12 (o := 0) rfl) (gB_c lq_cX9_fillAround q2_cX9_fillAround 13 (o := 18) rfl) rfl
theorem dX9_fillAround_78 : decode cX9_fillAround 78 = .ok (.iload 4, 2) := dc_21 (gB_c lq_cX9_fillAround q2_cX9_fillAround 14 (o := 21) rfl) (gB_c lq_cX9_fillAround q2_cX9_fillAround 15 (o := 4) rfl)
theorem dX9_fillAround_80 : decode cX9_fillAround 80 = .ok (.iload 5, 2) := dc_21 (gB_c lq_cX9_fillAround q2_cX9_fillAround 16 (o := 21) rfl) (gB_c lq_cX9_fillAround q2_cX9_fillAround 17 (o := 5) rfl)
theorem dX9_fillAround_82 : decode cX9_fillAround 82 = .ok (.iadd, 1) := dc_96 (gB_c lq_cX9_fillAround q2_cX9_fillAround 18 (o := 96) rfl)
theorem dX9_fillAround_83 : decode cX9_fillAround 83 = .ok (.iaload, 1) := dc_46 (gB_c lq_cX9_fillAround q2_cX9_fillAround 19 (o := 46) rfl)
theorem dX9_fillAround_84 : decode cX9_fillAround 84 = .ok (.istore 6, 2) := dc_54 (gB_c lq_cX9_fillAround q2_cX9_fillAround 20 (o := 54) rfl) (gB_c lq_cX9_fillAround q2_cX9_fillAround 21 (o := 6) rfl)
theorem dX9_fillAround_86 : decode cX9_fillAround 86 = .ok (.iload 6, 2) := dc_21 (gB_c lq_cX9_fillAround q2_cX9_fillAround 22 (o := 21) rfl) (gB_c lq_cX9_fillAround q2_cX9_fillAround 23 (o := 6) rfl)
theorem dX9_fillAround_88 : decode cX9_fillAround 88 = .ok (.iload_n 3, 1) := dc_29 (gB_c lq_cX9_fillAround q2_cX9_fillAround 24 (o := 29) rfl)
theorem dX9_fillAround_89 : decode cX9_fillAround 89 = .ok (.ishr, 1) := dc_122 (gB_c lq_cX9_fillAround q2_cX9_fillAround 25 (o := 122) rfl)
theorem dX9_fillAround_90 : decode cX9_fillAround 90 = .ok (.iconst 1, 1) := dc_4 (gB_c lq_cX9_fillAround q2_cX9_fillAround 26 (o := 4) rfl)
theorem dX9_fillAround_91 : decode cX9_fillAround 91 = .ok (.iand, 1) := dc_126 (gB_c lq_cX9_fillAround q2_cX9_fillAround 27 (o := 126) rfl)
theorem dX9_fillAround_92 : decode cX9_fillAround 92 = .ok (.ifCond .eq 28, 3) := dc_153 (gB_c lq_cX9_fillAround q2_cX9_fillAround 28 (o := 153) rfl) (gB_c lq_cX9_fillAround q2_cX9_fillAround 29 (o := 0) rfl) (gB_c lq_cX9_fillAround q2_cX9_fillAround 30 (o := 28) rfl) rfl
theorem dX9_fillAround_95 : decode cX9_fillAround 95 = .ok (.iload 6, 2) := dc_21 (gB_c lq_cX9_fillAround q2_cX9_fillAround 31 (o := 21) rfl) (gB_c lq_cX9_fillAround q3_cX9_fillAround 0 (o := 6) rfl)
theorem dX9_fillAround_97 : decode cX9_fillAround 97 = .ok (.aload_n 0, 1) := dc_42 (gB_c lq_cX9_fillAround q3_cX9_fillAround 1 (o := 42) rfl)
theorem dX9_fillAround_98 : decode cX9_fillAround 98 = .ok (.getfield 18, 3) := dc_180 (gB_c lq_cX9_fillAround q3_cX9_fillAround 2 (o := 180) rfl) (gB_c lq_cX9_fillAround q3_cX9_fillAround 3 (o := 0) rfl) (gB_c lq_cX9_fillAround q3_cX9_fillAround 4 (o := 18) rfl) rfl
theorem dX9_fillAround_101 : decode cX9_fillAround 101 = .ok (.iload 4, 2) := dc_21 (gB_c lq_cX9_fillAround q3_cX9_fillAround 5 (o := 21) rfl) (gB_c lq_cX9_fillAround q3_cX9_fillAround 6 (o := 4) rfl)
theorem dX9_fillAround_103 : decode cX9_fillAround 103 = .ok (.iload_n 3, 1) := dc_29 (gB_c lq_cX9_fillAround q3_cX9_fillAround 7 (o := 29) rfl)
theorem dX9_fillAround_104 : decode cX9_fillAround 104 = .ok (.iadd, 1) := dc_96 (gB_c lq_cX9_fillAround q3_cX9_fillAround 8 (o := 96) rfl)
theorem dX9_fillAround_105 : decode cX9_fillAround 105 = .ok (.iaload, 1) := dc_46 (gB_c lq_cX9_fillAround q3_cX9_fillAround 9 (o := 46) rfl)
theorem dX9_fillAround_106 : decode cX9_fillAround 106 = .ok (.ior, 1) := dc_128 (gB_c lq_cX9_fillAround q3_cX9_fillAround 10 (o := 128) rfl)
theorem dX9_fillAround_107 : decode cX9_fillAround 107 = .ok (.iconst 1, 1) := dc_4 (gB_c lq_cX9_fillAround q3_cX9_fillAround 11 (o := 4) rfl)
theorem dX9_fillAround_108 : decode cX9_fillAround 108 = .ok (.iload 5, 2) := dc_21 (gB_c lq_cX9_fillAround q3_cX9_fillAround 12 (o := 21) rfl) (gB_c lq_cX9_fillAround q3_cX9_fillAround 13 (o := 5) rfl)
theorem dX9_fillAround_110 : decode cX9_fillAround 110 = .ok (.ishl, 1) := dc_120 (gB_c lq_cX9_fillAround q3_cX9_fillAround 14 (o := 120) rfl)
theorem dX9_fillAround_111 : decode cX9_fillAround 111 = .ok (.iconst 1, 1) := dc_4 (gB_c lq_cX9_fillAround q3_cX9_fillAround 15 (o := 4) rfl)
theorem dX9_fillAround_112 : decode cX9_fillAround 112 = .ok (.iload_n 3, 1) := dc_29 (gB_c lq_cX9_fillAround q3_cX9_fillAround 16 (o := 29) rfl)
theorem dX9_fillAround_113 : decode cX9_fillAround 113 = .ok (.ishl, 1) := dc_120 (gB_c lq_cX9_fillAround q3_cX9_fillAround 17 (o := 120) rfl)
theorem dX9_fillAround_114 : decode cX9_fillAround 114 = .ok (.ior, 1) := dc_128 (gB_c lq_cX9_fillAround q3_cX9_fillAround 18 (o := 128) rfl)
theorem dX9_fillAround_115 : decode cX9_fillAround 115 = .ok (.iconst (-1), 1) := dc_2 (gB_c lq_cX9_fillAround q3_cX9_fillAround 19 (o := 2) rfl)
theorem dX9_fillAround_116 : decode cX9_fillAround 116 = .ok (.ixor, 1) := dc_130 (gB_c lq_cX9_fillAround q3_cX9_fillAround 20 (o := 130) rfl)
theorem dX9_fillAround_117 : decode cX9_fillAround 117 = .ok (.iand, 1) := dc_126 (gB_c lq_cX9_fillAround q3_cX9_fillAround 21 (o := 126) rfl)
theorem dX9_fillAround_118 : decode cX9_fillAround 118 = .ok (.istore 6, 2) := dc_54 (gB_c lq_cX9_fillAround q3_cX9_fillAround 22 (o := 54) rfl) (gB_c lq_cX9_fillAround q3_cX9_fillAround 23 (o := 6) rfl)
theorem dX9_fillAround_120 : decode cX9_fillAround 120 = .ok (.aload_n 0, 1) := dc_42 (gB_c lq_cX9_fillAround q3_cX9_fillAround 24 (o := 42) rfl)
theorem dX9_fillAround_121 : decode cX9_fillAround 121 = .ok (.getfield 18, 3) := dc_180 (gB_c lq_cX9_fillAround q3_cX9_fillAround 25 (o := 180) rfl) (gB_c lq_cX9_fillAround q3_cX9_fillAround 26 (o := 0) rfl) (gB_c lq_cX9_fillAround q3_cX9_fillAround 27 (o := 18) rfl) rfl
theorem dX9_fillAround_124 : decode cX9_fillAround 124 = .ok (.iload_n 2, 1) := dc_28 (gB_c lq_cX9_fillAround q3_cX9_fillAround 28 (o := 28) rfl)
theorem dX9_fillAround_125 : decode cX9_fillAround 125 = .ok (.bipush 9, 2) := dc_16 (gB_c lq_cX9_fillAround q3_cX9_fillAround 29 (o := 16) rfl) (gB_c lq_cX9_fillAround q3_cX9_fillAround 30 (o := 9) rfl) rfl
theorem dX9_fillAround_127 : decode cX9_fillAround 127 = .ok (.imul, 1) := dc_104 (gB_c lq_cX9_fillAround q3_cX9_fillAround 31 (o := 104) rfl)
theorem dX9_fillAround_128 : decode cX9_fillAround 128 = .ok (.iload 5, 2) := dc_21 (gB_c lq_cX9_fillAround q4_cX9_fillAround 0 (o := 21) rfl) (gB_c lq_cX9_fillAround q4_cX9_fillAround 1 (o := 5) rfl)
theorem dX9_fillAround_130 : decode cX9_fillAround 130 = .ok (.iadd, 1) := dc_96 (gB_c lq_cX9_fillAround q4_cX9_fillAround 2 (o := 96) rfl)
theorem dX9_fillAround_131 : decode cX9_fillAround 131 = .ok (.iload 6, 2) := dc_21 (gB_c lq_cX9_fillAround q4_cX9_fillAround 3 (o := 21) rfl) (gB_c lq_cX9_fillAround q4_cX9_fillAround 4 (o := 6) rfl)
theorem dX9_fillAround_133 : decode cX9_fillAround 133 = .ok (.iastore, 1) := dc_79 (gB_c lq_cX9_fillAround q4_cX9_fillAround 5 (o := 79) rfl)
theorem dX9_fillAround_134 : decode cX9_fillAround 134 = .ok (.iinc 5 1, 3) := dc_132 (gB_c lq_cX9_fillAround q4_cX9_fillAround 6 (o := 132) rfl) (gB_c lq_cX9_fillAround q4_cX9_fillAround 7 (o := 5) rfl) (gB_c lq_cX9_fillAround q4_cX9_fillAround 8 (o := 1) rfl) rfl
theorem dX9_fillAround_137 : decode cX9_fillAround 137 = .ok (.goto (-81), 3) := dc_167 (gB_c lq_cX9_fillAround q4_cX9_fillAround 9 (o := 167) rfl) (gB_c lq_cX9_fillAround q4_cX9_fillAround 10 (o := 255) rfl) (gB_c lq_cX9_fillAround q4_cX9_fillAround 11 (o := 175) rfl) rfl
theorem dX9_fillAround_140 : decode cX9_fillAround 140 = .ok (.iinc 2 1, 3) := dc_132 (gB_c lq_cX9_fillAround q4_cX9_fillAround 12 (o := 132) rfl) (gB_c lq_cX9_fillAround q4_cX9_fillAround 13 (o := 2) rfl) (gB_c lq_cX9_fillAround q4_cX9_fillAround 14 (o := 1) rfl) rfl
theorem dX9_fillAround_143 : decode cX9_fillAround 143 = .ok (.goto (-113), 3) := dc_167 (gB_c lq_cX9_fillAround q4_cX9_fillAround 15 (o := 167) rfl) (gB_c lq_cX9_fillAround q4_cX9_fillAround 16 (o := 255) rfl) (gB_c lq_cX9_fillAround q4_cX9_fillAround 17 (o := 143) rfl) rfl
theorem dX9_fillAround_146 : decode cX9_fillAround 146 = .ok (.return_, 1) := dc_177 (gB_c lq_cX9_fillAround q4_cX9_fillAround 18 (o := 177) rfl)
abbrev r3_cX9_fillRest : List Nat := [184, 0, 104, 184, 0, 108, 54, 7, 132, 8, 1, 167, 255, 181, 42, 180, 0, 21, 21, 6, 21, 7, 79, 132, 6, 255, 167, 255, 154, 177]
def a2_cX9_fillRest : List Nat := [46, 21, 4, 163, 0, 37, 42, 180, 0, 21, 21, 6, 4, 21, 8, 120, 128, 46, 54, 10, 21, 7, 28, 21, 10, 42, 180, 0, 11, 21, 9, 46]
abbrev r2_cX9_fillRest : List Nat := a2_cX9_fillRest ++ r3_cX9_fillRest
def a1_cX9_fillRest : List Nat := [21, 8, 43, 180, 0, 56, 162, 0, 72, 21, 6, 16, 9, 104, 21, 8, 96, 54, 9, 21, 6, 21, 8, 122, 4, 126, 154, 0, 46, 45, 21, 9]
abbrev r1_cX9_fillRest : List Nat := a1_cX9_fillRest ++ r2_cX9_fillRest
def a0_cX9_fillRest : List Nat := [43, 182, 0, 77, 54, 5, 42, 180, 0, 21, 21, 5, 3, 79, 21, 5, 4, 100, 54, 6, 21, 6, 155, 0, 103, 18, 31, 54, 7, 3, 54, 8]
abbrev r0_cX9_fillRest : List Nat := a0_cX9_fillRest ++ r1_cX9_fillRest
theorem lq_cX9_fillRest : (cX9_fillRest).data.toList.map UInt8.toNat = r0_cX9_fillRest := by decide +kernel
theorem q1_cX9_fillRest : ∀ i, (r0_cX9_fillRest)[32 + i]? = (r1_cX9_fillRest)[i]? := chn (A := a0_cX9_fillRest) (B := r1_cX9_fillRest) (n := 0) (k := 32) rfl (ch0 (R := r0_cX9_fillRest))
theorem q2_cX9_fillRest : ∀ i, (r0_cX9_fillRest)[64 + i]? = (r2_cX9_fillRest)[i]? := chn (A := a1_cX9_fillRest) (B := r2_cX9_fillRest) (n := 32) (k := 32) rfl q1_cX9_fillRest
theorem q3_cX9_fillRest : ∀ i, (r0_cX9_fillRest)[96 + i]? = (r3_cX9_fillRest)[i]? := chn (A := a2_cX9_fillRest) (B := r3_cX9_fillRest) (n := 64) (k := 32) rfl q2_cX9_fillRest
theorem dX9_fillRest_0 : decode cX9_fillRest 0 = .ok (.aload_n 1, 1) := dc_43 (gB_l lq_cX9_fillRest (p := 0) (o := 43) rfl)
theorem dX9_fillRest_1 : decode cX9_fillRest 1 = .ok (.invokevirtual 77, 3) := dc_182 (gB_l lq_cX9_fillRest (p := 1) (o := 182) rfl) (gB_l lq_cX9_fillRest (p := 2) (o := 0) rfl) (gB_l lq_cX9_fillRest (p := 3) (o := 77) rfl) rfl
theorem dX9_fillRest_4 : decode cX9_fillRest 4 = .ok (.istore 5, 2) := dc_54 (gB_l lq_cX9_fillRest (p := 4) (o := 54) rfl) (gB_l lq_cX9_fillRest (p := 5) (o := 5) rfl)
theorem dX9_fillRest_6 : decode cX9_fillRest 6 = .ok (.aload_n 0, 1) := dc_42 (gB_l lq_cX9_fillRest (p := 6) (o := 42) rfl)
theorem dX9_fillRest_7 : decode cX9_fillRest 7 = .ok (.getfield 21, 3) := dc_180 (gB_l lq_cX9_fillRest (p := 7) (o := 180) rfl) (gB_l lq_cX9_fillRest (p := 8) (o := 0) rfl) (gB_l lq_cX9_fillRest (p := 9) (o := 21) rfl) rfl
theorem dX9_fillRest_10 : decode cX9_fillRest 10 = .ok (.iload 5, 2) := dc_21 (gB_l lq_cX9_fillRest (p := 10) (o := 21) rfl) (gB_l lq_cX9_fillRest (p := 11) (o := 5) rfl)
theorem dX9_fillRest_12 : decode cX9_fillRest 12 = .ok (.iconst 0, 1) := dc_3 (gB_l lq_cX9_fillRest (p := 12) (o := 3) rfl)
theorem dX9_fillRest_13 : decode cX9_fillRest 13 = .ok (.iastore, 1) := dc_79 (gB_l lq_cX9_fillRest (p := 13) (o := 79) rfl)
theorem dX9_fillRest_14 : decode cX9_fillRest 14 = .ok (.iload 5, 2) := dc_21 (gB_l lq_cX9_fillRest (p := 14) (o := 21) rfl) (gB_l lq_cX9_fillRest (p := 15) (o := 5) rfl)
theorem dX9_fillRest_16 : decode cX9_fillRest 16 = .ok (.iconst 1, 1) := dc_4 (gB_l lq_cX9_fillRest (p := 16) (o := 4) rfl)
theorem dX9_fillRest_17 : decode cX9_fillRest 17 = .ok (.isub, 1) := dc_100 (gB_l lq_cX9_fillRest (p := 17) (o := 100) rfl)
theorem dX9_fillRest_18 : decode cX9_fillRest 18 = .ok (.istore 6, 2) := dc_54 (gB_l lq_cX9_fillRest (p := 18) (o := 54) rfl) (gB_l lq_cX9_fillRest (p := 19) (o := 6) rfl)
theorem dX9_fillRest_20 : decode cX9_fillRest 20 = .ok (.iload 6, 2) := dc_21 (gB_l lq_cX9_fillRest (p := 20) (o := 21) rfl) (gB_l lq_cX9_fillRest (p := 21) (o := 6) rfl)
theorem dX9_fillRest_22 : decode cX9_fillRest 22 = .ok (.ifCond .lt 103, 3) := dc_155 (gB_l lq_cX9_fillRest (p := 22) (o := 155) rfl) (gB_l lq_cX9_fillRest (p := 23) (o := 0) rfl) (gB_l lq_cX9_fillRest (p := 24) (o := 103) rfl) rfl
theorem dX9_fillRest_25 : decode cX9_fillRest 25 = .ok (.ldc 31, 2) := dc_18 (gB_l lq_cX9_fillRest (p := 25) (o := 18) rfl) (gB_l lq_cX9_fillRest (p := 26) (o := 31) rfl)
theorem dX9_fillRest_27 : decode cX9_fillRest 27 = .ok (.istore 7, 2) := dc_54 (gB_l lq_cX9_fillRest (p := 27) (o := 54) rfl) (gB_l lq_cX9_fillRest (p := 28) (o := 7) rfl)
theorem dX9_fillRest_29 : decode cX9_fillRest 29 = .ok (.iconst 0, 1) := dc_3 (gB_l lq_cX9_fillRest (p := 29) (o := 3) rfl)
theorem dX9_fillRest_30 : decode cX9_fillRest 30 = .ok (.istore 8, 2) := dc_54 (gB_l lq_cX9_fillRest (p := 30) (o := 54) rfl) (gB_l lq_cX9_fillRest (p := 31) (o := 8) rfl)
theorem dX9_fillRest_32 : decode cX9_fillRest 32 = .ok (.iload 8, 2) := dc_21 (gB_c lq_cX9_fillRest q1_cX9_fillRest 0 (o := 21) rfl) (gB_c lq_cX9_fillRest q1_cX9_fillRest 1 (o := 8) rfl)
theorem dX9_fillRest_34 : decode cX9_fillRest 34 = .ok (.aload_n 1, 1) := dc_43 (gB_c lq_cX9_fillRest q1_cX9_fillRest 2 (o := 43) rfl)
theorem dX9_fillRest_35 : decode cX9_fillRest 35 = .ok (.getfield 56, 3) := dc_180 (gB_c lq_cX9_fillRest q1_cX9_fillRest 3 (o := 180) rfl) (gB_c lq_cX9_fillRest q1_cX9_fillRest 4 (o := 0) rfl) (gB_c lq_cX9_fillRest q1_cX9_fillRest 5 (o := 56) rfl) rfl
theorem dX9_fillRest_38 : decode cX9_fillRest 38 = .ok (.if_icmp .ge 72, 3) := dc_162 (gB_c lq_cX9_fillRest q1_cX9_fillRest 6 (o := 162) rfl) (gB_c lq_cX9_fillRest q1_cX9_fillRest 7 (o := 0) rfl) (gB_c lq_cX9_fillRest q1_cX9_fillRest 8 (o := 72) rfl) rfl
theorem dX9_fillRest_41 : decode cX9_fillRest 41 = .ok (.iload 6, 2) := dc_21 (gB_c lq_cX9_fillRest q1_cX9_fillRest 9 (o := 21) rfl) (gB_c lq_cX9_fillRest q1_cX9_fillRest 10 (o := 6) rfl)
theorem dX9_fillRest_43 : decode cX9_fillRest 43 = .ok (.bipush 9, 2) := dc_16 (gB_c lq_cX9_fillRest q1_cX9_fillRest 11 (o := 16) rfl) (gB_c lq_cX9_fillRest q1_cX9_fillRest 12 (o := 9) rfl) rfl
theorem dX9_fillRest_45 : decode cX9_fillRest 45 = .ok (.imul, 1) := dc_104 (gB_c lq_cX9_fillRest q1_cX9_fillRest 13 (o := 104) rfl)
theorem dX9_fillRest_46 : decode cX9_fillRest 46 = .ok (.iload 8, 2) := dc_21 (gB_c lq_cX9_fillRest q1_cX9_fillRest 14 (o := 21) rfl) (gB_c lq_cX9_fillRest q1_cX9_fillRest 15 (o := 8) rfl)
theorem dX9_fillRest_48 : decode cX9_fillRest 48 = .ok (.iadd, 1) := dc_96 (gB_c lq_cX9_fillRest q1_cX9_fillRest 16 (o := 96) rfl)
theorem dX9_fillRest_49 : decode cX9_fillRest 49 = .ok (.istore 9, 2) := dc_54 (gB_c lq_cX9_fillRest q1_cX9_fillRest 17 (o := 54) rfl) (gB_c lq_cX9_fillRest q1_cX9_fillRest 18 (o := 9) rfl)
theorem dX9_fillRest_51 : decode cX9_fillRest 51 = .ok (.iload 6, 2) := dc_21 (gB_c lq_cX9_fillRest q1_cX9_fillRest 19 (o := 21) rfl) (gB_c lq_cX9_fillRest q1_cX9_fillRest 20 (o := 6) rfl)
theorem dX9_fillRest_53 : decode cX9_fillRest 53 = .ok (.iload 8, 2) := dc_21 (gB_c lq_cX9_fillRest q1_cX9_fillRest 21 (o := 21) rfl) (gB_c lq_cX9_fillRest q1_cX9_fillRest 22 (o := 8) rfl)
theorem dX9_fillRest_55 : decode cX9_fillRest 55 = .ok (.ishr, 1) := dc_122 (gB_c lq_cX9_fillRest q1_cX9_fillRest 23 (o := 122) rfl)
theorem dX9_fillRest_56 : decode cX9_fillRest 56 = .ok (.iconst 1, 1) := dc_4 (gB_c lq_cX9_fillRest q1_cX9_fillRest 24 (o := 4) rfl)
theorem dX9_fillRest_57 : decode cX9_fillRest 57 = .ok (.iand, 1) := dc_126 (gB_c lq_cX9_fillRest q1_cX9_fillRest 25 (o := 126) rfl)
theorem dX9_fillRest_58 : decode cX9_fillRest 58 = .ok (.ifCond .ne 46, 3) := dc_154 (gB_c lq_cX9_fillRest q1_cX9_fillRest 26 (o := 154) rfl) (gB_c lq_cX9_fillRest q1_cX9_fillRest 27 (o := 0) rfl) (gB_c lq_cX9_fillRest q1_cX9_fillRest 28 (o := 46) rfl) rfl
theorem dX9_fillRest_61 : decode cX9_fillRest 61 = .ok (.aload_n 3, 1) := dc_45 (gB_c lq_cX9_fillRest q1_cX9_fillRest 29 (o := 45) rfl)
theorem dX9_fillRest_62 : decode cX9_fillRest 62 = .ok (.iload 9, 2) := dc_21 (gB_c lq_cX9_fillRest q1_cX9_fillRest 30 (o := 21) rfl) (gB_c lq_cX9_fillRest q1_cX9_fillRest 31 (o := 9) rfl)
theorem dX9_fillRest_64 : decode cX9_fillRest 64 = .ok (.iaload, 1) := dc_46 (gB_c lq_cX9_fillRest q2_cX9_fillRest 0 (o := 46) rfl)
theorem dX9_fillRest_65 : decode cX9_fillRest 65 = .ok (.iload 4, 2) := dc_21 (gB_c lq_cX9_fillRest q2_cX9_fillRest 1 (o := 21) rfl) (gB_c lq_cX9_fillRest q2_cX9_fillRest 2 (o := 4) rfl)
theorem dX9_fillRest_67 : decode cX9_fillRest 67 = .ok (.if_icmp .gt 37, 3) := dc_163 (gB_c lq_cX9_fillRest q2_cX9_fillRest 3 (o := 163) rfl) (gB_c lq_cX9_fillRest q2_cX9_fillRest 4 (o := 0) rfl) (gB_c lq_cX9_fillRest q2_cX9_fillRest 5 (o := 37) rfl) rfl
theorem dX9_fillRest_70 : decode cX9_fillRest 70 = .ok (.aload_n 0, 1) := dc_42 (gB_c lq_cX9_fillRest q2_cX9_fillRest 6 (o := 42) rfl)
theorem dX9_fillRest_71 : decode cX9_fillRest 71 = .ok (.getfield 21, 3) := dc_180 (gB_c lq_cX9_fillRest q2_cX9_fillRest 7 (o := 180) rfl) (gB_c lq_cX9_fillRest q2_cX9_fillRest 8 (o := 0) rfl) (gB_c lq_cX9_fillRest q2_cX9_fillRest 9 (o := 21) rfl) rfl
theorem dX9_fillRest_74 : decode cX9_fillRest 74 = .ok (.iload 6, 2) := dc_21 (gB_c lq_cX9_fillRest q2_cX9_fillRest 10 (o := 21) rfl) (gB_c lq_cX9_fillRest q2_cX9_fillRest 11 (o := 6) rfl)
theorem dX9_fillRest_76 : decode cX9_fillRest 76 = .ok (.iconst 1, 1) := dc_4 (gB_c lq_cX9_fillRest q2_cX9_fillRest 12 (o := 4) rfl)
theorem dX9_fillRest_77 : decode cX9_fillRest 77 = .ok (.iload 8, 2) := dc_21 (gB_c lq_cX9_fillRest q2_cX9_fillRest 13 (o := 21) rfl) (gB_c lq_cX9_fillRest q2_cX9_fillRest 14 (o := 8) rfl)
theorem dX9_fillRest_79 : decode cX9_fillRest 79 = .ok (.ishl, 1) := dc_120 (gB_c lq_cX9_fillRest q2_cX9_fillRest 15 (o := 120) rfl)
theorem dX9_fillRest_80 : decode cX9_fillRest 80 = .ok (.ior, 1) := dc_128 (gB_c lq_cX9_fillRest q2_cX9_fillRest 16 (o := 128) rfl)
theorem dX9_fillRest_81 : decode cX9_fillRest 81 = .ok (.iaload, 1) := dc_46 (gB_c lq_cX9_fillRest q2_cX9_fillRest 17 (o := 46) rfl)
theorem dX9_fillRest_82 : decode cX9_fillRest 82 = .ok (.istore 10, 2) := dc_54 (gB_c lq_cX9_fillRest q2_cX9_fillRest 18 (o := 54) rfl) (gB_c lq_cX9_fillRest q2_cX9_fillRest 19 (o := 10) rfl)
theorem dX9_fillRest_84 : decode cX9_fillRest 84 = .ok (.iload 7, 2) := dc_21 (gB_c lq_cX9_fillRest q2_cX9_fillRest 20 (o := 21) rfl) (gB_c lq_cX9_fillRest q2_cX9_fillRest 21 (o := 7) rfl)
theorem dX9_fillRest_86 : decode cX9_fillRest 86 = .ok (.iload_n 2, 1) := dc_28 (gB_c lq_cX9_fillRest q2_cX9_fillRest 22 (o := 28) rfl)
theorem dX9_fillRest_87 : decode cX9_fillRest 87 = .ok (.iload 10, 2) := dc_21 (gB_c lq_cX9_fillRest q2_cX9_fillRest 23 (o := 21) rfl) (gB_c lq_cX9_fillRest q2_cX9_fillRest 24 (o := 10) rfl)
theorem dX9_fillRest_89 : decode cX9_fillRest 89 = .ok (.aload_n 0, 1) := dc_42 (gB_c lq_cX9_fillRest q2_cX9_fillRest 25 (o := 42) rfl)
theorem dX9_fillRest_90 : decode cX9_fillRest 90 = .ok (.getfield 11, 3) := dc_180 (gB_c lq_cX9_fillRest q2_cX9_fillRest 26 (o := 180) rfl) (gB_c lq_cX9_fillRest q2_cX9_fillRest 27 (o := 0) rfl) (gB_c lq_cX9_fillRest q2_cX9_fillRest 28 (o := 11) rfl) rfl
theorem dX9_fillRest_93 : decode cX9_fillRest 93 = .ok (.iload 9, 2) := dc_21 (gB_c lq_cX9_fillRest q2_cX9_fillRest 29 (o := 21) rfl) (gB_c lq_cX9_fillRest q2_cX9_fillRest 30 (o := 9) rfl)
theorem dX9_fillRest_95 : decode cX9_fillRest 95 = .ok (.iaload, 1) := dc_46 (gB_c lq_cX9_fillRest q2_cX9_fillRest 31 (o := 46) rfl)
theorem dX9_fillRest_96 : decode cX9_fillRest 96 = .ok (.invokestatic 104, 3) := dc_184 (gB_c lq_cX9_fillRest q3_cX9_fillRest 0 (o := 184) rfl) (gB_c lq_cX9_fillRest q3_cX9_fillRest 1 (o := 0) rfl) (gB_c lq_cX9_fillRest q3_cX9_fillRest 2 (o := 104) rfl) rfl
theorem dX9_fillRest_99 : decode cX9_fillRest 99 = .ok (.invokestatic 108, 3) := dc_184 (gB_c lq_cX9_fillRest q3_cX9_fillRest 3 (o := 184) rfl) (gB_c lq_cX9_fillRest q3_cX9_fillRest 4 (o := 0) rfl) (gB_c lq_cX9_fillRest q3_cX9_fillRest 5 (o := 108) rfl) rfl
theorem dX9_fillRest_102 : decode cX9_fillRest 102 = .ok (.istore 7, 2) := dc_54 (gB_c lq_cX9_fillRest q3_cX9_fillRest 6 (o := 54) rfl) (gB_c lq_cX9_fillRest q3_cX9_fillRest 7 (o := 7) rfl)
theorem dX9_fillRest_104 : decode cX9_fillRest 104 = .ok (.iinc 8 1, 3) := dc_132 (gB_c lq_cX9_fillRest q3_cX9_fillRest 8 (o := 132) rfl) (gB_c lq_cX9_fillRest q3_cX9_fillRest 9 (o := 8) rfl) (gB_c lq_cX9_fillRest q3_cX9_fillRest 10 (o := 1) rfl) rfl
theorem dX9_fillRest_107 : decode cX9_fillRest 107 = .ok (.goto (-75), 3) := dc_167 (gB_c lq_cX9_fillRest q3_cX9_fillRest 11 (o := 167) rfl) (gB_c lq_cX9_fillRest q3_cX9_fillRest 12 (o := 255) rfl) (gB_c lq_cX9_fillRest q3_cX9_fillRest 13 (o := 181) rfl) rfl
theorem dX9_fillRest_110 : decode cX9_fillRest 110 = .ok (.aload_n 0, 1) := dc_42 (gB_c lq_cX9_fillRest q3_cX9_fillRest 14 (o := 42) rfl)
theorem dX9_fillRest_111 : decode cX9_fillRest 111 = .ok (.getfield 21, 3) := dc_180 (gB_c lq_cX9_fillRest q3_cX9_fillRest 15 (o := 180) rfl) (gB_c lq_cX9_fillRest q3_cX9_fillRest 16 (o := 0) rfl) (gB_c lq_cX9_fillRest q3_cX9_fillRest 17 (o := 21) rfl) rfl
theorem dX9_fillRest_114 : decode cX9_fillRest 114 = .ok (.iload 6, 2) := dc_21 (gB_c lq_cX9_fillRest q3_cX9_fillRest 18 (o := 21) rfl) (gB_c lq_cX9_fillRest q3_cX9_fillRest 19 (o := 6) rfl)
theorem dX9_fillRest_116 : decode cX9_fillRest 116 = .ok (.iload 7, 2) := dc_21 (gB_c lq_cX9_fillRest q3_cX9_fillRest 20 (o := 21) rfl) (gB_c lq_cX9_fillRest q3_cX9_fillRest 21 (o := 7) rfl)
theorem dX9_fillRest_118 : decode cX9_fillRest 118 = .ok (.iastore, 1) := dc_79 (gB_c lq_cX9_fillRest q3_cX9_fillRest 22 (o := 79) rfl)
theorem dX9_fillRest_119 : decode cX9_fillRest 119 = .ok (.iinc 6 (-1), 3) := dc_132 (gB_c lq_cX9_fillRest q3_cX9_fillRest 23 (o := 132) rfl) (gB_c lq_cX9_fillRest q3_cX9_fillRest 24 (o := 6) rfl) (gB_c lq_cX9_fillRest q3_cX9_fillRest 25 (o := 255) rfl) rfl
theorem dX9_fillRest_122 : decode cX9_fillRest 122 = .ok (.goto (-102), 3) := dc_167 (gB_c lq_cX9_fillRest q3_cX9_fillRest 26 (o := 167) rfl) (gB_c lq_cX9_fillRest q3_cX9_fillRest 27 (o := 255) rfl) (gB_c lq_cX9_fillRest q3_cX9_fillRest 28 (o := 154) rfl) rfl
theorem dX9_fillRest_125 : decode cX9_fillRest 125 = .ok (.return_, 1) := dc_177 (gB_c lq_cX9_fillRest q3_cX9_fillRest 29 (o := 177) rfl)
abbrev r2_cX9_fillSteps : List Nat := [6, 120, 130, 16, 9, 104, 21, 6, 96, 21, 5, 79, 132, 6, 1, 167, 255, 217, 132, 4, 1, 167, 255, 189, 177]
def a1_cX9_fillSteps : List Nat := [184, 0, 81, 54, 5, 3, 54, 6, 21, 6, 43, 180, 0, 56, 162, 0, 36, 21, 4, 21, 6, 122, 4, 126, 153, 0, 20, 45, 21, 4, 4, 21]
abbrev r1_cX9_fillSteps : List Nat := a1_cX9_fillSteps ++ r2_cX9_fillSteps
def a0_cX9_fillSteps : List Nat := [28, 184, 0, 68, 153, 0, 11, 42, 43, 28, 45, 182, 0, 74, 177, 3, 54, 4, 21, 4, 43, 182, 0, 77, 163, 0, 64, 43, 28, 21, 4, 2]
abbrev r0_cX9_fillSteps : List Nat := a0_cX9_fillSteps ++ r1_cX9_fillSteps
theorem lq_cX9_fillSteps : (cX9_fillSteps).data.toList.map UInt8.toNat = r0_cX9_fillSteps := by decide +kernel
theorem q1_cX9_fillSteps : ∀ i, (r0_cX9_fillSteps)[32 + i]? = (r1_cX9_fillSteps)[i]? := chn (A := a0_cX9_fillSteps) (B := r1_cX9_fillSteps) (n := 0) (k := 32) rfl (ch0 (R := r0_cX9_fillSteps))
theorem q2_cX9_fillSteps : ∀ i, (r0_cX9_fillSteps)[64 + i]? = (r2_cX9_fillSteps)[i]? := chn (A := a1_cX9_fillSteps) (B := r2_cX9_fillSteps) (n := 32) (k := 32) rfl q1_cX9_fillSteps
theorem dX9_fillSteps_0 : decode cX9_fillSteps 0 = .ok (.iload_n 2, 1) := dc_28 (gB_l lq_cX9_fillSteps (p := 0) (o := 28) rfl)
theorem dX9_fillSteps_1 : decode cX9_fillSteps 1 = .ok (.invokestatic 68, 3) := dc_184 (gB_l lq_cX9_fillSteps (p := 1) (o := 184) rfl) (gB_l lq_cX9_fillSteps (p := 2) (o := 0) rfl) (gB_l lq_cX9_fillSteps (p := 3) (o := 68) rfl) rfl
theorem dX9_fillSteps_4 : decode cX9_fillSteps 4 = .ok (.ifCond .eq 11, 3) := dc_153 (gB_l lq_cX9_fillSteps (p := 4) (o := 153) rfl) (gB_l lq_cX9_fillSteps (p := 5) (o := 0) rfl) (gB_l lq_cX9_fillSteps (p := 6) (o := 11) rfl) rfl
theorem dX9_fillSteps_7 : decode cX9_fillSteps 7 = .ok (.aload_n 0, 1) := dc_42 (gB_l lq_cX9_fillSteps (p := 7) (o := 42) rfl)
theorem dX9_fillSteps_8 : decode cX9_fillSteps 8 = .ok (.aload_n 1, 1) := dc_43 (gB_l lq_cX9_fillSteps (p := 8) (o := 43) rfl)
theorem dX9_fillSteps_9 : decode cX9_fillSteps 9 = .ok (.iload_n 2, 1) := dc_28 (gB_l lq_cX9_fillSteps (p := 9) (o := 28) rfl)
theorem dX9_fillSteps_10 : decode cX9_fillSteps 10 = .ok (.aload_n 3, 1) := dc_45 (gB_l lq_cX9_fillSteps (p := 10) (o := 45) rfl)
theorem dX9_fillSteps_11 : decode cX9_fillSteps 11 = .ok (.invokevirtual 74, 3) := dc_182 (gB_l lq_cX9_fillSteps (p := 11) (o := 182) rfl) (gB_l lq_cX9_fillSteps (p := 12) (o := 0) rfl) (gB_l lq_cX9_fillSteps (p := 13) (o := 74) rfl) rfl
theorem dX9_fillSteps_14 : decode cX9_fillSteps 14 = .ok (.return_, 1) := dc_177 (gB_l lq_cX9_fillSteps (p := 14) (o := 177) rfl)
theorem dX9_fillSteps_15 : decode cX9_fillSteps 15 = .ok (.iconst 0, 1) := dc_3 (gB_l lq_cX9_fillSteps (p := 15) (o := 3) rfl)
theorem dX9_fillSteps_16 : decode cX9_fillSteps 16 = .ok (.istore 4, 2) := dc_54 (gB_l lq_cX9_fillSteps (p := 16) (o := 54) rfl) (gB_l lq_cX9_fillSteps (p := 17) (o := 4) rfl)
theorem dX9_fillSteps_18 : decode cX9_fillSteps 18 = .ok (.iload 4, 2) := dc_21 (gB_l lq_cX9_fillSteps (p := 18) (o := 21) rfl) (gB_l lq_cX9_fillSteps (p := 19) (o := 4) rfl)
theorem dX9_fillSteps_20 : decode cX9_fillSteps 20 = .ok (.aload_n 1, 1) := dc_43 (gB_l lq_cX9_fillSteps (p := 20) (o := 43) rfl)
theorem dX9_fillSteps_21 : decode cX9_fillSteps 21 = .ok (.invokevirtual 77, 3) := dc_182 (gB_l lq_cX9_fillSteps (p := 21) (o := 182) rfl) (gB_l lq_cX9_fillSteps (p := 22) (o := 0) rfl) (gB_l lq_cX9_fillSteps (p := 23) (o := 77) rfl) rfl
theorem dX9_fillSteps_24 : decode cX9_fillSteps 24 = .ok (.if_icmp .gt 64, 3) := dc_163 (gB_l lq_cX9_fillSteps (p := 24) (o := 163) rfl) (gB_l lq_cX9_fillSteps (p := 25) (o := 0) rfl) (gB_l lq_cX9_fillSteps (p := 26) (o := 64) rfl) rfl
theorem dX9_fillSteps_27 : decode cX9_fillSteps 27 = .ok (.aload_n 1, 1) := dc_43 (gB_l lq_cX9_fillSteps (p := 27) (o := 43) rfl)
theorem dX9_fillSteps_28 : decode cX9_fillSteps 28 = .ok (.iload_n 2, 1) := dc_28 (gB_l lq_cX9_fillSteps (p := 28) (o := 28) rfl)
theorem dX9_fillSteps_29 : decode cX9_fillSteps 29 = .ok (.iload 4, 2) := dc_21 (gB_l lq_cX9_fillSteps (p := 29) (o := 21) rfl) (gB_l lq_cX9_fillSteps (p := 30) (o := 4) rfl)
theorem dX9_fillSteps_31 : decode cX9_fillSteps 31 = .ok (.iconst (-1), 1) := dc_2 (gB_l lq_cX9_fillSteps (p := 31) (o := 2) rfl)
theorem dX9_fillSteps_32 : decode cX9_fillSteps 32 = .ok (.invokestatic 81, 3) := dc_184 (gB_c lq_cX9_fillSteps q1_cX9_fillSteps 0 (o := 184) rfl) (gB_c lq_cX9_fillSteps q1_cX9_fillSteps 1 (o := 0) rfl) (gB_c lq_cX9_fillSteps q1_cX9_fillSteps 2 (o := 81) rfl) rfl
theorem dX9_fillSteps_35 : decode cX9_fillSteps 35 = .ok (.istore 5, 2) := dc_54 (gB_c lq_cX9_fillSteps q1_cX9_fillSteps 3 (o := 54) rfl) (gB_c lq_cX9_fillSteps q1_cX9_fillSteps 4 (o := 5) rfl)
theorem dX9_fillSteps_37 : decode cX9_fillSteps 37 = .ok (.iconst 0, 1) := dc_3 (gB_c lq_cX9_fillSteps q1_cX9_fillSteps 5 (o := 3) rfl)
theorem dX9_fillSteps_38 : decode cX9_fillSteps 38 = .ok (.istore 6, 2) := dc_54 (gB_c lq_cX9_fillSteps q1_cX9_fillSteps 6 (o := 54) rfl) (gB_c lq_cX9_fillSteps q1_cX9_fillSteps 7 (o := 6) rfl)
theorem dX9_fillSteps_40 : decode cX9_fillSteps 40 = .ok (.iload 6, 2) := dc_21 (gB_c lq_cX9_fillSteps q1_cX9_fillSteps 8 (o := 21) rfl) (gB_c lq_cX9_fillSteps q1_cX9_fillSteps 9 (o := 6) rfl)
theorem dX9_fillSteps_42 : decode cX9_fillSteps 42 = .ok (.aload_n 1, 1) := dc_43 (gB_c lq_cX9_fillSteps q1_cX9_fillSteps 10 (o := 43) rfl)
theorem dX9_fillSteps_43 : decode cX9_fillSteps 43 = .ok (.getfield 56, 3) := dc_180 (gB_c lq_cX9_fillSteps q1_cX9_fillSteps 11 (o := 180) rfl) (gB_c lq_cX9_fillSteps q1_cX9_fillSteps 12 (o := 0) rfl) (gB_c lq_cX9_fillSteps q1_cX9_fillSteps 13 (o := 56) rfl) rfl
theorem dX9_fillSteps_46 : decode cX9_fillSteps 46 = .ok (.if_icmp .ge 36, 3) := dc_162 (gB_c lq_cX9_fillSteps q1_cX9_fillSteps 14 (o := 162) rfl) (gB_c lq_cX9_fillSteps q1_cX9_fillSteps 15 (o := 0) rfl) (gB_c lq_cX9_fillSteps q1_cX9_fillSteps 16 (o := 36) rfl) rfl
theorem dX9_fillSteps_49 : decode cX9_fillSteps 49 = .ok (.iload 4, 2) := dc_21 (gB_c lq_cX9_fillSteps q1_cX9_fillSteps 17 (o := 21) rfl) (gB_c lq_cX9_fillSteps q1_cX9_fillSteps 18 (o := 4) rfl)
theorem dX9_fillSteps_51 : decode cX9_fillSteps 51 = .ok (.iload 6, 2) := dc_21 (gB_c lq_cX9_fillSteps q1_cX9_fillSteps 19 (o := 21) rfl) (gB_c lq_cX9_fillSteps q1_cX9_fillSteps 20 (o := 6) rfl)
theorem dX9_fillSteps_53 : decode cX9_fillSteps 53 = .ok (.ishr, 1) := dc_122 (gB_c lq_cX9_fillSteps q1_cX9_fillSteps 21 (o := 122) rfl)
theorem dX9_fillSteps_54 : decode cX9_fillSteps 54 = .ok (.iconst 1, 1) := dc_4 (gB_c lq_cX9_fillSteps q1_cX9_fillSteps 22 (o := 4) rfl)
theorem dX9_fillSteps_55 : decode cX9_fillSteps 55 = .ok (.iand, 1) := dc_126 (gB_c lq_cX9_fillSteps q1_cX9_fillSteps 23 (o := 126) rfl)
theorem dX9_fillSteps_56 : decode cX9_fillSteps 56 = .ok (.ifCond .eq 20, 3) := dc_153 (gB_c lq_cX9_fillSteps q1_cX9_fillSteps 24 (o := 153) rfl) (gB_c lq_cX9_fillSteps q1_cX9_fillSteps 25 (o := 0) rfl) (gB_c lq_cX9_fillSteps q1_cX9_fillSteps 26 (o := 20) rfl) rfl
theorem dX9_fillSteps_59 : decode cX9_fillSteps 59 = .ok (.aload_n 3, 1) := dc_45 (gB_c lq_cX9_fillSteps q1_cX9_fillSteps 27 (o := 45) rfl)
theorem dX9_fillSteps_60 : decode cX9_fillSteps 60 = .ok (.iload 4, 2) := dc_21 (gB_c lq_cX9_fillSteps q1_cX9_fillSteps 28 (o := 21) rfl) (gB_c lq_cX9_fillSteps q1_cX9_fillSteps 29 (o := 4) rfl)
theorem dX9_fillSteps_62 : decode cX9_fillSteps 62 = .ok (.iconst 1, 1) := dc_4 (gB_c lq_cX9_fillSteps q1_cX9_fillSteps 30 (o := 4) rfl)
theorem dX9_fillSteps_63 : decode cX9_fillSteps 63 = .ok (.iload 6, 2) := dc_21 (gB_c lq_cX9_fillSteps q1_cX9_fillSteps 31 (o := 21) rfl) (gB_c lq_cX9_fillSteps q2_cX9_fillSteps 0 (o := 6) rfl)
theorem dX9_fillSteps_65 : decode cX9_fillSteps 65 = .ok (.ishl, 1) := dc_120 (gB_c lq_cX9_fillSteps q2_cX9_fillSteps 1 (o := 120) rfl)
theorem dX9_fillSteps_66 : decode cX9_fillSteps 66 = .ok (.ixor, 1) := dc_130 (gB_c lq_cX9_fillSteps q2_cX9_fillSteps 2 (o := 130) rfl)
theorem dX9_fillSteps_67 : decode cX9_fillSteps 67 = .ok (.bipush 9, 2) := dc_16 (gB_c lq_cX9_fillSteps q2_cX9_fillSteps 3 (o := 16) rfl) (gB_c lq_cX9_fillSteps q2_cX9_fillSteps 4 (o := 9) rfl) rfl
theorem dX9_fillSteps_69 : decode cX9_fillSteps 69 = .ok (.imul, 1) := dc_104 (gB_c lq_cX9_fillSteps q2_cX9_fillSteps 5 (o := 104) rfl)
theorem dX9_fillSteps_70 : decode cX9_fillSteps 70 = .ok (.iload 6, 2) := dc_21 (gB_c lq_cX9_fillSteps q2_cX9_fillSteps 6 (o := 21) rfl) (gB_c lq_cX9_fillSteps q2_cX9_fillSteps 7 (o := 6) rfl)
theorem dX9_fillSteps_72 : decode cX9_fillSteps 72 = .ok (.iadd, 1) := dc_96 (gB_c lq_cX9_fillSteps q2_cX9_fillSteps 8 (o := 96) rfl)
theorem dX9_fillSteps_73 : decode cX9_fillSteps 73 = .ok (.iload 5, 2) := dc_21 (gB_c lq_cX9_fillSteps q2_cX9_fillSteps 9 (o := 21) rfl) (gB_c lq_cX9_fillSteps q2_cX9_fillSteps 10 (o := 5) rfl)
theorem dX9_fillSteps_75 : decode cX9_fillSteps 75 = .ok (.iastore, 1) := dc_79 (gB_c lq_cX9_fillSteps q2_cX9_fillSteps 11 (o := 79) rfl)
theorem dX9_fillSteps_76 : decode cX9_fillSteps 76 = .ok (.iinc 6 1, 3) := dc_132 (gB_c lq_cX9_fillSteps q2_cX9_fillSteps 12 (o := 132) rfl) (gB_c lq_cX9_fillSteps q2_cX9_fillSteps 13 (o := 6) rfl) (gB_c lq_cX9_fillSteps q2_cX9_fillSteps 14 (o := 1) rfl) rfl
theorem dX9_fillSteps_79 : decode cX9_fillSteps 79 = .ok (.goto (-39), 3) := dc_167 (gB_c lq_cX9_fillSteps q2_cX9_fillSteps 15 (o := 167) rfl) (gB_c lq_cX9_fillSteps q2_cX9_fillSteps 16 (o := 255) rfl) (gB_c lq_cX9_fillSteps q2_cX9_fillSteps 17 (o := 217) rfl) rfl
theorem dX9_fillSteps_82 : decode cX9_fillSteps 82 = .ok (.iinc 4 1, 3) := dc_132 (gB_c lq_cX9_fillSteps q2_cX9_fillSteps 18 (o := 132) rfl) (gB_c lq_cX9_fillSteps q2_cX9_fillSteps 19 (o := 4) rfl) (gB_c lq_cX9_fillSteps q2_cX9_fillSteps 20 (o := 1) rfl) rfl
theorem dX9_fillSteps_85 : decode cX9_fillSteps 85 = .ok (.goto (-67), 3) := dc_167 (gB_c lq_cX9_fillSteps q2_cX9_fillSteps 21 (o := 167) rfl) (gB_c lq_cX9_fillSteps q2_cX9_fillSteps 22 (o := 255) rfl) (gB_c lq_cX9_fillSteps q2_cX9_fillSteps 23 (o := 189) rfl) rfl
theorem dX9_fillSteps_88 : decode cX9_fillSteps 88 = .ok (.return_, 1) := dc_177 (gB_c lq_cX9_fillSteps q2_cX9_fillSteps 24 (o := 177) rfl)
abbrev r3_cX9_fillTakings : List Nat := [255, 169, 177]
def a2_cX9_fillTakings : List Nat := [8, 160, 0, 11, 21, 6, 184, 0, 88, 167, 0, 12, 42, 43, 21, 4, 21, 6, 182, 0, 93, 79, 132, 5, 1, 167, 255, 187, 132, 4, 1, 167]
abbrev r2_cX9_fillTakings : List Nat := a2_cX9_fillTakings ++ r3_cX9_fillTakings
def a1_cX9_fillTakings : List Nat := [5, 122, 4, 126, 154, 0, 50, 42, 180, 0, 18, 21, 4, 16, 9, 104, 21, 5, 96, 46, 54, 6, 45, 21, 4, 16, 9, 104, 21, 5, 96, 28]
abbrev r1_cX9_fillTakings : List Nat := a1_cX9_fillTakings ++ r2_cX9_fillTakings
def a0_cX9_fillTakings : List Nat := [42, 43, 182, 0, 84, 3, 54, 4, 21, 4, 43, 182, 0, 77, 163, 0, 84, 3, 54, 5, 21, 5, 43, 180, 0, 56, 162, 0, 66, 21, 4, 21]
abbrev r0_cX9_fillTakings : List Nat := a0_cX9_fillTakings ++ r1_cX9_fillTakings
theorem lq_cX9_fillTakings : (cX9_fillTakings).data.toList.map UInt8.toNat = r0_cX9_fillTakings := by decide +kernel
theorem q1_cX9_fillTakings : ∀ i, (r0_cX9_fillTakings)[32 + i]? = (r1_cX9_fillTakings)[i]? := chn (A := a0_cX9_fillTakings) (B := r1_cX9_fillTakings) (n := 0) (k := 32) rfl (ch0 (R := r0_cX9_fillTakings))
theorem q2_cX9_fillTakings : ∀ i, (r0_cX9_fillTakings)[64 + i]? = (r2_cX9_fillTakings)[i]? := chn (A := a1_cX9_fillTakings) (B := r2_cX9_fillTakings) (n := 32) (k := 32) rfl q1_cX9_fillTakings
theorem q3_cX9_fillTakings : ∀ i, (r0_cX9_fillTakings)[96 + i]? = (r3_cX9_fillTakings)[i]? := chn (A := a2_cX9_fillTakings) (B := r3_cX9_fillTakings) (n := 64) (k := 32) rfl q2_cX9_fillTakings
theorem dX9_fillTakings_0 : decode cX9_fillTakings 0 = .ok (.aload_n 0, 1) := dc_42 (gB_l lq_cX9_fillTakings (p := 0) (o := 42) rfl)
theorem dX9_fillTakings_1 : decode cX9_fillTakings 1 = .ok (.aload_n 1, 1) := dc_43 (gB_l lq_cX9_fillTakings (p := 1) (o := 43) rfl)
theorem dX9_fillTakings_2 : decode cX9_fillTakings 2 = .ok (.invokevirtual 84, 3) := dc_182 (gB_l lq_cX9_fillTakings (p := 2) (o := 182) rfl) (gB_l lq_cX9_fillTakings (p := 3) (o := 0) rfl) (gB_l lq_cX9_fillTakings (p := 4) (o := 84) rfl) rfl
theorem dX9_fillTakings_5 : decode cX9_fillTakings 5 = .ok (.iconst 0, 1) := dc_3 (gB_l lq_cX9_fillTakings (p := 5) (o := 3) rfl)
theorem dX9_fillTakings_6 : decode cX9_fillTakings 6 = .ok (.istore 4, 2) := dc_54 (gB_l lq_cX9_fillTakings (p := 6) (o := 54) rfl) (gB_l lq_cX9_fillTakings (p := 7) (o := 4) rfl)
theorem dX9_fillTakings_8 : decode cX9_fillTakings 8 = .ok (.iload 4, 2) := dc_21 (gB_l lq_cX9_fillTakings (p := 8) (o := 21) rfl) (gB_l lq_cX9_fillTakings (p := 9) (o := 4) rfl)
theorem dX9_fillTakings_10 : decode cX9_fillTakings 10 = .ok (.aload_n 1, 1) := dc_43 (gB_l lq_cX9_fillTakings (p := 10) (o := 43) rfl)
theorem dX9_fillTakings_11 : decode cX9_fillTakings 11 = .ok (.invokevirtual 77, 3) := dc_182 (gB_l lq_cX9_fillTakings (p := 11) (o := 182) rfl) (gB_l lq_cX9_fillTakings (p := 12) (o := 0) rfl) (gB_l lq_cX9_fillTakings (p := 13) (o := 77) rfl) rfl
theorem dX9_fillTakings_14 : decode cX9_fillTakings 14 = .ok (.if_icmp .gt 84, 3) := dc_163 (gB_l lq_cX9_fillTakings (p := 14) (o := 163) rfl) (gB_l lq_cX9_fillTakings (p := 15) (o := 0) rfl) (gB_l lq_cX9_fillTakings (p := 16) (o := 84) rfl) rfl
theorem dX9_fillTakings_17 : decode cX9_fillTakings 17 = .ok (.iconst 0, 1) := dc_3 (gB_l lq_cX9_fillTakings (p := 17) (o := 3) rfl)
theorem dX9_fillTakings_18 : decode cX9_fillTakings 18 = .ok (.istore 5, 2) := dc_54 (gB_l lq_cX9_fillTakings (p := 18) (o := 54) rfl) (gB_l lq_cX9_fillTakings (p := 19) (o := 5) rfl)
theorem dX9_fillTakings_20 : decode cX9_fillTakings 20 = .ok (.iload 5, 2) := dc_21 (gB_l lq_cX9_fillTakings (p := 20) (o := 21) rfl) (gB_l lq_cX9_fillTakings (p := 21) (o := 5) rfl)
theorem dX9_fillTakings_22 : decode cX9_fillTakings 22 = .ok (.aload_n 1, 1) := dc_43 (gB_l lq_cX9_fillTakings (p := 22) (o := 43) rfl)
theorem dX9_fillTakings_23 : decode cX9_fillTakings 23 = .ok (.getfield 56, 3) := dc_180 (gB_l lq_cX9_fillTakings (p := 23) (o := 180) rfl) (gB_l lq_cX9_fillTakings (p := 24) (o := 0) rfl) (gB_l lq_cX9_fillTakings (p := 25) (o := 56) rfl) rfl
theorem dX9_fillTakings_26 : decode cX9_fillTakings 26 = .ok (.if_icmp .ge 66, 3) := dc_162 (gB_l lq_cX9_fillTakings (p := 26) (o := 162) rfl) (gB_l lq_cX9_fillTakings (p := 27) (o := 0) rfl) (gB_l lq_cX9_fillTakings (p := 28) (o := 66) rfl) rfl
theorem dX9_fillTakings_29 : decode cX9_fillTakings 29 = .ok (.iload 4, 2) := dc_21 (gB_l lq_cX9_fillTakings (p := 29) (o := 21) rfl) (gB_l lq_cX9_fillTakings (p := 30) (o := 4) rfl)
theorem dX9_fillTakings_31 : decode cX9_fillTakings 31 = .ok (.iload 5, 2) := dc_21 (gB_l lq_cX9_fillTakings (p := 31) (o := 21) rfl) (gB_c lq_cX9_fillTakings q1_cX9_fillTakings 0 (o := 5) rfl)
theorem dX9_fillTakings_33 : decode cX9_fillTakings 33 = .ok (.ishr, 1) := dc_122 (gB_c lq_cX9_fillTakings q1_cX9_fillTakings 1 (o := 122) rfl)
theorem dX9_fillTakings_34 : decode cX9_fillTakings 34 = .ok (.iconst 1, 1) := dc_4 (gB_c lq_cX9_fillTakings q1_cX9_fillTakings 2 (o := 4) rfl)
theorem dX9_fillTakings_35 : decode cX9_fillTakings 35 = .ok (.iand, 1) := dc_126 (gB_c lq_cX9_fillTakings q1_cX9_fillTakings 3 (o := 126) rfl)
theorem dX9_fillTakings_36 : decode cX9_fillTakings 36 = .ok (.ifCond .ne 50, 3) := dc_154 (gB_c lq_cX9_fillTakings q1_cX9_fillTakings 4 (o := 154) rfl) (gB_c lq_cX9_fillTakings q1_cX9_fillTakings 5 (o := 0) rfl) (gB_c lq_cX9_fillTakings q1_cX9_fillTakings 6 (o := 50) rfl) rfl
theorem dX9_fillTakings_39 : decode cX9_fillTakings 39 = .ok (.aload_n 0, 1) := dc_42 (gB_c lq_cX9_fillTakings q1_cX9_fillTakings 7 (o := 42) rfl)
theorem dX9_fillTakings_40 : decode cX9_fillTakings 40 = .ok (.getfield 18, 3) := dc_180 (gB_c lq_cX9_fillTakings q1_cX9_fillTakings 8 (o := 180) rfl) (gB_c lq_cX9_fillTakings q1_cX9_fillTakings 9 (o := 0) rfl) (gB_c lq_cX9_fillTakings q1_cX9_fillTakings 10 (o := 18) rfl) rfl
theorem dX9_fillTakings_43 : decode cX9_fillTakings 43 = .ok (.iload 4, 2) := dc_21 (gB_c lq_cX9_fillTakings q1_cX9_fillTakings 11 (o := 21) rfl) (gB_c lq_cX9_fillTakings q1_cX9_fillTakings 12 (o := 4) rfl)
theorem dX9_fillTakings_45 : decode cX9_fillTakings 45 = .ok (.bipush 9, 2) := dc_16 (gB_c lq_cX9_fillTakings q1_cX9_fillTakings 13 (o := 16) rfl) (gB_c lq_cX9_fillTakings q1_cX9_fillTakings 14 (o := 9) rfl) rfl
theorem dX9_fillTakings_47 : decode cX9_fillTakings 47 = .ok (.imul, 1) := dc_104 (gB_c lq_cX9_fillTakings q1_cX9_fillTakings 15 (o := 104) rfl)
theorem dX9_fillTakings_48 : decode cX9_fillTakings 48 = .ok (.iload 5, 2) := dc_21 (gB_c lq_cX9_fillTakings q1_cX9_fillTakings 16 (o := 21) rfl) (gB_c lq_cX9_fillTakings q1_cX9_fillTakings 17 (o := 5) rfl)
theorem dX9_fillTakings_50 : decode cX9_fillTakings 50 = .ok (.iadd, 1) := dc_96 (gB_c lq_cX9_fillTakings q1_cX9_fillTakings 18 (o := 96) rfl)
theorem dX9_fillTakings_51 : decode cX9_fillTakings 51 = .ok (.iaload, 1) := dc_46 (gB_c lq_cX9_fillTakings q1_cX9_fillTakings 19 (o := 46) rfl)
theorem dX9_fillTakings_52 : decode cX9_fillTakings 52 = .ok (.istore 6, 2) := dc_54 (gB_c lq_cX9_fillTakings q1_cX9_fillTakings 20 (o := 54) rfl) (gB_c lq_cX9_fillTakings q1_cX9_fillTakings 21 (o := 6) rfl)
theorem dX9_fillTakings_54 : decode cX9_fillTakings 54 = .ok (.aload_n 3, 1) := dc_45 (gB_c lq_cX9_fillTakings q1_cX9_fillTakings 22 (o := 45) rfl)
theorem dX9_fillTakings_55 : decode cX9_fillTakings 55 = .ok (.iload 4, 2) := dc_21 (gB_c lq_cX9_fillTakings q1_cX9_fillTakings 23 (o := 21) rfl) (gB_c lq_cX9_fillTakings q1_cX9_fillTakings 24 (o := 4) rfl)
theorem dX9_fillTakings_57 : decode cX9_fillTakings 57 = .ok (.bipush 9, 2) := dc_16 (gB_c lq_cX9_fillTakings q1_cX9_fillTakings 25 (o := 16) rfl) (gB_c lq_cX9_fillTakings q1_cX9_fillTakings 26 (o := 9) rfl) rfl
theorem dX9_fillTakings_59 : decode cX9_fillTakings 59 = .ok (.imul, 1) := dc_104 (gB_c lq_cX9_fillTakings q1_cX9_fillTakings 27 (o := 104) rfl)
theorem dX9_fillTakings_60 : decode cX9_fillTakings 60 = .ok (.iload 5, 2) := dc_21 (gB_c lq_cX9_fillTakings q1_cX9_fillTakings 28 (o := 21) rfl) (gB_c lq_cX9_fillTakings q1_cX9_fillTakings 29 (o := 5) rfl)
theorem dX9_fillTakings_62 : decode cX9_fillTakings 62 = .ok (.iadd, 1) := dc_96 (gB_c lq_cX9_fillTakings q1_cX9_fillTakings 30 (o := 96) rfl)
theorem dX9_fillTakings_63 : decode cX9_fillTakings 63 = .ok (.iload_n 2, 1) := dc_28 (gB_c lq_cX9_fillTakings q1_cX9_fillTakings 31 (o := 28) rfl)
theorem dX9_fillTakings_64 : decode cX9_fillTakings 64 = .ok (.iconst 5, 1) := dc_8 (gB_c lq_cX9_fillTakings q2_cX9_fillTakings 0 (o := 8) rfl)
theorem dX9_fillTakings_65 : decode cX9_fillTakings 65 = .ok (.if_icmp .ne 11, 3) := dc_160 (gB_c lq_cX9_fillTakings q2_cX9_fillTakings 1 (o := 160) rfl) (gB_c lq_cX9_fillTakings q2_cX9_fillTakings 2 (o := 0) rfl) (gB_c lq_cX9_fillTakings q2_cX9_fillTakings 3 (o := 11) rfl) rfl
theorem dX9_fillTakings_68 : decode cX9_fillTakings 68 = .ok (.iload 6, 2) := dc_21 (gB_c lq_cX9_fillTakings q2_cX9_fillTakings 4 (o := 21) rfl) (gB_c lq_cX9_fillTakings q2_cX9_fillTakings 5 (o := 6) rfl)
theorem dX9_fillTakings_70 : decode cX9_fillTakings 70 = .ok (.invokestatic 88, 3) := dc_184 (gB_c lq_cX9_fillTakings q2_cX9_fillTakings 6 (o := 184) rfl) (gB_c lq_cX9_fillTakings q2_cX9_fillTakings 7 (o := 0) rfl) (gB_c lq_cX9_fillTakings q2_cX9_fillTakings 8 (o := 88) rfl) rfl
theorem dX9_fillTakings_73 : decode cX9_fillTakings 73 = .ok (.goto 12, 3) := dc_167 (gB_c lq_cX9_fillTakings q2_cX9_fillTakings 9 (o := 167) rfl) (gB_c lq_cX9_fillTakings q2_cX9_fillTakings 10 (o := 0) rfl) (gB_c lq_cX9_fillTakings q2_cX9_fillTakings 11 (o := 12) rfl) rfl
theorem dX9_fillTakings_76 : decode cX9_fillTakings 76 = .ok (.aload_n 0, 1) := dc_42 (gB_c lq_cX9_fillTakings q2_cX9_fillTakings 12 (o := 42) rfl)
theorem dX9_fillTakings_77 : decode cX9_fillTakings 77 = .ok (.aload_n 1, 1) := dc_43 (gB_c lq_cX9_fillTakings q2_cX9_fillTakings 13 (o := 43) rfl)
theorem dX9_fillTakings_78 : decode cX9_fillTakings 78 = .ok (.iload 4, 2) := dc_21 (gB_c lq_cX9_fillTakings q2_cX9_fillTakings 14 (o := 21) rfl) (gB_c lq_cX9_fillTakings q2_cX9_fillTakings 15 (o := 4) rfl)
theorem dX9_fillTakings_80 : decode cX9_fillTakings 80 = .ok (.iload 6, 2) := dc_21 (gB_c lq_cX9_fillTakings q2_cX9_fillTakings 16 (o := 21) rfl) (gB_c lq_cX9_fillTakings q2_cX9_fillTakings 17 (o := 6) rfl)
theorem dX9_fillTakings_82 : decode cX9_fillTakings 82 = .ok (.invokevirtual 93, 3) := dc_182 (gB_c lq_cX9_fillTakings q2_cX9_fillTakings 18 (o := 182) rfl) (gB_c lq_cX9_fillTakings q2_cX9_fillTakings 19 (o := 0) rfl) (gB_c lq_cX9_fillTakings q2_cX9_fillTakings 20 (o := 93) rfl) rfl
theorem dX9_fillTakings_85 : decode cX9_fillTakings 85 = .ok (.iastore, 1) := dc_79 (gB_c lq_cX9_fillTakings q2_cX9_fillTakings 21 (o := 79) rfl)
theorem dX9_fillTakings_86 : decode cX9_fillTakings 86 = .ok (.iinc 5 1, 3) := dc_132 (gB_c lq_cX9_fillTakings q2_cX9_fillTakings 22 (o := 132) rfl) (gB_c lq_cX9_fillTakings q2_cX9_fillTakings 23 (o := 5) rfl) (gB_c lq_cX9_fillTakings q2_cX9_fillTakings 24 (o := 1) rfl) rfl
theorem dX9_fillTakings_89 : decode cX9_fillTakings 89 = .ok (.goto (-69), 3) := dc_167 (gB_c lq_cX9_fillTakings q2_cX9_fillTakings 25 (o := 167) rfl) (gB_c lq_cX9_fillTakings q2_cX9_fillTakings 26 (o := 255) rfl) (gB_c lq_cX9_fillTakings q2_cX9_fillTakings 27 (o := 187) rfl) rfl
theorem dX9_fillTakings_92 : decode cX9_fillTakings 92 = .ok (.iinc 4 1, 3) := dc_132 (gB_c lq_cX9_fillTakings q2_cX9_fillTakings 28 (o := 132) rfl) (gB_c lq_cX9_fillTakings q2_cX9_fillTakings 29 (o := 4) rfl) (gB_c lq_cX9_fillTakings q2_cX9_fillTakings 30 (o := 1) rfl) rfl
theorem dX9_fillTakings_95 : decode cX9_fillTakings 95 = .ok (.goto (-87), 3) := dc_167 (gB_c lq_cX9_fillTakings q2_cX9_fillTakings 31 (o := 167) rfl) (gB_c lq_cX9_fillTakings q3_cX9_fillTakings 0 (o := 255) rfl) (gB_c lq_cX9_fillTakings q3_cX9_fillTakings 1 (o := 169) rfl) rfl
theorem dX9_fillTakings_98 : decode cX9_fillTakings 98 = .ok (.return_, 1) := dc_177 (gB_c lq_cX9_fillTakings q3_cX9_fillTakings 2 (o := 177) rfl)
abbrev r4_cX9_find : List Nat := [207, 177]
def a3_cX9_find : List Nat := [46, 182, 0, 49, 184, 0, 61, 54, 6, 45, 180, 0, 65, 21, 5, 21, 6, 79, 21, 4, 4, 21, 6, 120, 128, 54, 4, 132, 5, 1, 167, 255]
abbrev r3_cX9_find : List Nat := a3_cX9_find ++ r4_cX9_find
def a2_cX9_find : List Nat := [46, 182, 0, 49, 181, 0, 53, 3, 54, 4, 3, 54, 5, 21, 5, 43, 180, 0, 56, 162, 0, 46, 42, 43, 28, 21, 4, 42, 180, 0, 21, 3]
abbrev r2_cX9_find : List Nat := a2_cX9_find ++ r3_cX9_find
def a1_cX9_find : List Nat := [42, 43, 28, 42, 180, 0, 21, 3, 46, 182, 0, 42, 45, 42, 180, 0, 24, 3, 46, 181, 0, 46, 45, 42, 43, 28, 3, 42, 180, 0, 21, 3]
abbrev r1_cX9_find : List Nat := a1_cX9_find ++ r2_cX9_find
def a0_cX9_find : List Nat := [42, 43, 28, 42, 180, 0, 11, 182, 0, 27, 42, 43, 28, 42, 180, 0, 11, 18, 31, 182, 0, 32, 45, 42, 180, 0, 21, 3, 46, 181, 0, 36]
abbrev r0_cX9_find : List Nat := a0_cX9_find ++ r1_cX9_find
theorem lq_cX9_find : (cX9_find).data.toList.map UInt8.toNat = r0_cX9_find := by decide +kernel
theorem q1_cX9_find : ∀ i, (r0_cX9_find)[32 + i]? = (r1_cX9_find)[i]? := chn (A := a0_cX9_find) (B := r1_cX9_find) (n := 0) (k := 32) rfl (ch0 (R := r0_cX9_find))
theorem q2_cX9_find : ∀ i, (r0_cX9_find)[64 + i]? = (r2_cX9_find)[i]? := chn (A := a1_cX9_find) (B := r2_cX9_find) (n := 32) (k := 32) rfl q1_cX9_find
theorem q3_cX9_find : ∀ i, (r0_cX9_find)[96 + i]? = (r3_cX9_find)[i]? := chn (A := a2_cX9_find) (B := r3_cX9_find) (n := 64) (k := 32) rfl q2_cX9_find
theorem q4_cX9_find : ∀ i, (r0_cX9_find)[128 + i]? = (r4_cX9_find)[i]? := chn (A := a3_cX9_find) (B := r4_cX9_find) (n := 96) (k := 32) rfl q3_cX9_find
theorem dX9_find_0 : decode cX9_find 0 = .ok (.aload_n 0, 1) := dc_42 (gB_l lq_cX9_find (p := 0) (o := 42) rfl)
theorem dX9_find_1 : decode cX9_find 1 = .ok (.aload_n 1, 1) := dc_43 (gB_l lq_cX9_find (p := 1) (o := 43) rfl)
theorem dX9_find_2 : decode cX9_find 2 = .ok (.iload_n 2, 1) := dc_28 (gB_l lq_cX9_find (p := 2) (o := 28) rfl)
theorem dX9_find_3 : decode cX9_find 3 = .ok (.aload_n 0, 1) := dc_42 (gB_l lq_cX9_find (p := 3) (o := 42) rfl)
theorem dX9_find_4 : decode cX9_find 4 = .ok (.getfield 11, 3) := dc_180 (gB_l lq_cX9_find (p := 4) (o := 180) rfl) (gB_l lq_cX9_find (p := 5) (o := 0) rfl) (gB_l lq_cX9_find (p := 6) (o := 11) rfl) rfl
theorem dX9_find_7 : decode cX9_find 7 = .ok (.invokevirtual 27, 3) := dc_182 (gB_l lq_cX9_find (p := 7) (o := 182) rfl) (gB_l lq_cX9_find (p := 8) (o := 0) rfl) (gB_l lq_cX9_find (p := 9) (o := 27) rfl) rfl
theorem dX9_find_10 : decode cX9_find 10 = .ok (.aload_n 0, 1) := dc_42 (gB_l lq_cX9_find (p := 10) (o := 42) rfl)
theorem dX9_find_11 : decode cX9_find 11 = .ok (.aload_n 1, 1) := dc_43 (gB_l lq_cX9_find (p := 11) (o := 43) rfl)
theorem dX9_find_12 : decode cX9_find 12 = .ok (.iload_n 2, 1) := dc_28 (gB_l lq_cX9_find (p := 12) (o := 28) rfl)
theorem dX9_find_13 : decode cX9_find 13 = .ok (.aload_n 0, 1) := dc_42 (gB_l lq_cX9_find (p := 13) (o := 42) rfl)
theorem dX9_find_14 : decode cX9_find 14 = .ok (.getfield 11, 3) := dc_180 (gB_l lq_cX9_find (p := 14) (o := 180) rfl) (gB_l lq_cX9_find (p := 15) (o := 0) rfl) (gB_l lq_cX9_find (p := 16) (o := 11) rfl) rfl
theorem dX9_find_17 : decode cX9_find 17 = .ok (.ldc 31, 2) := dc_18 (gB_l lq_cX9_find (p := 17) (o := 18) rfl) (gB_l lq_cX9_find (p := 18) (o := 31) rfl)
theorem dX9_find_19 : decode cX9_find 19 = .ok (.invokevirtual 32, 3) := dc_182 (gB_l lq_cX9_find (p := 19) (o := 182) rfl) (gB_l lq_cX9_find (p := 20) (o := 0) rfl) (gB_l lq_cX9_find (p := 21) (o := 32) rfl) rfl
theorem dX9_find_22 : decode cX9_find 22 = .ok (.aload_n 3, 1) := dc_45 (gB_l lq_cX9_find (p := 22) (o := 45) rfl)
theorem dX9_find_23 : decode cX9_find 23 = .ok (.aload_n 0, 1) := dc_42 (gB_l lq_cX9_find (p := 23) (o := 42) rfl)
theorem dX9_find_24 : decode cX9_find 24 = .ok (.getfield 21, 3) := dc_180 (gB_l lq_cX9_find (p := 24) (o := 180) rfl) (gB_l lq_cX9_find (p := 25) (o := 0) rfl) (gB_l lq_cX9_find (p := 26) (o := 21) rfl) rfl
theorem dX9_find_27 : decode cX9_find 27 = .ok (.iconst 0, 1) := dc_3 (gB_l lq_cX9_find (p := 27) (o := 3) rfl)
theorem dX9_find_28 : decode cX9_find 28 = .ok (.iaload, 1) := dc_46 (gB_l lq_cX9_find (p := 28) (o := 46) rfl)
theorem dX9_find_29 : decode cX9_find 29 = .ok (.putfield 36, 3) := dc_181 (gB_l lq_cX9_find (p := 29) (o := 181) rfl) (gB_l lq_cX9_find (p := 30) (o := 0) rfl) (gB_l lq_cX9_find (p := 31) (o := 36) rfl) rfl
theorem dX9_find_32 : decode cX9_find 32 = .ok (.aload_n 0, 1) := dc_42 (gB_c lq_cX9_find q1_cX9_find 0 (o := 42) rfl)
theorem dX9_find_33 : decode cX9_find 33 = .ok (.aload_n 1, 1) := dc_43 (gB_c lq_cX9_find q1_cX9_find 1 (o := 43) rfl)
theorem dX9_find_34 : decode cX9_find 34 = .ok (.iload_n 2, 1) := dc_28 (gB_c lq_cX9_find q1_cX9_find 2 (o := 28) rfl)
theorem dX9_find_35 : decode cX9_find 35 = .ok (.aload_n 0, 1) := dc_42 (gB_c lq_cX9_find q1_cX9_find 3 (o := 42) rfl)
theorem dX9_find_36 : decode cX9_find 36 = .ok (.getfield 21, 3) := dc_180 (gB_c lq_cX9_find q1_cX9_find 4 (o := 180) rfl) (gB_c lq_cX9_find q1_cX9_find 5 (o := 0) rfl) (gB_c lq_cX9_find q1_cX9_find 6 (o := 21) rfl) rfl
theorem dX9_find_39 : decode cX9_find 39 = .ok (.iconst 0, 1) := dc_3 (gB_c lq_cX9_find q1_cX9_find 7 (o := 3) rfl)
theorem dX9_find_40 : decode cX9_find 40 = .ok (.iaload, 1) := dc_46 (gB_c lq_cX9_find q1_cX9_find 8 (o := 46) rfl)
theorem dX9_find_41 : decode cX9_find 41 = .ok (.invokevirtual 42, 3) := dc_182 (gB_c lq_cX9_find q1_cX9_find 9 (o := 182) rfl) (gB_c lq_cX9_find q1_cX9_find 10 (o := 0) rfl) (gB_c lq_cX9_find q1_cX9_find 11 (o := 42) rfl) rfl
theorem dX9_find_44 : decode cX9_find 44 = .ok (.aload_n 3, 1) := dc_45 (gB_c lq_cX9_find q1_cX9_find 12 (o := 45) rfl)
theorem dX9_find_45 : decode cX9_find 45 = .ok (.aload_n 0, 1) := dc_42 (gB_c lq_cX9_find q1_cX9_find 13 (o := 42) rfl)
theorem dX9_find_46 : decode cX9_find 46 = .ok (.getfield 24, 3) := dc_180 (gB_c lq_cX9_find q1_cX9_find 14 (o := 180) rfl) (gB_c lq_cX9_find q1_cX9_find 15 (o := 0) rfl) (gB_c lq_cX9_find q1_cX9_find 16 (o := 24) rfl) rfl
theorem dX9_find_49 : decode cX9_find 49 = .ok (.iconst 0, 1) := dc_3 (gB_c lq_cX9_find q1_cX9_find 17 (o := 3) rfl)
theorem dX9_find_50 : decode cX9_find 50 = .ok (.iaload, 1) := dc_46 (gB_c lq_cX9_find q1_cX9_find 18 (o := 46) rfl)
theorem dX9_find_51 : decode cX9_find 51 = .ok (.putfield 46, 3) := dc_181 (gB_c lq_cX9_find q1_cX9_find 19 (o := 181) rfl) (gB_c lq_cX9_find q1_cX9_find 20 (o := 0) rfl) (gB_c lq_cX9_find q1_cX9_find 21 (o := 46) rfl) rfl
theorem dX9_find_54 : decode cX9_find 54 = .ok (.aload_n 3, 1) := dc_45 (gB_c lq_cX9_find q1_cX9_find 22 (o := 45) rfl)
theorem dX9_find_55 : decode cX9_find 55 = .ok (.aload_n 0, 1) := dc_42 (gB_c lq_cX9_find q1_cX9_find 23 (o := 42) rfl)
theorem dX9_find_56 : decode cX9_find 56 = .ok (.aload_n 1, 1) := dc_43 (gB_c lq_cX9_find q1_cX9_find 24 (o := 43) rfl)
theorem dX9_find_57 : decode cX9_find 57 = .ok (.iload_n 2, 1) := dc_28 (gB_c lq_cX9_find q1_cX9_find 25 (o := 28) rfl)
theorem dX9_find_58 : decode cX9_find 58 = .ok (.iconst 0, 1) := dc_3 (gB_c lq_cX9_find q1_cX9_find 26 (o := 3) rfl)
theorem dX9_find_59 : decode cX9_find 59 = .ok (.aload_n 0, 1) := dc_42 (gB_c lq_cX9_find q1_cX9_find 27 (o := 42) rfl)
theorem dX9_find_60 : decode cX9_find 60 = .ok (.getfield 21, 3) := dc_180 (gB_c lq_cX9_find q1_cX9_find 28 (o := 180) rfl) (gB_c lq_cX9_find q1_cX9_find 29 (o := 0) rfl) (gB_c lq_cX9_find q1_cX9_find 30 (o := 21) rfl) rfl
theorem dX9_find_63 : decode cX9_find 63 = .ok (.iconst 0, 1) := dc_3 (gB_c lq_cX9_find q1_cX9_find 31 (o := 3) rfl)
theorem dX9_find_64 : decode cX9_find 64 = .ok (.iaload, 1) := dc_46 (gB_c lq_cX9_find q2_cX9_find 0 (o := 46) rfl)
theorem dX9_find_65 : decode cX9_find 65 = .ok (.invokevirtual 49, 3) := dc_182 (gB_c lq_cX9_find q2_cX9_find 1 (o := 182) rfl) (gB_c lq_cX9_find q2_cX9_find 2 (o := 0) rfl) (gB_c lq_cX9_find q2_cX9_find 3 (o := 49) rfl) rfl
theorem dX9_find_68 : decode cX9_find 68 = .ok (.putfield 53, 3) := dc_181 (gB_c lq_cX9_find q2_cX9_find 4 (o := 181) rfl) (gB_c lq_cX9_find q2_cX9_find 5 (o := 0) rfl) (gB_c lq_cX9_find q2_cX9_find 6 (o := 53) rfl) rfl
theorem dX9_find_71 : decode cX9_find 71 = .ok (.iconst 0, 1) := dc_3 (gB_c lq_cX9_find q2_cX9_find 7 (o := 3) rfl)
theorem dX9_find_72 : decode cX9_find 72 = .ok (.istore 4, 2) := dc_54 (gB_c lq_cX9_find q2_cX9_find 8 (o := 54) rfl) (gB_c lq_cX9_find q2_cX9_find 9 (o := 4) rfl)
theorem dX9_find_74 : decode cX9_find 74 = .ok (.iconst 0, 1) := dc_3 (gB_c lq_cX9_find q2_cX9_find 10 (o := 3) rfl)
theorem dX9_find_75 : decode cX9_find 75 = .ok (.istore 5, 2) := dc_54 (gB_c lq_cX9_find q2_cX9_find 11 (o := 54) rfl) (gB_c lq_cX9_find q2_cX9_find 12 (o := 5) rfl)
theorem dX9_find_77 : decode cX9_find 77 = .ok (.iload 5, 2) := dc_21 (gB_c lq_cX9_find q2_cX9_find 13 (o := 21) rfl) (gB_c lq_cX9_find q2_cX9_find 14 (o := 5) rfl)
theorem dX9_find_79 : decode cX9_find 79 = .ok (.aload_n 1, 1) := dc_43 (gB_c lq_cX9_find q2_cX9_find 15 (o := 43) rfl)
theorem dX9_find_80 : decode cX9_find 80 = .ok (.getfield 56, 3) := dc_180 (gB_c lq_cX9_find q2_cX9_find 16 (o := 180) rfl) (gB_c lq_cX9_find q2_cX9_find 17 (o := 0) rfl) (gB_c lq_cX9_find q2_cX9_find 18 (o := 56) rfl) rfl
theorem dX9_find_83 : decode cX9_find 83 = .ok (.if_icmp .ge 46, 3) := dc_162 (gB_c lq_cX9_find q2_cX9_find 19 (o := 162) rfl) (gB_c lq_cX9_find q2_cX9_find 20 (o := 0) rfl) (gB_c lq_cX9_find q2_cX9_find 21 (o := 46) rfl) rfl
theorem dX9_find_86 : decode cX9_find 86 = .ok (.aload_n 0, 1) := dc_42 (gB_c lq_cX9_find q2_cX9_find 22 (o := 42) rfl)
theorem dX9_find_87 : decode cX9_find 87 = .ok (.aload_n 1, 1) := dc_43 (gB_c lq_cX9_find q2_cX9_find 23 (o := 43) rfl)
theorem dX9_find_88 : decode cX9_find 88 = .ok (.iload_n 2, 1) := dc_28 (gB_c lq_cX9_find q2_cX9_find 24 (o := 28) rfl)
theorem dX9_find_89 : decode cX9_find 89 = .ok (.iload 4, 2) := dc_21 (gB_c lq_cX9_find q2_cX9_find 25 (o := 21) rfl) (gB_c lq_cX9_find q2_cX9_find 26 (o := 4) rfl)
theorem dX9_find_91 : decode cX9_find 91 = .ok (.aload_n 0, 1) := dc_42 (gB_c lq_cX9_find q2_cX9_find 27 (o := 42) rfl)
theorem dX9_find_92 : decode cX9_find 92 = .ok (.getfield 21, 3) := dc_180 (gB_c lq_cX9_find q2_cX9_find 28 (o := 180) rfl) (gB_c lq_cX9_find q2_cX9_find 29 (o := 0) rfl) (gB_c lq_cX9_find q2_cX9_find 30 (o := 21) rfl) rfl
theorem dX9_find_95 : decode cX9_find 95 = .ok (.iconst 0, 1) := dc_3 (gB_c lq_cX9_find q2_cX9_find 31 (o := 3) rfl)
theorem dX9_find_96 : decode cX9_find 96 = .ok (.iaload, 1) := dc_46 (gB_c lq_cX9_find q3_cX9_find 0 (o := 46) rfl)
theorem dX9_find_97 : decode cX9_find 97 = .ok (.invokevirtual 49, 3) := dc_182 (gB_c lq_cX9_find q3_cX9_find 1 (o := 182) rfl) (gB_c lq_cX9_find q3_cX9_find 2 (o := 0) rfl) (gB_c lq_cX9_find q3_cX9_find 3 (o := 49) rfl) rfl
theorem dX9_find_100 : decode cX9_find 100 = .ok (.invokestatic 61, 3) := dc_184 (gB_c lq_cX9_find q3_cX9_find 4 (o := 184) rfl) (gB_c lq_cX9_find q3_cX9_find 5 (o := 0) rfl) (gB_c lq_cX9_find q3_cX9_find 6 (o := 61) rfl) rfl
theorem dX9_find_103 : decode cX9_find 103 = .ok (.istore 6, 2) := dc_54 (gB_c lq_cX9_find q3_cX9_find 7 (o := 54) rfl) (gB_c lq_cX9_find q3_cX9_find 8 (o := 6) rfl)
theorem dX9_find_105 : decode cX9_find 105 = .ok (.aload_n 3, 1) := dc_45 (gB_c lq_cX9_find q3_cX9_find 9 (o := 45) rfl)
theorem dX9_find_106 : decode cX9_find 106 = .ok (.getfield 65, 3) := dc_180 (gB_c lq_cX9_find q3_cX9_find 10 (o := 180) rfl) (gB_c lq_cX9_find q3_cX9_find 11 (o := 0) rfl) (gB_c lq_cX9_find q3_cX9_find 12 (o := 65) rfl) rfl
theorem dX9_find_109 : decode cX9_find 109 = .ok (.iload 5, 2) := dc_21 (gB_c lq_cX9_find q3_cX9_find 13 (o := 21) rfl) (gB_c lq_cX9_find q3_cX9_find 14 (o := 5) rfl)
theorem dX9_find_111 : decode cX9_find 111 = .ok (.iload 6, 2) := dc_21 (gB_c lq_cX9_find q3_cX9_find 15 (o := 21) rfl) (gB_c lq_cX9_find q3_cX9_find 16 (o := 6) rfl)
theorem dX9_find_113 : decode cX9_find 113 = .ok (.iastore, 1) := dc_79 (gB_c lq_cX9_find q3_cX9_find 17 (o := 79) rfl)
theorem dX9_find_114 : decode cX9_find 114 = .ok (.iload 4, 2) := dc_21 (gB_c lq_cX9_find q3_cX9_find 18 (o := 21) rfl) (gB_c lq_cX9_find q3_cX9_find 19 (o := 4) rfl)
theorem dX9_find_116 : decode cX9_find 116 = .ok (.iconst 1, 1) := dc_4 (gB_c lq_cX9_find q3_cX9_find 20 (o := 4) rfl)
theorem dX9_find_117 : decode cX9_find 117 = .ok (.iload 6, 2) := dc_21 (gB_c lq_cX9_find q3_cX9_find 21 (o := 21) rfl) (gB_c lq_cX9_find q3_cX9_find 22 (o := 6) rfl)
theorem dX9_find_119 : decode cX9_find 119 = .ok (.ishl, 1) := dc_120 (gB_c lq_cX9_find q3_cX9_find 23 (o := 120) rfl)
theorem dX9_find_120 : decode cX9_find 120 = .ok (.ior, 1) := dc_128 (gB_c lq_cX9_find q3_cX9_find 24 (o := 128) rfl)
theorem dX9_find_121 : decode cX9_find 121 = .ok (.istore 4, 2) := dc_54 (gB_c lq_cX9_find q3_cX9_find 25 (o := 54) rfl) (gB_c lq_cX9_find q3_cX9_find 26 (o := 4) rfl)
theorem dX9_find_123 : decode cX9_find 123 = .ok (.iinc 5 1, 3) := dc_132 (gB_c lq_cX9_find q3_cX9_find 27 (o := 132) rfl) (gB_c lq_cX9_find q3_cX9_find 28 (o := 5) rfl) (gB_c lq_cX9_find q3_cX9_find 29 (o := 1) rfl) rfl
theorem dX9_find_126 : decode cX9_find 126 = .ok (.goto (-49), 3) := dc_167 (gB_c lq_cX9_find q3_cX9_find 30 (o := 167) rfl) (gB_c lq_cX9_find q3_cX9_find 31 (o := 255) rfl) (gB_c lq_cX9_find q4_cX9_find 0 (o := 207) rfl) rfl
theorem dX9_find_129 : decode cX9_find 129 = .ok (.return_, 1) := dc_177 (gB_c lq_cX9_find q4_cX9_find 1 (o := 177) rfl)
abbrev r2_cX9_fits : List Nat := [0, 4, 3, 172]
def a1_cX9_fits : List Nat := [0, 7, 4, 167, 0, 4, 3, 172, 21, 5, 42, 180, 0, 21, 28, 4, 29, 120, 128, 46, 96, 42, 180, 0, 21, 28, 46, 160, 0, 7, 4, 167]
abbrev r1_cX9_fits : List Nat := a1_cX9_fits ++ r2_cX9_fits
def a0_cX9_fits : List Nat := [42, 180, 0, 11, 28, 16, 9, 104, 29, 96, 46, 54, 5, 27, 153, 0, 13, 27, 4, 159, 0, 8, 27, 8, 160, 0, 16, 21, 5, 21, 4, 163]
abbrev r0_cX9_fits : List Nat := a0_cX9_fits ++ r1_cX9_fits
theorem lq_cX9_fits : (cX9_fits).data.toList.map UInt8.toNat = r0_cX9_fits := by decide +kernel
theorem q1_cX9_fits : ∀ i, (r0_cX9_fits)[32 + i]? = (r1_cX9_fits)[i]? := chn (A := a0_cX9_fits) (B := r1_cX9_fits) (n := 0) (k := 32) rfl (ch0 (R := r0_cX9_fits))
theorem q2_cX9_fits : ∀ i, (r0_cX9_fits)[64 + i]? = (r2_cX9_fits)[i]? := chn (A := a1_cX9_fits) (B := r2_cX9_fits) (n := 32) (k := 32) rfl q1_cX9_fits
theorem dX9_fits_0 : decode cX9_fits 0 = .ok (.aload_n 0, 1) := dc_42 (gB_l lq_cX9_fits (p := 0) (o := 42) rfl)
theorem dX9_fits_1 : decode cX9_fits 1 = .ok (.getfield 11, 3) := dc_180 (gB_l lq_cX9_fits (p := 1) (o := 180) rfl) (gB_l lq_cX9_fits (p := 2) (o := 0) rfl) (gB_l lq_cX9_fits (p := 3) (o := 11) rfl) rfl
theorem dX9_fits_4 : decode cX9_fits 4 = .ok (.iload_n 2, 1) := dc_28 (gB_l lq_cX9_fits (p := 4) (o := 28) rfl)
theorem dX9_fits_5 : decode cX9_fits 5 = .ok (.bipush 9, 2) := dc_16 (gB_l lq_cX9_fits (p := 5) (o := 16) rfl) (gB_l lq_cX9_fits (p := 6) (o := 9) rfl) rfl
theorem dX9_fits_7 : decode cX9_fits 7 = .ok (.imul, 1) := dc_104 (gB_l lq_cX9_fits (p := 7) (o := 104) rfl)
theorem dX9_fits_8 : decode cX9_fits 8 = .ok (.iload_n 3, 1) := dc_29 (gB_l lq_cX9_fits (p := 8) (o := 29) rfl)
theorem dX9_fits_9 : decode cX9_fits 9 = .ok (.iadd, 1) := dc_96 (gB_l lq_cX9_fits (p := 9) (o := 96) rfl)
theorem dX9_fits_10 : decode cX9_fits 10 = .ok (.iaload, 1) := dc_46 (gB_l lq_cX9_fits (p := 10) (o := 46) rfl)
theorem dX9_fits_11 : decode cX9_fits 11 = .ok (.istore 5, 2) := dc_54 (gB_l lq_cX9_fits (p := 11) (o := 54) rfl) (gB_l lq_cX9_fits (p := 12) (o := 5) rfl)
theorem dX9_fits_13 : decode cX9_fits 13 = .ok (.iload_n 1, 1) := dc_27 (gB_l lq_cX9_fits (p := 13) (o := 27) rfl)
theorem dX9_fits_14 : decode cX9_fits 14 = .ok (.ifCond .eq 13, 3) := dc_153 (gB_l lq_cX9_fits (p := 14) (o := 153) rfl) (gB_l lq_cX9_fits (p := 15) (o := 0) rfl) (gB_l lq_cX9_fits (p := 16) (o := 13) rfl) rfl
theorem dX9_fits_17 : decode cX9_fits 17 = .ok (.iload_n 1, 1) := dc_27 (gB_l lq_cX9_fits (p := 17) (o := 27) rfl)
theorem dX9_fits_18 : decode cX9_fits 18 = .ok (.iconst 1, 1) := dc_4 (gB_l lq_cX9_fits (p := 18) (o := 4) rfl)
theorem dX9_fits_19 : decode cX9_fits 19 = .ok (.if_icmp .eq 8, 3) := dc_159 (gB_l lq_cX9_fits (p := 19) (o := 159) rfl) (gB_l lq_cX9_fits (p := 20) (o := 0) rfl) (gB_l lq_cX9_fits (p := 21) (o := 8) rfl) rfl
theorem dX9_fits_22 : decode cX9_fits 22 = .ok (.iload_n 1, 1) := dc_27 (gB_l lq_cX9_fits (p := 22) (o := 27) rfl)
theorem dX9_fits_23 : decode cX9_fits 23 = .ok (.iconst 5, 1) := dc_8 (gB_l lq_cX9_fits (p := 23) (o := 8) rfl)
theorem dX9_fits_24 : decode cX9_fits 24 = .ok (.if_icmp .ne 16, 3) := dc_160 (gB_l lq_cX9_fits (p := 24) (o := 160) rfl) (gB_l lq_cX9_fits (p := 25) (o := 0) rfl) (gB_l lq_cX9_fits (p := 26) (o := 16) rfl) rfl
theorem dX9_fits_27 : decode cX9_fits 27 = .ok (.iload 5, 2) := dc_21 (gB_l lq_cX9_fits (p := 27) (o := 21) rfl) (gB_l lq_cX9_fits (p := 28) (o := 5) rfl)
theorem dX9_fits_29 : decode cX9_fits 29 = .ok (.iload 4, 2) := dc_21 (gB_l lq_cX9_fits (p := 29) (o := 21) rfl) (gB_l lq_cX9_fits (p := 30) (o := 4) rfl)
theorem dX9_fits_31 : decode cX9_fits 31 = .ok (.if_icmp .gt 7, 3) := dc_163 (gB_l lq_cX9_fits (p := 31) (o := 163) rfl) (gB_c lq_cX9_fits q1_cX9_fits 0 (o := 0) rfl) (gB_c lq_cX9_fits q1_cX9_fits 1 (o := 7) rfl) rfl
theorem dX9_fits_34 : decode cX9_fits 34 = .ok (.iconst 1, 1) := dc_4 (gB_c lq_cX9_fits q1_cX9_fits 2 (o := 4) rfl)
theorem dX9_fits_35 : decode cX9_fits 35 = .ok (.goto 4, 3) := dc_167 (gB_c lq_cX9_fits q1_cX9_fits 3 (o := 167) rfl) (gB_c lq_cX9_fits q1_cX9_fits 4 (o := 0) rfl) (gB_c lq_cX9_fits q1_cX9_fits 5 (o := 4) rfl) rfl
theorem dX9_fits_38 : decode cX9_fits 38 = .ok (.iconst 0, 1) := dc_3 (gB_c lq_cX9_fits q1_cX9_fits 6 (o := 3) rfl)
theorem dX9_fits_39 : decode cX9_fits 39 = .ok (.ireturn, 1) := dc_172 (gB_c lq_cX9_fits q1_cX9_fits 7 (o := 172) rfl)
theorem dX9_fits_40 : decode cX9_fits 40 = .ok (.iload 5, 2) := dc_21 (gB_c lq_cX9_fits q1_cX9_fits 8 (o := 21) rfl) (gB_c lq_cX9_fits q1_cX9_fits 9 (o := 5) rfl)
theorem dX9_fits_42 : decode cX9_fits 42 = .ok (.aload_n 0, 1) := dc_42 (gB_c lq_cX9_fits q1_cX9_fits 10 (o := 42) rfl)
theorem dX9_fits_43 : decode cX9_fits 43 = .ok (.getfield 21, 3) := dc_180 (gB_c lq_cX9_fits q1_cX9_fits 11 (o := 180) rfl) (gB_c lq_cX9_fits q1_cX9_fits 12 (o := 0) rfl) (gB_c lq_cX9_fits q1_cX9_fits 13 (o := 21) rfl) rfl
theorem dX9_fits_46 : decode cX9_fits 46 = .ok (.iload_n 2, 1) := dc_28 (gB_c lq_cX9_fits q1_cX9_fits 14 (o := 28) rfl)
theorem dX9_fits_47 : decode cX9_fits 47 = .ok (.iconst 1, 1) := dc_4 (gB_c lq_cX9_fits q1_cX9_fits 15 (o := 4) rfl)
theorem dX9_fits_48 : decode cX9_fits 48 = .ok (.iload_n 3, 1) := dc_29 (gB_c lq_cX9_fits q1_cX9_fits 16 (o := 29) rfl)
theorem dX9_fits_49 : decode cX9_fits 49 = .ok (.ishl, 1) := dc_120 (gB_c lq_cX9_fits q1_cX9_fits 17 (o := 120) rfl)
theorem dX9_fits_50 : decode cX9_fits 50 = .ok (.ior, 1) := dc_128 (gB_c lq_cX9_fits q1_cX9_fits 18 (o := 128) rfl)
theorem dX9_fits_51 : decode cX9_fits 51 = .ok (.iaload, 1) := dc_46 (gB_c lq_cX9_fits q1_cX9_fits 19 (o := 46) rfl)
theorem dX9_fits_52 : decode cX9_fits 52 = .ok (.iadd, 1) := dc_96 (gB_c lq_cX9_fits q1_cX9_fits 20 (o := 96) rfl)
theorem dX9_fits_53 : decode cX9_fits 53 = .ok (.aload_n 0, 1) := dc_42 (gB_c lq_cX9_fits q1_cX9_fits 21 (o := 42) rfl)
theorem dX9_fits_54 : decode cX9_fits 54 = .ok (.getfield 21, 3) := dc_180 (gB_c lq_cX9_fits q1_cX9_fits 22 (o := 180) rfl) (gB_c lq_cX9_fits q1_cX9_fits 23 (o := 0) rfl) (gB_c lq_cX9_fits q1_cX9_fits 24 (o := 21) rfl) rfl
theorem dX9_fits_57 : decode cX9_fits 57 = .ok (.iload_n 2, 1) := dc_28 (gB_c lq_cX9_fits q1_cX9_fits 25 (o := 28) rfl)
theorem dX9_fits_58 : decode cX9_fits 58 = .ok (.iaload, 1) := dc_46 (gB_c lq_cX9_fits q1_cX9_fits 26 (o := 46) rfl)
theorem dX9_fits_59 : decode cX9_fits 59 = .ok (.if_icmp .ne 7, 3) := dc_160 (gB_c lq_cX9_fits q1_cX9_fits 27 (o := 160) rfl) (gB_c lq_cX9_fits q1_cX9_fits 28 (o := 0) rfl) (gB_c lq_cX9_fits q1_cX9_fits 29 (o := 7) rfl) rfl
theorem dX9_fits_62 : decode cX9_fits 62 = .ok (.iconst 1, 1) := dc_4 (gB_c lq_cX9_fits q1_cX9_fits 30 (o := 4) rfl)
theorem dX9_fits_63 : decode cX9_fits 63 = .ok (.goto 4, 3) := dc_167 (gB_c lq_cX9_fits q1_cX9_fits 31 (o := 167) rfl) (gB_c lq_cX9_fits q2_cX9_fits 0 (o := 0) rfl) (gB_c lq_cX9_fits q2_cX9_fits 1 (o := 4) rfl) rfl
theorem dX9_fits_66 : decode cX9_fits 66 = .ok (.iconst 0, 1) := dc_3 (gB_c lq_cX9_fits q2_cX9_fits 2 (o := 3) rfl)
theorem dX9_fits_67 : decode cX9_fits 67 = .ok (.ireturn, 1) := dc_172 (gB_c lq_cX9_fits q2_cX9_fits 3 (o := 172) rfl)
abbrev r1_cX9_init : List Nat := [17, 2, 0, 188, 10, 181, 0, 21, 42, 17, 2, 0, 188, 10, 181, 0, 24, 177]
def a0_cX9_init : List Nat := [42, 183, 0, 3, 42, 17, 18, 0, 188, 10, 181, 0, 11, 42, 17, 18, 0, 188, 10, 181, 0, 15, 42, 17, 18, 0, 188, 10, 181, 0, 18, 42]
abbrev r0_cX9_init : List Nat := a0_cX9_init ++ r1_cX9_init
theorem lq_cX9_init : (cX9_init).data.toList.map UInt8.toNat = r0_cX9_init := by decide +kernel
theorem q1_cX9_init : ∀ i, (r0_cX9_init)[32 + i]? = (r1_cX9_init)[i]? := chn (A := a0_cX9_init) (B := r1_cX9_init) (n := 0) (k := 32) rfl (ch0 (R := r0_cX9_init))
theorem dX9_init_0 : decode cX9_init 0 = .ok (.aload_n 0, 1) := dc_42 (gB_l lq_cX9_init (p := 0) (o := 42) rfl)
theorem dX9_init_1 : decode cX9_init 1 = .ok (.invokespecial 3, 3) := dc_183 (gB_l lq_cX9_init (p := 1) (o := 183) rfl) (gB_l lq_cX9_init (p := 2) (o := 0) rfl) (gB_l lq_cX9_init (p := 3) (o := 3) rfl) rfl
theorem dX9_init_4 : decode cX9_init 4 = .ok (.aload_n 0, 1) := dc_42 (gB_l lq_cX9_init (p := 4) (o := 42) rfl)
theorem dX9_init_5 : decode cX9_init 5 = .ok (.sipush 4608, 3) := dc_17 (gB_l lq_cX9_init (p := 5) (o := 17) rfl) (gB_l lq_cX9_init (p := 6) (o := 18) rfl) (gB_l lq_cX9_init (p := 7) (o := 0) rfl) rfl
theorem dX9_init_8 : decode cX9_init 8 = .ok (.newarray .int, 2) := dn_10 (gB_l lq_cX9_init (p := 8) (o := 188) rfl) (gB_l lq_cX9_init (p := 9) (o := 10) rfl)
theorem dX9_init_10 : decode cX9_init 10 = .ok (.putfield 11, 3) := dc_181 (gB_l lq_cX9_init (p := 10) (o := 181) rfl) (gB_l lq_cX9_init (p := 11) (o := 0) rfl) (gB_l lq_cX9_init (p := 12) (o := 11) rfl) rfl
theorem dX9_init_13 : decode cX9_init 13 = .ok (.aload_n 0, 1) := dc_42 (gB_l lq_cX9_init (p := 13) (o := 42) rfl)
theorem dX9_init_14 : decode cX9_init 14 = .ok (.sipush 4608, 3) := dc_17 (gB_l lq_cX9_init (p := 14) (o := 17) rfl) (gB_l lq_cX9_init (p := 15) (o := 18) rfl) (gB_l lq_cX9_init (p := 16) (o := 0) rfl) rfl
theorem dX9_init_17 : decode cX9_init 17 = .ok (.newarray .int, 2) := dn_10 (gB_l lq_cX9_init (p := 17) (o := 188) rfl) (gB_l lq_cX9_init (p := 18) (o := 10) rfl)
theorem dX9_init_19 : decode cX9_init 19 = .ok (.putfield 15, 3) := dc_181 (gB_l lq_cX9_init (p := 19) (o := 181) rfl) (gB_l lq_cX9_init (p := 20) (o := 0) rfl) (gB_l lq_cX9_init (p := 21) (o := 15) rfl) rfl
theorem dX9_init_22 : decode cX9_init 22 = .ok (.aload_n 0, 1) := dc_42 (gB_l lq_cX9_init (p := 22) (o := 42) rfl)
theorem dX9_init_23 : decode cX9_init 23 = .ok (.sipush 4608, 3) := dc_17 (gB_l lq_cX9_init (p := 23) (o := 17) rfl) (gB_l lq_cX9_init (p := 24) (o := 18) rfl) (gB_l lq_cX9_init (p := 25) (o := 0) rfl) rfl
theorem dX9_init_26 : decode cX9_init 26 = .ok (.newarray .int, 2) := dn_10 (gB_l lq_cX9_init (p := 26) (o := 188) rfl) (gB_l lq_cX9_init (p := 27) (o := 10) rfl)
theorem dX9_init_28 : decode cX9_init 28 = .ok (.putfield 18, 3) := dc_181 (gB_l lq_cX9_init (p := 28) (o := 181) rfl) (gB_l lq_cX9_init (p := 29) (o := 0) rfl) (gB_l lq_cX9_init (p := 30) (o := 18) rfl) rfl
theorem dX9_init_31 : decode cX9_init 31 = .ok (.aload_n 0, 1) := dc_42 (gB_l lq_cX9_init (p := 31) (o := 42) rfl)
theorem dX9_init_32 : decode cX9_init 32 = .ok (.sipush 512, 3) := dc_17 (gB_c lq_cX9_init q1_cX9_init 0 (o := 17) rfl) (gB_c lq_cX9_init q1_cX9_init 1 (o := 2) rfl) (gB_c lq_cX9_init q1_cX9_init 2 (o := 0) rfl) rfl
theorem dX9_init_35 : decode cX9_init 35 = .ok (.newarray .int, 2) := dn_10 (gB_c lq_cX9_init q1_cX9_init 3 (o := 188) rfl) (gB_c lq_cX9_init q1_cX9_init 4 (o := 10) rfl)
theorem dX9_init_37 : decode cX9_init 37 = .ok (.putfield 21, 3) := dc_181 (gB_c lq_cX9_init q1_cX9_init 5 (o := 181) rfl) (gB_c lq_cX9_init q1_cX9_init 6 (o := 0) rfl) (gB_c lq_cX9_init q1_cX9_init 7 (o := 21) rfl) rfl
theorem dX9_init_40 : decode cX9_init 40 = .ok (.aload_n 0, 1) := dc_42 (gB_c lq_cX9_init q1_cX9_init 8 (o := 42) rfl)
theorem dX9_init_41 : decode cX9_init 41 = .ok (.sipush 512, 3) := dc_17 (gB_c lq_cX9_init q1_cX9_init 9 (o := 17) rfl) (gB_c lq_cX9_init q1_cX9_init 10 (o := 2) rfl) (gB_c lq_cX9_init q1_cX9_init 11 (o := 0) rfl) rfl
theorem dX9_init_44 : decode cX9_init 44 = .ok (.newarray .int, 2) := dn_10 (gB_c lq_cX9_init q1_cX9_init 12 (o := 188) rfl) (gB_c lq_cX9_init q1_cX9_init 13 (o := 10) rfl)
theorem dX9_init_46 : decode cX9_init 46 = .ok (.putfield 24, 3) := dc_181 (gB_c lq_cX9_init q1_cX9_init 14 (o := 181) rfl) (gB_c lq_cX9_init q1_cX9_init 15 (o := 0) rfl) (gB_c lq_cX9_init q1_cX9_init 16 (o := 24) rfl) rfl
theorem dX9_init_49 : decode cX9_init 49 = .ok (.return_, 1) := dc_177 (gB_c lq_cX9_init q1_cX9_init 17 (o := 177) rfl)
abbrev r2_cX9_leadersFrom : List Nat := [255, 199, 21, 5, 172]
def a1_cX9_leadersFrom : List Nat := [120, 128, 46, 158, 0, 25, 42, 28, 29, 21, 6, 21, 4, 182, 0, 113, 153, 0, 12, 21, 5, 4, 21, 6, 120, 128, 54, 5, 132, 6, 1, 167]
abbrev r1_cX9_leadersFrom : List Nat := a1_cX9_leadersFrom ++ r2_cX9_leadersFrom
def a0_cX9_leadersFrom : List Nat := [3, 54, 5, 3, 54, 6, 21, 6, 43, 180, 0, 56, 162, 0, 54, 29, 21, 6, 122, 4, 126, 154, 0, 39, 42, 180, 0, 24, 29, 4, 21, 6]
abbrev r0_cX9_leadersFrom : List Nat := a0_cX9_leadersFrom ++ r1_cX9_leadersFrom
theorem lq_cX9_leadersFrom : (cX9_leadersFrom).data.toList.map UInt8.toNat = r0_cX9_leadersFrom := by decide +kernel
theorem q1_cX9_leadersFrom : ∀ i, (r0_cX9_leadersFrom)[32 + i]? = (r1_cX9_leadersFrom)[i]? := chn (A := a0_cX9_leadersFrom) (B := r1_cX9_leadersFrom) (n := 0) (k := 32) rfl (ch0 (R := r0_cX9_leadersFrom))
theorem q2_cX9_leadersFrom : ∀ i, (r0_cX9_leadersFrom)[64 + i]? = (r2_cX9_leadersFrom)[i]? := chn (A := a1_cX9_leadersFrom) (B := r2_cX9_leadersFrom) (n := 32) (k := 32) rfl q1_cX9_leadersFrom
theorem dX9_leadersFrom_0 : decode cX9_leadersFrom 0 = .ok (.iconst 0, 1) := dc_3 (gB_l lq_cX9_leadersFrom (p := 0) (o := 3) rfl)
theorem dX9_leadersFrom_1 : decode cX9_leadersFrom 1 = .ok (.istore 5, 2) := dc_54 (gB_l lq_cX9_leadersFrom (p := 1) (o := 54) rfl) (gB_l lq_cX9_leadersFrom (p := 2) (o := 5) rfl)
theorem dX9_leadersFrom_3 : decode cX9_leadersFrom 3 = .ok (.iconst 0, 1) := dc_3 (gB_l lq_cX9_leadersFrom (p := 3) (o := 3) rfl)
theorem dX9_leadersFrom_4 : decode cX9_leadersFrom 4 = .ok (.istore 6, 2) := dc_54 (gB_l lq_cX9_leadersFrom (p := 4) (o := 54) rfl) (gB_l lq_cX9_leadersFrom (p := 5) (o := 6) rfl)
theorem dX9_leadersFrom_6 : decode cX9_leadersFrom 6 = .ok (.iload 6, 2) := dc_21 (gB_l lq_cX9_leadersFrom (p := 6) (o := 21) rfl) (gB_l lq_cX9_leadersFrom (p := 7) (o := 6) rfl)
theorem dX9_leadersFrom_8 : decode cX9_leadersFrom 8 = .ok (.aload_n 1, 1) := dc_43 (gB_l lq_cX9_leadersFrom (p := 8) (o := 43) rfl)
theorem dX9_leadersFrom_9 : decode cX9_leadersFrom 9 = .ok (.getfield 56, 3) := dc_180 (gB_l lq_cX9_leadersFrom (p := 9) (o := 180) rfl) (gB_l lq_cX9_leadersFrom (p := 10) (o := 0) rfl) (gB_l lq_cX9_leadersFrom (p := 11) (o := 56) rfl) rfl
theorem dX9_leadersFrom_12 : decode cX9_leadersFrom 12 = .ok (.if_icmp .ge 54, 3) := dc_162 (gB_l lq_cX9_leadersFrom (p := 12) (o := 162) rfl) (gB_l lq_cX9_leadersFrom (p := 13) (o := 0) rfl) (gB_l lq_cX9_leadersFrom (p := 14) (o := 54) rfl) rfl
theorem dX9_leadersFrom_15 : decode cX9_leadersFrom 15 = .ok (.iload_n 3, 1) := dc_29 (gB_l lq_cX9_leadersFrom (p := 15) (o := 29) rfl)
theorem dX9_leadersFrom_16 : decode cX9_leadersFrom 16 = .ok (.iload 6, 2) := dc_21 (gB_l lq_cX9_leadersFrom (p := 16) (o := 21) rfl) (gB_l lq_cX9_leadersFrom (p := 17) (o := 6) rfl)
theorem dX9_leadersFrom_18 : decode cX9_leadersFrom 18 = .ok (.ishr, 1) := dc_122 (gB_l lq_cX9_leadersFrom (p := 18) (o := 122) rfl)
theorem dX9_leadersFrom_19 : decode cX9_leadersFrom 19 = .ok (.iconst 1, 1) := dc_4 (gB_l lq_cX9_leadersFrom (p := 19) (o := 4) rfl)
theorem dX9_leadersFrom_20 : decode cX9_leadersFrom 20 = .ok (.iand, 1) := dc_126 (gB_l lq_cX9_leadersFrom (p := 20) (o := 126) rfl)
theorem dX9_leadersFrom_21 : decode cX9_leadersFrom 21 = .ok (.ifCond .ne 39, 3) := dc_154 (gB_l lq_cX9_leadersFrom (p := 21) (o := 154) rfl) (gB_l lq_cX9_leadersFrom (p := 22) (o := 0) rfl) (gB_l lq_cX9_leadersFrom (p := 23) (o := 39) rfl) rfl
theorem dX9_leadersFrom_24 : decode cX9_leadersFrom 24 = .ok (.aload_n 0, 1) := dc_42 (gB_l lq_cX9_leadersFrom (p := 24) (o := 42) rfl)
theorem dX9_leadersFrom_25 : decode cX9_leadersFrom 25 = .ok (.getfield 24, 3) := dc_180 (gB_l lq_cX9_leadersFrom (p := 25) (o := 180) rfl) (gB_l lq_cX9_leadersFrom (p := 26) (o := 0) rfl) (gB_l lq_cX9_leadersFrom (p := 27) (o := 24) rfl) rfl
theorem dX9_leadersFrom_28 : decode cX9_leadersFrom 28 = .ok (.iload_n 3, 1) := dc_29 (gB_l lq_cX9_leadersFrom (p := 28) (o := 29) rfl)
theorem dX9_leadersFrom_29 : decode cX9_leadersFrom 29 = .ok (.iconst 1, 1) := dc_4 (gB_l lq_cX9_leadersFrom (p := 29) (o := 4) rfl)
theorem dX9_leadersFrom_30 : decode cX9_leadersFrom 30 = .ok (.iload 6, 2) := dc_21 (gB_l lq_cX9_leadersFrom (p := 30) (o := 21) rfl) (gB_l lq_cX9_leadersFrom (p := 31) (o := 6) rfl)
theorem dX9_leadersFrom_32 : decode cX9_leadersFrom 32 = .ok (.ishl, 1) := dc_120 (gB_c lq_cX9_leadersFrom q1_cX9_leadersFrom 0 (o := 120) rfl)
theorem dX9_leadersFrom_33 : decode cX9_leadersFrom 33 = .ok (.ior, 1) := dc_128 (gB_c lq_cX9_leadersFrom q1_cX9_leadersFrom 1 (o := 128) rfl)
theorem dX9_leadersFrom_34 : decode cX9_leadersFrom 34 = .ok (.iaload, 1) := dc_46 (gB_c lq_cX9_leadersFrom q1_cX9_leadersFrom 2 (o := 46) rfl)
theorem dX9_leadersFrom_35 : decode cX9_leadersFrom 35 = .ok (.ifCond .le 25, 3) := dc_158 (gB_c lq_cX9_leadersFrom q1_cX9_leadersFrom 3 (o := 158) rfl) (gB_c lq_cX9_leadersFrom q1_cX9_leadersFrom 4 (o := 0) rfl) (gB_c lq_cX9_leadersFrom q1_cX9_leadersFrom 5 (o := 25) rfl) rfl
theorem dX9_leadersFrom_38 : decode cX9_leadersFrom 38 = .ok (.aload_n 0, 1) := dc_42 (gB_c lq_cX9_leadersFrom q1_cX9_leadersFrom 6 (o := 42) rfl)
theorem dX9_leadersFrom_39 : decode cX9_leadersFrom 39 = .ok (.iload_n 2, 1) := dc_28 (gB_c lq_cX9_leadersFrom q1_cX9_leadersFrom 7 (o := 28) rfl)
theorem dX9_leadersFrom_40 : decode cX9_leadersFrom 40 = .ok (.iload_n 3, 1) := dc_29 (gB_c lq_cX9_leadersFrom q1_cX9_leadersFrom 8 (o := 29) rfl)
theorem dX9_leadersFrom_41 : decode cX9_leadersFrom 41 = .ok (.iload 6, 2) := dc_21 (gB_c lq_cX9_leadersFrom q1_cX9_leadersFrom 9 (o := 21) rfl) (gB_c lq_cX9_leadersFrom q1_cX9_leadersFrom 10 (o := 6) rfl)
theorem dX9_leadersFrom_43 : decode cX9_leadersFrom 43 = .ok (.iload 4, 2) := dc_21 (gB_c lq_cX9_leadersFrom q1_cX9_leadersFrom 11 (o := 21) rfl) (gB_c lq_cX9_leadersFrom q1_cX9_leadersFrom 12 (o := 4) rfl)
theorem dX9_leadersFrom_45 : decode cX9_leadersFrom 45 = .ok (.invokevirtual 113, 3) := dc_182 (gB_c lq_cX9_leadersFrom q1_cX9_leadersFrom 13 (o := 182) rfl) (gB_c lq_cX9_leadersFrom q1_cX9_leadersFrom 14 (o := 0) rfl) (gB_c lq_cX9_leadersFrom q1_cX9_leadersFrom 15 (o := 113) rfl) rfl
theorem dX9_leadersFrom_48 : decode cX9_leadersFrom 48 = .ok (.ifCond .eq 12, 3) := dc_153 (gB_c lq_cX9_leadersFrom q1_cX9_leadersFrom 16 (o := 153) rfl) (gB_c lq_cX9_leadersFrom q1_cX9_leadersFrom 17 (o := 0) rfl) (gB_c lq_cX9_leadersFrom q1_cX9_leadersFrom 18 (o := 12) rfl) rfl
theorem dX9_leadersFrom_51 : decode cX9_leadersFrom 51 = .ok (.iload 5, 2) := dc_21 (gB_c lq_cX9_leadersFrom q1_cX9_leadersFrom 19 (o := 21) rfl) (gB_c lq_cX9_leadersFrom q1_cX9_leadersFrom 20 (o := 5) rfl)
theorem dX9_leadersFrom_53 : decode cX9_leadersFrom 53 = .ok (.iconst 1, 1) := dc_4 (gB_c lq_cX9_leadersFrom q1_cX9_leadersFrom 21 (o := 4) rfl)
theorem dX9_leadersFrom_54 : decode cX9_leadersFrom 54 = .ok (.iload 6, 2) := dc_21 (gB_c lq_cX9_leadersFrom q1_cX9_leadersFrom 22 (o := 21) rfl) (gB_c lq_cX9_leadersFrom q1_cX9_leadersFrom 23 (o := 6) rfl)
theorem dX9_leadersFrom_56 : decode cX9_leadersFrom 56 = .ok (.ishl, 1) := dc_120 (gB_c lq_cX9_leadersFrom q1_cX9_leadersFrom 24 (o := 120) rfl)
theorem dX9_leadersFrom_57 : decode cX9_leadersFrom 57 = .ok (.ior, 1) := dc_128 (gB_c lq_cX9_leadersFrom q1_cX9_leadersFrom 25 (o := 128) rfl)
theorem dX9_leadersFrom_58 : decode cX9_leadersFrom 58 = .ok (.istore 5, 2) := dc_54 (gB_c lq_cX9_leadersFrom q1_cX9_leadersFrom 26 (o := 54) rfl) (gB_c lq_cX9_leadersFrom q1_cX9_leadersFrom 27 (o := 5) rfl)
theorem dX9_leadersFrom_60 : decode cX9_leadersFrom 60 = .ok (.iinc 6 1, 3) := dc_132 (gB_c lq_cX9_leadersFrom q1_cX9_leadersFrom 28 (o := 132) rfl) (gB_c lq_cX9_leadersFrom q1_cX9_leadersFrom 29 (o := 6) rfl) (gB_c lq_cX9_leadersFrom q1_cX9_leadersFrom 30 (o := 1) rfl) rfl
theorem dX9_leadersFrom_63 : decode cX9_leadersFrom 63 = .ok (.goto (-57), 3) := dc_167 (gB_c lq_cX9_leadersFrom q1_cX9_leadersFrom 31 (o := 167) rfl) (gB_c lq_cX9_leadersFrom q2_cX9_leadersFrom 0 (o := 255) rfl) (gB_c lq_cX9_leadersFrom q2_cX9_leadersFrom 1 (o := 199) rfl) rfl
theorem dX9_leadersFrom_66 : decode cX9_leadersFrom 66 = .ok (.iload 5, 2) := dc_21 (gB_c lq_cX9_leadersFrom q2_cX9_leadersFrom 2 (o := 21) rfl) (gB_c lq_cX9_leadersFrom q2_cX9_leadersFrom 3 (o := 5) rfl)
theorem dX9_leadersFrom_68 : decode cX9_leadersFrom 68 = .ok (.ireturn, 1) := dc_172 (gB_c lq_cX9_leadersFrom q2_cX9_leadersFrom 4 (o := 172) rfl)
abbrev r1_cX9_leastWhere : List Nat := [42, 180, 0, 21, 3, 46, 172]
def a0_cX9_leastWhere : List Nat := [42, 43, 29, 42, 180, 0, 15, 182, 0, 27, 42, 43, 28, 42, 180, 0, 11, 182, 0, 27, 42, 43, 28, 42, 180, 0, 15, 21, 4, 182, 0, 32]
abbrev r0_cX9_leastWhere : List Nat := a0_cX9_leastWhere ++ r1_cX9_leastWhere
theorem lq_cX9_leastWhere : (cX9_leastWhere).data.toList.map UInt8.toNat = r0_cX9_leastWhere := by decide +kernel
theorem q1_cX9_leastWhere : ∀ i, (r0_cX9_leastWhere)[32 + i]? = (r1_cX9_leastWhere)[i]? := chn (A := a0_cX9_leastWhere) (B := r1_cX9_leastWhere) (n := 0) (k := 32) rfl (ch0 (R := r0_cX9_leastWhere))
theorem dX9_leastWhere_0 : decode cX9_leastWhere 0 = .ok (.aload_n 0, 1) := dc_42 (gB_l lq_cX9_leastWhere (p := 0) (o := 42) rfl)
theorem dX9_leastWhere_1 : decode cX9_leastWhere 1 = .ok (.aload_n 1, 1) := dc_43 (gB_l lq_cX9_leastWhere (p := 1) (o := 43) rfl)
theorem dX9_leastWhere_2 : decode cX9_leastWhere 2 = .ok (.iload_n 3, 1) := dc_29 (gB_l lq_cX9_leastWhere (p := 2) (o := 29) rfl)
theorem dX9_leastWhere_3 : decode cX9_leastWhere 3 = .ok (.aload_n 0, 1) := dc_42 (gB_l lq_cX9_leastWhere (p := 3) (o := 42) rfl)
theorem dX9_leastWhere_4 : decode cX9_leastWhere 4 = .ok (.getfield 15, 3) := dc_180 (gB_l lq_cX9_leastWhere (p := 4) (o := 180) rfl) (gB_l lq_cX9_leastWhere (p := 5) (o := 0) rfl) (gB_l lq_cX9_leastWhere (p := 6) (o := 15) rfl) rfl
theorem dX9_leastWhere_7 : decode cX9_leastWhere 7 = .ok (.invokevirtual 27, 3) := dc_182 (gB_l lq_cX9_leastWhere (p := 7) (o := 182) rfl) (gB_l lq_cX9_leastWhere (p := 8) (o := 0) rfl) (gB_l lq_cX9_leastWhere (p := 9) (o := 27) rfl) rfl
theorem dX9_leastWhere_10 : decode cX9_leastWhere 10 = .ok (.aload_n 0, 1) := dc_42 (gB_l lq_cX9_leastWhere (p := 10) (o := 42) rfl)
theorem dX9_leastWhere_11 : decode cX9_leastWhere 11 = .ok (.aload_n 1, 1) := dc_43 (gB_l lq_cX9_leastWhere (p := 11) (o := 43) rfl)
theorem dX9_leastWhere_12 : decode cX9_leastWhere 12 = .ok (.iload_n 2, 1) := dc_28 (gB_l lq_cX9_leastWhere (p := 12) (o := 28) rfl)
theorem dX9_leastWhere_13 : decode cX9_leastWhere 13 = .ok (.aload_n 0, 1) := dc_42 (gB_l lq_cX9_leastWhere (p := 13) (o := 42) rfl)
theorem dX9_leastWhere_14 : decode cX9_leastWhere 14 = .ok (.getfield 11, 3) := dc_180 (gB_l lq_cX9_leastWhere (p := 14) (o := 180) rfl) (gB_l lq_cX9_leastWhere (p := 15) (o := 0) rfl) (gB_l lq_cX9_leastWhere (p := 16) (o := 11) rfl) rfl
theorem dX9_leastWhere_17 : decode cX9_leastWhere 17 = .ok (.invokevirtual 27, 3) := dc_182 (gB_l lq_cX9_leastWhere (p := 17) (o := 182) rfl) (gB_l lq_cX9_leastWhere (p := 18) (o := 0) rfl) (gB_l lq_cX9_leastWhere (p := 19) (o := 27) rfl) rfl
theorem dX9_leastWhere_20 : decode cX9_leastWhere 20 = .ok (.aload_n 0, 1) := dc_42 (gB_l lq_cX9_leastWhere (p := 20) (o := 42) rfl)
theorem dX9_leastWhere_21 : decode cX9_leastWhere 21 = .ok (.aload_n 1, 1) := dc_43 (gB_l lq_cX9_leastWhere (p := 21) (o := 43) rfl)
theorem dX9_leastWhere_22 : decode cX9_leastWhere 22 = .ok (.iload_n 2, 1) := dc_28 (gB_l lq_cX9_leastWhere (p := 22) (o := 28) rfl)
theorem dX9_leastWhere_23 : decode cX9_leastWhere 23 = .ok (.aload_n 0, 1) := dc_42 (gB_l lq_cX9_leastWhere (p := 23) (o := 42) rfl)
theorem dX9_leastWhere_24 : decode cX9_leastWhere 24 = .ok (.getfield 15, 3) := dc_180 (gB_l lq_cX9_leastWhere (p := 24) (o := 180) rfl) (gB_l lq_cX9_leastWhere (p := 25) (o := 0) rfl) (gB_l lq_cX9_leastWhere (p := 26) (o := 15) rfl) rfl
theorem dX9_leastWhere_27 : decode cX9_leastWhere 27 = .ok (.iload 4, 2) := dc_21 (gB_l lq_cX9_leastWhere (p := 27) (o := 21) rfl) (gB_l lq_cX9_leastWhere (p := 28) (o := 4) rfl)
theorem dX9_leastWhere_29 : decode cX9_leastWhere 29 = .ok (.invokevirtual 32, 3) := dc_182 (gB_l lq_cX9_leastWhere (p := 29) (o := 182) rfl) (gB_l lq_cX9_leastWhere (p := 30) (o := 0) rfl) (gB_l lq_cX9_leastWhere (p := 31) (o := 32) rfl) rfl
theorem dX9_leastWhere_32 : decode cX9_leastWhere 32 = .ok (.aload_n 0, 1) := dc_42 (gB_c lq_cX9_leastWhere q1_cX9_leastWhere 0 (o := 42) rfl)
theorem dX9_leastWhere_33 : decode cX9_leastWhere 33 = .ok (.getfield 21, 3) := dc_180 (gB_c lq_cX9_leastWhere q1_cX9_leastWhere 1 (o := 180) rfl) (gB_c lq_cX9_leastWhere q1_cX9_leastWhere 2 (o := 0) rfl) (gB_c lq_cX9_leastWhere q1_cX9_leastWhere 3 (o := 21) rfl) rfl
theorem dX9_leastWhere_36 : decode cX9_leastWhere 36 = .ok (.iconst 0, 1) := dc_3 (gB_c lq_cX9_leastWhere q1_cX9_leastWhere 4 (o := 3) rfl)
theorem dX9_leastWhere_37 : decode cX9_leastWhere 37 = .ok (.iaload, 1) := dc_46 (gB_c lq_cX9_leastWhere q1_cX9_leastWhere 5 (o := 46) rfl)
theorem dX9_leastWhere_38 : decode cX9_leastWhere 38 = .ok (.ireturn, 1) := dc_172 (gB_c lq_cX9_leastWhere q1_cX9_leastWhere 6 (o := 172) rfl)
abbrev r0_cX9_lowest : List Nat := [3, 60, 27, 16, 9, 162, 0, 19, 26, 27, 122, 4, 126, 153, 0, 5, 27, 172, 132, 1, 1, 167, 255, 237, 3, 172]
theorem lq_cX9_lowest : (cX9_lowest).data.toList.map UInt8.toNat = r0_cX9_lowest := by decide +kernel
theorem dX9_lowest_0 : decode cX9_lowest 0 = .ok (.iconst 0, 1) := dc_3 (gB_l lq_cX9_lowest (p := 0) (o := 3) rfl)
theorem dX9_lowest_1 : decode cX9_lowest 1 = .ok (.istore_n 1, 1) := dc_60 (gB_l lq_cX9_lowest (p := 1) (o := 60) rfl)
theorem dX9_lowest_2 : decode cX9_lowest 2 = .ok (.iload_n 1, 1) := dc_27 (gB_l lq_cX9_lowest (p := 2) (o := 27) rfl)
theorem dX9_lowest_3 : decode cX9_lowest 3 = .ok (.bipush 9, 2) := dc_16 (gB_l lq_cX9_lowest (p := 3) (o := 16) rfl) (gB_l lq_cX9_lowest (p := 4) (o := 9) rfl) rfl
theorem dX9_lowest_5 : decode cX9_lowest 5 = .ok (.if_icmp .ge 19, 3) := dc_162 (gB_l lq_cX9_lowest (p := 5) (o := 162) rfl) (gB_l lq_cX9_lowest (p := 6) (o := 0) rfl) (gB_l lq_cX9_lowest (p := 7) (o := 19) rfl) rfl
theorem dX9_lowest_8 : decode cX9_lowest 8 = .ok (.iload_n 0, 1) := dc_26 (gB_l lq_cX9_lowest (p := 8) (o := 26) rfl)
theorem dX9_lowest_9 : decode cX9_lowest 9 = .ok (.iload_n 1, 1) := dc_27 (gB_l lq_cX9_lowest (p := 9) (o := 27) rfl)
theorem dX9_lowest_10 : decode cX9_lowest 10 = .ok (.ishr, 1) := dc_122 (gB_l lq_cX9_lowest (p := 10) (o := 122) rfl)
theorem dX9_lowest_11 : decode cX9_lowest 11 = .ok (.iconst 1, 1) := dc_4 (gB_l lq_cX9_lowest (p := 11) (o := 4) rfl)
theorem dX9_lowest_12 : decode cX9_lowest 12 = .ok (.iand, 1) := dc_126 (gB_l lq_cX9_lowest (p := 12) (o := 126) rfl)
theorem dX9_lowest_13 : decode cX9_lowest 13 = .ok (.ifCond .eq 5, 3) := dc_153 (gB_l lq_cX9_lowest (p := 13) (o := 153) rfl) (gB_l lq_cX9_lowest (p := 14) (o := 0) rfl) (gB_l lq_cX9_lowest (p := 15) (o := 5) rfl) rfl
theorem dX9_lowest_16 : decode cX9_lowest 16 = .ok (.iload_n 1, 1) := dc_27 (gB_l lq_cX9_lowest (p := 16) (o := 27) rfl)
theorem dX9_lowest_17 : decode cX9_lowest 17 = .ok (.ireturn, 1) := dc_172 (gB_l lq_cX9_lowest (p := 17) (o := 172) rfl)
theorem dX9_lowest_18 : decode cX9_lowest 18 = .ok (.iinc 1 1, 3) := dc_132 (gB_l lq_cX9_lowest (p := 18) (o := 132) rfl) (gB_l lq_cX9_lowest (p := 19) (o := 1) rfl) (gB_l lq_cX9_lowest (p := 20) (o := 1) rfl) rfl
theorem dX9_lowest_21 : decode cX9_lowest 21 = .ok (.goto (-19), 3) := dc_167 (gB_l lq_cX9_lowest (p := 21) (o := 167) rfl) (gB_l lq_cX9_lowest (p := 22) (o := 255) rfl) (gB_l lq_cX9_lowest (p := 23) (o := 237) rfl) rfl
theorem dX9_lowest_24 : decode cX9_lowest 24 = .ok (.iconst 0, 1) := dc_3 (gB_l lq_cX9_lowest (p := 24) (o := 3) rfl)
theorem dX9_lowest_25 : decode cX9_lowest 25 = .ok (.ireturn, 1) := dc_172 (gB_l lq_cX9_lowest (p := 25) (o := 172) rfl)
abbrev r2_cX9_newLines : List Nat := [4, 172]
def a1_cX9_newLines : List Nat := [21, 4, 21, 6, 42, 180, 0, 18, 28, 16, 9, 104, 21, 5, 96, 46, 2, 130, 126, 184, 0, 88, 96, 54, 4, 132, 5, 1, 167, 255, 202, 21]
abbrev r1_cX9_newLines : List Nat := a1_cX9_newLines ++ r2_cX9_newLines
def a0_cX9_newLines : List Nat := [3, 54, 4, 3, 54, 5, 21, 5, 43, 180, 0, 56, 162, 0, 51, 29, 21, 5, 122, 4, 126, 153, 0, 36, 29, 21, 5, 184, 0, 97, 54, 6]
abbrev r0_cX9_newLines : List Nat := a0_cX9_newLines ++ r1_cX9_newLines
theorem lq_cX9_newLines : (cX9_newLines).data.toList.map UInt8.toNat = r0_cX9_newLines := by decide +kernel
theorem q1_cX9_newLines : ∀ i, (r0_cX9_newLines)[32 + i]? = (r1_cX9_newLines)[i]? := chn (A := a0_cX9_newLines) (B := r1_cX9_newLines) (n := 0) (k := 32) rfl (ch0 (R := r0_cX9_newLines))
theorem q2_cX9_newLines : ∀ i, (r0_cX9_newLines)[64 + i]? = (r2_cX9_newLines)[i]? := chn (A := a1_cX9_newLines) (B := r2_cX9_newLines) (n := 32) (k := 32) rfl q1_cX9_newLines
theorem dX9_newLines_0 : decode cX9_newLines 0 = .ok (.iconst 0, 1) := dc_3 (gB_l lq_cX9_newLines (p := 0) (o := 3) rfl)
theorem dX9_newLines_1 : decode cX9_newLines 1 = .ok (.istore 4, 2) := dc_54 (gB_l lq_cX9_newLines (p := 1) (o := 54) rfl) (gB_l lq_cX9_newLines (p := 2) (o := 4) rfl)
theorem dX9_newLines_3 : decode cX9_newLines 3 = .ok (.iconst 0, 1) := dc_3 (gB_l lq_cX9_newLines (p := 3) (o := 3) rfl)
theorem dX9_newLines_4 : decode cX9_newLines 4 = .ok (.istore 5, 2) := dc_54 (gB_l lq_cX9_newLines (p := 4) (o := 54) rfl) (gB_l lq_cX9_newLines (p := 5) (o := 5) rfl)
theorem dX9_newLines_6 : decode cX9_newLines 6 = .ok (.iload 5, 2) := dc_21 (gB_l lq_cX9_newLines (p := 6) (o := 21) rfl) (gB_l lq_cX9_newLines (p := 7) (o := 5) rfl)
theorem dX9_newLines_8 : decode cX9_newLines 8 = .ok (.aload_n 1, 1) := dc_43 (gB_l lq_cX9_newLines (p := 8) (o := 43) rfl)
theorem dX9_newLines_9 : decode cX9_newLines 9 = .ok (.getfield 56, 3) := dc_180 (gB_l lq_cX9_newLines (p := 9) (o := 180) rfl) (gB_l lq_cX9_newLines (p := 10) (o := 0) rfl) (gB_l lq_cX9_newLines (p := 11) (o := 56) rfl) rfl
theorem dX9_newLines_12 : decode cX9_newLines 12 = .ok (.if_icmp .ge 51, 3) := dc_162 (gB_l lq_cX9_newLines (p := 12) (o := 162) rfl) (gB_l lq_cX9_newLines (p := 13) (o := 0) rfl) (gB_l lq_cX9_newLines (p := 14) (o := 51) rfl) rfl
theorem dX9_newLines_15 : decode cX9_newLines 15 = .ok (.iload_n 3, 1) := dc_29 (gB_l lq_cX9_newLines (p := 15) (o := 29) rfl)
theorem dX9_newLines_16 : decode cX9_newLines 16 = .ok (.iload 5, 2) := dc_21 (gB_l lq_cX9_newLines (p := 16) (o := 21) rfl) (gB_l lq_cX9_newLines (p := 17) (o := 5) rfl)
theorem dX9_newLines_18 : decode cX9_newLines 18 = .ok (.ishr, 1) := dc_122 (gB_l lq_cX9_newLines (p := 18) (o := 122) rfl)
theorem dX9_newLines_19 : decode cX9_newLines 19 = .ok (.iconst 1, 1) := dc_4 (gB_l lq_cX9_newLines (p := 19) (o := 4) rfl)
theorem dX9_newLines_20 : decode cX9_newLines 20 = .ok (.iand, 1) := dc_126 (gB_l lq_cX9_newLines (p := 20) (o := 126) rfl)
theorem dX9_newLines_21 : decode cX9_newLines 21 = .ok (.ifCond .eq 36, 3) := dc_153 (gB_l lq_cX9_newLines (p := 21) (o := 153) rfl) (gB_l lq_cX9_newLines (p := 22) (o := 0) rfl) (gB_l lq_cX9_newLines (p := 23) (o := 36) rfl) rfl
theorem dX9_newLines_24 : decode cX9_newLines 24 = .ok (.iload_n 3, 1) := dc_29 (gB_l lq_cX9_newLines (p := 24) (o := 29) rfl)
theorem dX9_newLines_25 : decode cX9_newLines 25 = .ok (.iload 5, 2) := dc_21 (gB_l lq_cX9_newLines (p := 25) (o := 21) rfl) (gB_l lq_cX9_newLines (p := 26) (o := 5) rfl)
theorem dX9_newLines_27 : decode cX9_newLines 27 = .ok (.invokestatic 97, 3) := dc_184 (gB_l lq_cX9_newLines (p := 27) (o := 184) rfl) (gB_l lq_cX9_newLines (p := 28) (o := 0) rfl) (gB_l lq_cX9_newLines (p := 29) (o := 97) rfl) rfl
theorem dX9_newLines_30 : decode cX9_newLines 30 = .ok (.istore 6, 2) := dc_54 (gB_l lq_cX9_newLines (p := 30) (o := 54) rfl) (gB_l lq_cX9_newLines (p := 31) (o := 6) rfl)
theorem dX9_newLines_32 : decode cX9_newLines 32 = .ok (.iload 4, 2) := dc_21 (gB_c lq_cX9_newLines q1_cX9_newLines 0 (o := 21) rfl) (gB_c lq_cX9_newLines q1_cX9_newLines 1 (o := 4) rfl)
theorem dX9_newLines_34 : decode cX9_newLines 34 = .ok (.iload 6, 2) := dc_21 (gB_c lq_cX9_newLines q1_cX9_newLines 2 (o := 21) rfl) (gB_c lq_cX9_newLines q1_cX9_newLines 3 (o := 6) rfl)
theorem dX9_newLines_36 : decode cX9_newLines 36 = .ok (.aload_n 0, 1) := dc_42 (gB_c lq_cX9_newLines q1_cX9_newLines 4 (o := 42) rfl)
theorem dX9_newLines_37 : decode cX9_newLines 37 = .ok (.getfield 18, 3) := dc_180 (gB_c lq_cX9_newLines q1_cX9_newLines 5 (o := 180) rfl) (gB_c lq_cX9_newLines q1_cX9_newLines 6 (o := 0) rfl) (gB_c lq_cX9_newLines q1_cX9_newLines 7 (o := 18) rfl) rfl
theorem dX9_newLines_40 : decode cX9_newLines 40 = .ok (.iload_n 2, 1) := dc_28 (gB_c lq_cX9_newLines q1_cX9_newLines 8 (o := 28) rfl)
theorem dX9_newLines_41 : decode cX9_newLines 41 = .ok (.bipush 9, 2) := dc_16 (gB_c lq_cX9_newLines q1_cX9_newLines 9 (o := 16) rfl) (gB_c lq_cX9_newLines q1_cX9_newLines 10 (o := 9) rfl) rfl
theorem dX9_newLines_43 : decode cX9_newLines 43 = .ok (.imul, 1) := dc_104 (gB_c lq_cX9_newLines q1_cX9_newLines 11 (o := 104) rfl)
theorem dX9_newLines_44 : decode cX9_newLines 44 = .ok (.iload 5, 2) := dc_21 (gB_c lq_cX9_newLines q1_cX9_newLines 12 (o := 21) rfl) (gB_c lq_cX9_newLines q1_cX9_newLines 13 (o := 5) rfl)
theorem dX9_newLines_46 : decode cX9_newLines 46 = .ok (.iadd, 1) := dc_96 (gB_c lq_cX9_newLines q1_cX9_newLines 14 (o := 96) rfl)
theorem dX9_newLines_47 : decode cX9_newLines 47 = .ok (.iaload, 1) := dc_46 (gB_c lq_cX9_newLines q1_cX9_newLines 15 (o := 46) rfl)
theorem dX9_newLines_48 : decode cX9_newLines 48 = .ok (.iconst (-1), 1) := dc_2 (gB_c lq_cX9_newLines q1_cX9_newLines 16 (o := 2) rfl)
theorem dX9_newLines_49 : decode cX9_newLines 49 = .ok (.ixor, 1) := dc_130 (gB_c lq_cX9_newLines q1_cX9_newLines 17 (o := 130) rfl)
theorem dX9_newLines_50 : decode cX9_newLines 50 = .ok (.iand, 1) := dc_126 (gB_c lq_cX9_newLines q1_cX9_newLines 18 (o := 126) rfl)
theorem dX9_newLines_51 : decode cX9_newLines 51 = .ok (.invokestatic 88, 3) := dc_184 (gB_c lq_cX9_newLines q1_cX9_newLines 19 (o := 184) rfl) (gB_c lq_cX9_newLines q1_cX9_newLines 20 (o := 0) rfl) (gB_c lq_cX9_newLines q1_cX9_newLines 21 (o := 88) rfl) rfl
theorem dX9_newLines_54 : decode cX9_newLines 54 = .ok (.iadd, 1) := dc_96 (gB_c lq_cX9_newLines q1_cX9_newLines 22 (o := 96) rfl)
theorem dX9_newLines_55 : decode cX9_newLines 55 = .ok (.istore 4, 2) := dc_54 (gB_c lq_cX9_newLines q1_cX9_newLines 23 (o := 54) rfl) (gB_c lq_cX9_newLines q1_cX9_newLines 24 (o := 4) rfl)
theorem dX9_newLines_57 : decode cX9_newLines 57 = .ok (.iinc 5 1, 3) := dc_132 (gB_c lq_cX9_newLines q1_cX9_newLines 25 (o := 132) rfl) (gB_c lq_cX9_newLines q1_cX9_newLines 26 (o := 5) rfl) (gB_c lq_cX9_newLines q1_cX9_newLines 27 (o := 1) rfl) rfl
theorem dX9_newLines_60 : decode cX9_newLines 60 = .ok (.goto (-54), 3) := dc_167 (gB_c lq_cX9_newLines q1_cX9_newLines 28 (o := 167) rfl) (gB_c lq_cX9_newLines q1_cX9_newLines 29 (o := 255) rfl) (gB_c lq_cX9_newLines q1_cX9_newLines 30 (o := 202) rfl) rfl
theorem dX9_newLines_63 : decode cX9_newLines 63 = .ok (.iload 4, 2) := dc_21 (gB_c lq_cX9_newLines q1_cX9_newLines 31 (o := 21) rfl) (gB_c lq_cX9_newLines q2_cX9_newLines 0 (o := 4) rfl)
theorem dX9_newLines_65 : decode cX9_newLines 65 = .ok (.ireturn, 1) := dc_172 (gB_c lq_cX9_newLines q2_cX9_newLines 1 (o := 172) rfl)
abbrev r0_cX9_rowsWithin : List Nat := [42, 43, 28, 42, 180, 0, 11, 182, 0, 27, 42, 43, 28, 29, 182, 0, 42, 42, 180, 0, 24, 3, 46, 172]
theorem lq_cX9_rowsWithin : (cX9_rowsWithin).data.toList.map UInt8.toNat = r0_cX9_rowsWithin := by decide +kernel
theorem dX9_rowsWithin_0 : decode cX9_rowsWithin 0 = .ok (.aload_n 0, 1) := dc_42 (gB_l lq_cX9_rowsWithin (p := 0) (o := 42) rfl)
theorem dX9_rowsWithin_1 : decode cX9_rowsWithin 1 = .ok (.aload_n 1, 1) := dc_43 (gB_l lq_cX9_rowsWithin (p := 1) (o := 43) rfl)
theorem dX9_rowsWithin_2 : decode cX9_rowsWithin 2 = .ok (.iload_n 2, 1) := dc_28 (gB_l lq_cX9_rowsWithin (p := 2) (o := 28) rfl)
theorem dX9_rowsWithin_3 : decode cX9_rowsWithin 3 = .ok (.aload_n 0, 1) := dc_42 (gB_l lq_cX9_rowsWithin (p := 3) (o := 42) rfl)
theorem dX9_rowsWithin_4 : decode cX9_rowsWithin 4 = .ok (.getfield 11, 3) := dc_180 (gB_l lq_cX9_rowsWithin (p := 4) (o := 180) rfl) (gB_l lq_cX9_rowsWithin (p := 5) (o := 0) rfl) (gB_l lq_cX9_rowsWithin (p := 6) (o := 11) rfl) rfl
theorem dX9_rowsWithin_7 : decode cX9_rowsWithin 7 = .ok (.invokevirtual 27, 3) := dc_182 (gB_l lq_cX9_rowsWithin (p := 7) (o := 182) rfl) (gB_l lq_cX9_rowsWithin (p := 8) (o := 0) rfl) (gB_l lq_cX9_rowsWithin (p := 9) (o := 27) rfl) rfl
theorem dX9_rowsWithin_10 : decode cX9_rowsWithin 10 = .ok (.aload_n 0, 1) := dc_42 (gB_l lq_cX9_rowsWithin (p := 10) (o := 42) rfl)
theorem dX9_rowsWithin_11 : decode cX9_rowsWithin 11 = .ok (.aload_n 1, 1) := dc_43 (gB_l lq_cX9_rowsWithin (p := 11) (o := 43) rfl)
theorem dX9_rowsWithin_12 : decode cX9_rowsWithin 12 = .ok (.iload_n 2, 1) := dc_28 (gB_l lq_cX9_rowsWithin (p := 12) (o := 28) rfl)
theorem dX9_rowsWithin_13 : decode cX9_rowsWithin 13 = .ok (.iload_n 3, 1) := dc_29 (gB_l lq_cX9_rowsWithin (p := 13) (o := 29) rfl)
theorem dX9_rowsWithin_14 : decode cX9_rowsWithin 14 = .ok (.invokevirtual 42, 3) := dc_182 (gB_l lq_cX9_rowsWithin (p := 14) (o := 182) rfl) (gB_l lq_cX9_rowsWithin (p := 15) (o := 0) rfl) (gB_l lq_cX9_rowsWithin (p := 16) (o := 42) rfl) rfl
theorem dX9_rowsWithin_17 : decode cX9_rowsWithin 17 = .ok (.aload_n 0, 1) := dc_42 (gB_l lq_cX9_rowsWithin (p := 17) (o := 42) rfl)
theorem dX9_rowsWithin_18 : decode cX9_rowsWithin 18 = .ok (.getfield 24, 3) := dc_180 (gB_l lq_cX9_rowsWithin (p := 18) (o := 180) rfl) (gB_l lq_cX9_rowsWithin (p := 19) (o := 0) rfl) (gB_l lq_cX9_rowsWithin (p := 20) (o := 24) rfl) rfl
theorem dX9_rowsWithin_21 : decode cX9_rowsWithin 21 = .ok (.iconst 0, 1) := dc_3 (gB_l lq_cX9_rowsWithin (p := 21) (o := 3) rfl)
theorem dX9_rowsWithin_22 : decode cX9_rowsWithin 22 = .ok (.iaload, 1) := dc_46 (gB_l lq_cX9_rowsWithin (p := 22) (o := 46) rfl)
theorem dX9_rowsWithin_23 : decode cX9_rowsWithin 23 = .ok (.ireturn, 1) := dc_172 (gB_l lq_cX9_rowsWithin (p := 23) (o := 172) rfl)
