/-! The programs as functions over numbers. A state tells what each place (an object's field, an array's element) holds; which place is what, and every reference, stands in the shape SH, which never changes once both objects are made. -/
abbrev St : Type := Nat → Nat → Int32
abbrev ShC : Type := (Nat × Nat × Option (List Nat)) ⊕ (Nat × List (Option Nat))
def rfs (σ : St) (a : Nat) : Nat → List (Option Nat) → List Value
  | _, [] => []
  | k, none :: r => .int (σ a k) :: rfs σ a (k + 1) r
  | k, some p :: r => .ref p :: rfs σ a (k + 1) r
def rcell (σ : St) (a : Nat) : ShC → va_E
  | .inl (t, n, none) => .inl (t, n, .inl (σ a))
  | .inl (t, n, some rs) => .inl (t, n, .inr (.inr (.inr (.inr (fun j => rs[j]?)))))
  | .inr (ci, fs) => .inr (ci, rfs σ a 0 fs)
def rnd (σ : St) : Nat → List ShC → xMem
  | _, [] => []
  | k, c :: r => rcell σ k c :: rnd σ (k + 1) r
def SH : List ShC := [.inr (8, [some 1, some 3, some 5, some 10, some 11, some 84, some 90, some 98, some 141, some 145]), .inr (1, [some 2, none]), .inl (1, 400, none), .inr (1, [some 4, none]), .inl (1, 256, none), .inr (6, [some 6, none, none, some 1, none, none, none, none]), .inr (5, [none, none, some 7, some 8, some 9]), .inl (0, 9, none), .inl (0, 9, none), .inl (0, 81, none), .inl (2, 3, some [12, 36, 60]), .inl (3, 3, some [16, 40, 64]), .inr (5, [none, none, some 13, some 14, some 15]), .inl (0, 9, none), .inl (0, 9, none), .inl (0, 81, none), .inr (3, [some 17, some 18]), .inl (4, 7, some [22, 24, 26, 28, 30, 32, 34]), .inr (5, [none, none, some 19, some 20, some 21]), .inl (0, 9, none), .inl (0, 9, none), .inl (0, 81, none), .inr (2, [none, none, none, none, some 23]), .inl (0, 9, none), .inr (2, [none, none, none, none, some 25]), .inl (0, 9, none), .inr (2, [none, none, none, none, some 27]), .inl (0, 9, none), .inr (2, [none, none, none, none, some 29]), .inl (0, 9, none), .inr (2, [none, none, none, none, some 31]), .inl (0, 9, none), .inr (2, [none, none, none, none, some 33]), .inl (0, 9, none), .inr (2, [none, none, none, none, some 35]), .inl (0, 9, none), .inr (5, [none, none, some 37, some 38, some 39]), .inl (0, 9, none), .inl (0, 9, none), .inl (0, 81, none), .inr (3, [some 41, some 42]), .inl (4, 7, some [46, 48, 50, 52, 54, 56, 58]), .inr (5, [none, none, some 43, some 44, some 45]), .inl (0, 9, none), .inl (0, 9, none), .inl (0, 81, none), .inr (2, [none, none, none, none, some 47]), .inl (0, 9, none), .inr (2, [none, none, none, none, some 49]), .inl (0, 9, none), .inr (2, [none, none, none, none, some 51]), .inl (0, 9, none), .inr (2, [none, none, none, none, some 53]), .inl (0, 9, none), .inr (2, [none, none, none, none, some 55]), .inl (0, 9, none), .inr (2, [none, none, none, none, some 57]), .inl (0, 9, none), .inr (2, [none, none, none, none, some 59]), .inl (0, 9, none), .inr (5, [none, none, some 61, some 62, some 63]), .inl (0, 9, none), .inl (0, 9, none), .inl (0, 81, none), .inr (3, [some 65, some 66]), .inl (4, 7, some [70, 72, 74, 76, 78, 80, 82]), .inr (5, [none, none, some 67, some 68, some 69]), .inl (0, 9, none), .inl (0, 9, none), .inl (0, 81, none), .inr (2, [none, none, none, none, some 71]), .inl (0, 9, none), .inr (2, [none, none, none, none, some 73]), .inl (0, 9, none), .inr (2, [none, none, none, none, some 75]), .inl (0, 9, none), .inr (2, [none, none, none, none, some 77]), .inl (0, 9, none), .inr (2, [none, none, none, none, some 79]), .inl (0, 9, none), .inr (2, [none, none, none, none, some 81]), .inl (0, 9, none), .inr (2, [none, none, none, none, some 83]), .inl (0, 9, none), .inr (7, [some 85, some 86, some 87, some 88, some 89]), .inl (0, 4608, none), .inl (0, 4608, none), .inl (0, 4608, none), .inl (0, 512, none), .inl (0, 512, none), .inr (0, [some 91, some 95, some 96, some 97]), .inr (5, [none, none, some 92, some 93, some 94]), .inl (0, 9, none), .inl (0, 9, none), .inl (0, 81, none), .inl (0, 9, none), .inl (0, 4096, none), .inl (0, 4096, none), .inr (4, [none, none, some 99, some 100]), .inl (0, 10, none), .inl (2, 10, some [101, 105, 109, 113, 117, 121, 125, 129, 133, 137]), .inr (5, [none, none, some 102, some 103, some 104]), .inl (0, 9, none), .inl (0, 9, none), .inl (0, 81, none), .inr (5, [none, none, some 106, some 107, some 108]), .inl (0, 9, none), .inl (0, 9, none), .inl (0, 81, none), .inr (5, [none, none, some 110, some 111, some 112]), .inl (0, 9, none), .inl (0, 9, none), .inl (0, 81, none), .inr (5, [none, none, some 114, some 115, some 116]), .inl (0, 9, none), .inl (0, 9, none), .inl (0, 81, none), .inr (5, [none, none, some 118, some 119, some 120]), .inl (0, 9, none), .inl (0, 9, none), .inl (0, 81, none), .inr (5, [none, none, some 122, some 123, some 124]), .inl (0, 9, none), .inl (0, 9, none), .inl (0, 81, none), .inr (5, [none, none, some 126, some 127, some 128]), .inl (0, 9, none), .inl (0, 9, none), .inl (0, 81, none), .inr (5, [none, none, some 130, some 131, some 132]), .inl (0, 9, none), .inl (0, 9, none), .inl (0, 81, none), .inr (5, [none, none, some 134, some 135, some 136]), .inl (0, 9, none), .inl (0, 9, none), .inl (0, 81, none), .inr (5, [none, none, some 138, some 139, some 140]), .inl (0, 9, none), .inl (0, 9, none), .inl (0, 81, none), .inr (5, [none, none, some 142, some 143, some 144]), .inl (0, 9, none), .inl (0, 9, none), .inl (0, 81, none), .inr (5, [none, none, some 146, some 147, some 148]), .inl (0, 9, none), .inl (0, 9, none), .inl (0, 81, none), .inr (9, [some 150, some 151, some 152, none, some 153, none, none, none, none, none, none, none, none, some 154, some 155, some 156, some 157, none, none, none, some 158, some 159, some 160, some 161, some 162, none]), .inl (0, 273, none), .inl (0, 273, none), .inl (0, 2730, none), .inl (0, 400, none), .inl (0, 9, none), .inl (0, 512, none), .inl (0, 512, none), .inl (0, 4608, none), .inl (0, 9, none), .inl (0, 9, none), .inl (0, 9, none), .inl (0, 81, none), .inl (0, 400, none)]
theorem sh_0 : SH[0]? = some (.inr (8, [some 1, some 3, some 5, some 10, some 11, some 84, some 90, some 98, some 141, some 145])) := rfl
theorem sh_1 : SH[1]? = some (.inr (1, [some 2, none])) := rfl
theorem sh_2 : SH[2]? = some (.inl (1, 400, none)) := rfl
theorem sh_3 : SH[3]? = some (.inr (1, [some 4, none])) := rfl
theorem sh_4 : SH[4]? = some (.inl (1, 256, none)) := rfl
theorem sh_5 : SH[5]? = some (.inr (6, [some 6, none, none, some 1, none, none, none, none])) := rfl
theorem sh_6 : SH[6]? = some (.inr (5, [none, none, some 7, some 8, some 9])) := rfl
theorem sh_7 : SH[7]? = some (.inl (0, 9, none)) := rfl
theorem sh_8 : SH[8]? = some (.inl (0, 9, none)) := rfl
theorem sh_9 : SH[9]? = some (.inl (0, 81, none)) := rfl
theorem sh_10 : SH[10]? = some (.inl (2, 3, some [12, 36, 60])) := rfl
theorem sh_11 : SH[11]? = some (.inl (3, 3, some [16, 40, 64])) := rfl
theorem sh_12 : SH[12]? = some (.inr (5, [none, none, some 13, some 14, some 15])) := rfl
theorem sh_13 : SH[13]? = some (.inl (0, 9, none)) := rfl
theorem sh_14 : SH[14]? = some (.inl (0, 9, none)) := rfl
theorem sh_15 : SH[15]? = some (.inl (0, 81, none)) := rfl
theorem sh_16 : SH[16]? = some (.inr (3, [some 17, some 18])) := rfl
theorem sh_17 : SH[17]? = some (.inl (4, 7, some [22, 24, 26, 28, 30, 32, 34])) := rfl
theorem sh_18 : SH[18]? = some (.inr (5, [none, none, some 19, some 20, some 21])) := rfl
theorem sh_19 : SH[19]? = some (.inl (0, 9, none)) := rfl
theorem sh_20 : SH[20]? = some (.inl (0, 9, none)) := rfl
theorem sh_21 : SH[21]? = some (.inl (0, 81, none)) := rfl
theorem sh_22 : SH[22]? = some (.inr (2, [none, none, none, none, some 23])) := rfl
theorem sh_23 : SH[23]? = some (.inl (0, 9, none)) := rfl
theorem sh_24 : SH[24]? = some (.inr (2, [none, none, none, none, some 25])) := rfl
theorem sh_25 : SH[25]? = some (.inl (0, 9, none)) := rfl
theorem sh_26 : SH[26]? = some (.inr (2, [none, none, none, none, some 27])) := rfl
theorem sh_27 : SH[27]? = some (.inl (0, 9, none)) := rfl
theorem sh_28 : SH[28]? = some (.inr (2, [none, none, none, none, some 29])) := rfl
theorem sh_29 : SH[29]? = some (.inl (0, 9, none)) := rfl
theorem sh_30 : SH[30]? = some (.inr (2, [none, none, none, none, some 31])) := rfl
theorem sh_31 : SH[31]? = some (.inl (0, 9, none)) := rfl
theorem sh_32 : SH[32]? = some (.inr (2, [none, none, none, none, some 33])) := rfl
theorem sh_33 : SH[33]? = some (.inl (0, 9, none)) := rfl
theorem sh_34 : SH[34]? = some (.inr (2, [none, none, none, none, some 35])) := rfl
theorem sh_35 : SH[35]? = some (.inl (0, 9, none)) := rfl
theorem sh_36 : SH[36]? = some (.inr (5, [none, none, some 37, some 38, some 39])) := rfl
theorem sh_37 : SH[37]? = some (.inl (0, 9, none)) := rfl
theorem sh_38 : SH[38]? = some (.inl (0, 9, none)) := rfl
theorem sh_39 : SH[39]? = some (.inl (0, 81, none)) := rfl
theorem sh_40 : SH[40]? = some (.inr (3, [some 41, some 42])) := rfl
theorem sh_41 : SH[41]? = some (.inl (4, 7, some [46, 48, 50, 52, 54, 56, 58])) := rfl
theorem sh_42 : SH[42]? = some (.inr (5, [none, none, some 43, some 44, some 45])) := rfl
theorem sh_43 : SH[43]? = some (.inl (0, 9, none)) := rfl
theorem sh_44 : SH[44]? = some (.inl (0, 9, none)) := rfl
theorem sh_45 : SH[45]? = some (.inl (0, 81, none)) := rfl
theorem sh_46 : SH[46]? = some (.inr (2, [none, none, none, none, some 47])) := rfl
theorem sh_47 : SH[47]? = some (.inl (0, 9, none)) := rfl
theorem sh_48 : SH[48]? = some (.inr (2, [none, none, none, none, some 49])) := rfl
theorem sh_49 : SH[49]? = some (.inl (0, 9, none)) := rfl
theorem sh_50 : SH[50]? = some (.inr (2, [none, none, none, none, some 51])) := rfl
theorem sh_51 : SH[51]? = some (.inl (0, 9, none)) := rfl
theorem sh_52 : SH[52]? = some (.inr (2, [none, none, none, none, some 53])) := rfl
theorem sh_53 : SH[53]? = some (.inl (0, 9, none)) := rfl
theorem sh_54 : SH[54]? = some (.inr (2, [none, none, none, none, some 55])) := rfl
theorem sh_55 : SH[55]? = some (.inl (0, 9, none)) := rfl
theorem sh_56 : SH[56]? = some (.inr (2, [none, none, none, none, some 57])) := rfl
theorem sh_57 : SH[57]? = some (.inl (0, 9, none)) := rfl
theorem sh_58 : SH[58]? = some (.inr (2, [none, none, none, none, some 59])) := rfl
theorem sh_59 : SH[59]? = some (.inl (0, 9, none)) := rfl
theorem sh_60 : SH[60]? = some (.inr (5, [none, none, some 61, some 62, some 63])) := rfl
theorem sh_61 : SH[61]? = some (.inl (0, 9, none)) := rfl
theorem sh_62 : SH[62]? = some (.inl (0, 9, none)) := rfl
theorem sh_63 : SH[63]? = some (.inl (0, 81, none)) := rfl
theorem sh_64 : SH[64]? = some (.inr (3, [some 65, some 66])) := rfl
theorem sh_65 : SH[65]? = some (.inl (4, 7, some [70, 72, 74, 76, 78, 80, 82])) := rfl
theorem sh_66 : SH[66]? = some (.inr (5, [none, none, some 67, some 68, some 69])) := rfl
theorem sh_67 : SH[67]? = some (.inl (0, 9, none)) := rfl
theorem sh_68 : SH[68]? = some (.inl (0, 9, none)) := rfl
theorem sh_69 : SH[69]? = some (.inl (0, 81, none)) := rfl
theorem sh_70 : SH[70]? = some (.inr (2, [none, none, none, none, some 71])) := rfl
theorem sh_71 : SH[71]? = some (.inl (0, 9, none)) := rfl
theorem sh_72 : SH[72]? = some (.inr (2, [none, none, none, none, some 73])) := rfl
theorem sh_73 : SH[73]? = some (.inl (0, 9, none)) := rfl
theorem sh_74 : SH[74]? = some (.inr (2, [none, none, none, none, some 75])) := rfl
theorem sh_75 : SH[75]? = some (.inl (0, 9, none)) := rfl
theorem sh_76 : SH[76]? = some (.inr (2, [none, none, none, none, some 77])) := rfl
theorem sh_77 : SH[77]? = some (.inl (0, 9, none)) := rfl
theorem sh_78 : SH[78]? = some (.inr (2, [none, none, none, none, some 79])) := rfl
theorem sh_79 : SH[79]? = some (.inl (0, 9, none)) := rfl
theorem sh_80 : SH[80]? = some (.inr (2, [none, none, none, none, some 81])) := rfl
theorem sh_81 : SH[81]? = some (.inl (0, 9, none)) := rfl
theorem sh_82 : SH[82]? = some (.inr (2, [none, none, none, none, some 83])) := rfl
theorem sh_83 : SH[83]? = some (.inl (0, 9, none)) := rfl
theorem sh_84 : SH[84]? = some (.inr (7, [some 85, some 86, some 87, some 88, some 89])) := rfl
theorem sh_85 : SH[85]? = some (.inl (0, 4608, none)) := rfl
theorem sh_86 : SH[86]? = some (.inl (0, 4608, none)) := rfl
theorem sh_87 : SH[87]? = some (.inl (0, 4608, none)) := rfl
theorem sh_88 : SH[88]? = some (.inl (0, 512, none)) := rfl
theorem sh_89 : SH[89]? = some (.inl (0, 512, none)) := rfl
theorem sh_90 : SH[90]? = some (.inr (0, [some 91, some 95, some 96, some 97])) := rfl
theorem sh_91 : SH[91]? = some (.inr (5, [none, none, some 92, some 93, some 94])) := rfl
theorem sh_92 : SH[92]? = some (.inl (0, 9, none)) := rfl
theorem sh_93 : SH[93]? = some (.inl (0, 9, none)) := rfl
theorem sh_94 : SH[94]? = some (.inl (0, 81, none)) := rfl
theorem sh_95 : SH[95]? = some (.inl (0, 9, none)) := rfl
theorem sh_96 : SH[96]? = some (.inl (0, 4096, none)) := rfl
theorem sh_97 : SH[97]? = some (.inl (0, 4096, none)) := rfl
theorem sh_98 : SH[98]? = some (.inr (4, [none, none, some 99, some 100])) := rfl
theorem sh_99 : SH[99]? = some (.inl (0, 10, none)) := rfl
theorem sh_100 : SH[100]? = some (.inl (2, 10, some [101, 105, 109, 113, 117, 121, 125, 129, 133, 137])) := rfl
theorem sh_101 : SH[101]? = some (.inr (5, [none, none, some 102, some 103, some 104])) := rfl
theorem sh_102 : SH[102]? = some (.inl (0, 9, none)) := rfl
theorem sh_103 : SH[103]? = some (.inl (0, 9, none)) := rfl
theorem sh_104 : SH[104]? = some (.inl (0, 81, none)) := rfl
theorem sh_105 : SH[105]? = some (.inr (5, [none, none, some 106, some 107, some 108])) := rfl
theorem sh_106 : SH[106]? = some (.inl (0, 9, none)) := rfl
theorem sh_107 : SH[107]? = some (.inl (0, 9, none)) := rfl
theorem sh_108 : SH[108]? = some (.inl (0, 81, none)) := rfl
theorem sh_109 : SH[109]? = some (.inr (5, [none, none, some 110, some 111, some 112])) := rfl
theorem sh_110 : SH[110]? = some (.inl (0, 9, none)) := rfl
theorem sh_111 : SH[111]? = some (.inl (0, 9, none)) := rfl
theorem sh_112 : SH[112]? = some (.inl (0, 81, none)) := rfl
theorem sh_113 : SH[113]? = some (.inr (5, [none, none, some 114, some 115, some 116])) := rfl
theorem sh_114 : SH[114]? = some (.inl (0, 9, none)) := rfl
theorem sh_115 : SH[115]? = some (.inl (0, 9, none)) := rfl
theorem sh_116 : SH[116]? = some (.inl (0, 81, none)) := rfl
theorem sh_117 : SH[117]? = some (.inr (5, [none, none, some 118, some 119, some 120])) := rfl
theorem sh_118 : SH[118]? = some (.inl (0, 9, none)) := rfl
theorem sh_119 : SH[119]? = some (.inl (0, 9, none)) := rfl
theorem sh_120 : SH[120]? = some (.inl (0, 81, none)) := rfl
theorem sh_121 : SH[121]? = some (.inr (5, [none, none, some 122, some 123, some 124])) := rfl
theorem sh_122 : SH[122]? = some (.inl (0, 9, none)) := rfl
theorem sh_123 : SH[123]? = some (.inl (0, 9, none)) := rfl
theorem sh_124 : SH[124]? = some (.inl (0, 81, none)) := rfl
theorem sh_125 : SH[125]? = some (.inr (5, [none, none, some 126, some 127, some 128])) := rfl
theorem sh_126 : SH[126]? = some (.inl (0, 9, none)) := rfl
theorem sh_127 : SH[127]? = some (.inl (0, 9, none)) := rfl
theorem sh_128 : SH[128]? = some (.inl (0, 81, none)) := rfl
theorem sh_129 : SH[129]? = some (.inr (5, [none, none, some 130, some 131, some 132])) := rfl
theorem sh_130 : SH[130]? = some (.inl (0, 9, none)) := rfl
theorem sh_131 : SH[131]? = some (.inl (0, 9, none)) := rfl
theorem sh_132 : SH[132]? = some (.inl (0, 81, none)) := rfl
theorem sh_133 : SH[133]? = some (.inr (5, [none, none, some 134, some 135, some 136])) := rfl
theorem sh_134 : SH[134]? = some (.inl (0, 9, none)) := rfl
theorem sh_135 : SH[135]? = some (.inl (0, 9, none)) := rfl
theorem sh_136 : SH[136]? = some (.inl (0, 81, none)) := rfl
theorem sh_137 : SH[137]? = some (.inr (5, [none, none, some 138, some 139, some 140])) := rfl
theorem sh_138 : SH[138]? = some (.inl (0, 9, none)) := rfl
theorem sh_139 : SH[139]? = some (.inl (0, 9, none)) := rfl
theorem sh_140 : SH[140]? = some (.inl (0, 81, none)) := rfl
theorem sh_141 : SH[141]? = some (.inr (5, [none, none, some 142, some 143, some 144])) := rfl
theorem sh_142 : SH[142]? = some (.inl (0, 9, none)) := rfl
theorem sh_143 : SH[143]? = some (.inl (0, 9, none)) := rfl
theorem sh_144 : SH[144]? = some (.inl (0, 81, none)) := rfl
theorem sh_145 : SH[145]? = some (.inr (5, [none, none, some 146, some 147, some 148])) := rfl
theorem sh_146 : SH[146]? = some (.inl (0, 9, none)) := rfl
theorem sh_147 : SH[147]? = some (.inl (0, 9, none)) := rfl
theorem sh_148 : SH[148]? = some (.inl (0, 81, none)) := rfl
theorem sh_149 : SH[149]? = some (.inr (9, [some 150, some 151, some 152, none, some 153, none, none, none, none, none, none, none, none, some 154, some 155, some 156, some 157, none, none, none, some 158, some 159, some 160, some 161, some 162, none])) := rfl
theorem sh_150 : SH[150]? = some (.inl (0, 273, none)) := rfl
theorem sh_151 : SH[151]? = some (.inl (0, 273, none)) := rfl
theorem sh_152 : SH[152]? = some (.inl (0, 2730, none)) := rfl
theorem sh_153 : SH[153]? = some (.inl (0, 400, none)) := rfl
theorem sh_154 : SH[154]? = some (.inl (0, 9, none)) := rfl
theorem sh_155 : SH[155]? = some (.inl (0, 512, none)) := rfl
theorem sh_156 : SH[156]? = some (.inl (0, 512, none)) := rfl
theorem sh_157 : SH[157]? = some (.inl (0, 4608, none)) := rfl
theorem sh_158 : SH[158]? = some (.inl (0, 9, none)) := rfl
theorem sh_159 : SH[159]? = some (.inl (0, 9, none)) := rfl
theorem sh_160 : SH[160]? = some (.inl (0, 9, none)) := rfl
theorem sh_161 : SH[161]? = some (.inl (0, 81, none)) := rfl
theorem sh_162 : SH[162]? = some (.inl (0, 400, none)) := rfl
def mem (σ : St) (Gb : xMem) : xMem := rnd σ 0 SH ++ Gb
def wr (σ : St) (a i : Nat) (v : Int32) : St := fun b => if b = a then upd (σ a) i v else σ b
abbrev rd (σ : St) (a : Nat) (i : Int32) : Int32 := σ a i.toNatClampNeg
abbrev wri (σ : St) (a : Nat) (i v : Int32) : St := wr σ a i.toNatClampNeg v
def cpy (σ : St) (a b n : Nat) : St := fun q => if q = b then va_cpy (σ a) (σ b) 0 0 n else σ q
def inb (i : Int32) (n : Nat) : Bool := !decide (i < 0) && decide (i.toNatClampNeg < n)
def isb (x : Int32) : Bool := decide (x = 0) || decide (x = 1)
def nz (x : Int32) : Bool := !decide (x = 0)
def nep (a b : Nat) : Bool := !decide (a = b)
def ilen (a : Nat) : Nat := match SH[a]? with | some (.inl (0, n, none)) => n | _ => 0
def el (a : Nat) (i : Int32) : Nat := match SH[a]? with | some (.inl (_, _, some rs)) => rs.getD i.toNatClampNeg 0 | _ => 0
def netAt (x : Nat) : Bool := decide (SH[x]? = some (.inr (5, [none, none, some (x + 1), some (x + 2), some (x + 3)]))) && decide (SH[x + 1]? = some (.inl (0, 9, none))) && decide (SH[x + 2]? = some (.inl (0, 9, none))) && decide (SH[x + 3]? = some (.inl (0, 81, none)))
def findAt (x : Nat) : Bool := decide (SH[x]? = some (.inr (2, [none, none, none, none, some (x + 1)]))) && decide (SH[x + 1]? = some (.inl (0, 9, none)))
def findsAt (x : Nat) : Bool := decide (SH[x]? = some (.inr (3, [some (x + 1), some (x + 2)]))) && decide (SH[x + 1]? = some (.inl (4, 7, some [x + 6, x + 8, x + 10, x + 12, x + 14, x + 16, x + 18])))
theorem netAt_0 {x : Nat} (h : netAt x = true) : SH[x]? = some (.inr (5, [none, none, some (x + 1), some (x + 2), some (x + 3)])) := by
  simp only [netAt, Bool.and_eq_true, decide_eq_true_eq] at h
  exact h.1.1.1
theorem netAt_1 {x : Nat} (h : netAt x = true) : SH[x + 1]? = some (.inl (0, 9, none)) := by
  simp only [netAt, Bool.and_eq_true, decide_eq_true_eq] at h
  exact h.1.1.2
theorem netAt_2 {x : Nat} (h : netAt x = true) : SH[x + 2]? = some (.inl (0, 9, none)) := by
  simp only [netAt, Bool.and_eq_true, decide_eq_true_eq] at h
  exact h.1.2
theorem netAt_3 {x : Nat} (h : netAt x = true) : SH[x + 3]? = some (.inl (0, 81, none)) := by
  simp only [netAt, Bool.and_eq_true, decide_eq_true_eq] at h
  exact h.2
theorem findAt_0 {x : Nat} (h : findAt x = true) : SH[x]? = some (.inr (2, [none, none, none, none, some (x + 1)])) := by
  simp only [findAt, Bool.and_eq_true, decide_eq_true_eq] at h
  exact h.1
theorem findAt_1 {x : Nat} (h : findAt x = true) : SH[x + 1]? = some (.inl (0, 9, none)) := by
  simp only [findAt, Bool.and_eq_true, decide_eq_true_eq] at h
  exact h.2
theorem findsAt_0 {x : Nat} (h : findsAt x = true) : SH[x]? = some (.inr (3, [some (x + 1), some (x + 2)])) := by
  simp only [findsAt, Bool.and_eq_true, decide_eq_true_eq] at h
  exact h.1
theorem findsAt_1 {x : Nat} (h : findsAt x = true) : SH[x + 1]? = some (.inl (4, 7, some [x + 6, x + 8, x + 10, x + 12, x + 14, x + 16, x + 18])) := by
  simp only [findsAt, Bool.and_eq_true, decide_eq_true_eq] at h
  exact h.2
theorem inb_vp {i : Int32} {n : Nat} (h : inb i n = true) : vp_in i n := by
  simp only [inb, Bool.and_eq_true, Bool.not_eq_true', decide_eq_false_iff_not, decide_eq_true_eq] at h
  intro q
  rcases q with q | q
  · exact h.1 q
  · omega
theorem inb_lt {i : Int32} {n : Nat} (h : inb i n = true) : i.toNatClampNeg < n := by
  simp only [inb, Bool.and_eq_true, Bool.not_eq_true', decide_eq_false_iff_not, decide_eq_true_eq] at h
  exact h.2
theorem nz_ne {x : Int32} (h : nz x = true) : ¬ x = 0 := by
  simp only [nz, Bool.not_eq_true', decide_eq_false_iff_not] at h
  exact h
theorem nep_ne {a b : Nat} (h : nep a b = true) : a ≠ b := by
  simp only [nep, Bool.not_eq_true', decide_eq_false_iff_not] at h
  exact h
theorem isb_or {x : Int32} (h : isb x = true) : x = 0 ∨ x = 1 := by
  simp only [isb, Bool.or_eq_true, decide_eq_true_eq] at h
  exact h
theorem isb_n {x : Int32} (h : isb x = true) : narrow .boolean (.int x) = .int x := by
  rcases isb_or h with rfl | rfl <;> rfl
theorem ilen_at {i : Int32} {a : Nat} (h : inb i (ilen a) = true) : SH[a]? = some (.inl (0, ilen a, none)) := by
  have h1 := inb_lt h
  unfold ilen at h1 ⊢
  rcases hs : SH[a]? with _ | ⟨t, n, rs⟩ | ⟨ci, fs⟩
  · rw [hs] at h1; exact absurd h1 (Nat.not_lt_zero _)
  · rw [hs] at h1
    cases t with
    | zero =>
      cases rs with
      | none => rfl
      | some r => exact absurd h1 (Nat.not_lt_zero _)
    | succ t => exact absurd h1 (Nat.not_lt_zero _)
  · rw [hs] at h1; exact absurd h1 (Nat.not_lt_zero _)
theorem rnd_get (σ : St) : ∀ (l : List ShC) (k i : Nat), (rnd σ k l)[i]? = (l[i]?).map (rcell σ (k + i))
  | [], k, i => by simp [rnd]
  | c :: r, k, 0 => by simp [rnd]
  | c :: r, k, i + 1 => by
    rw [rnd, List.getElem?_cons_succ, List.getElem?_cons_succ, rnd_get σ r (k + 1) i, show k + 1 + i = k + (i + 1) by omega]
theorem rnd_len (σ : St) : ∀ (l : List ShC) (k : Nat), (rnd σ k l).length = l.length
  | [], _ => rfl
  | _ :: r, k => by rw [rnd, List.length_cons, List.length_cons, rnd_len σ r (k + 1)]
theorem mem_get {σ : St} {Gb : xMem} {a : Nat} {c : ShC} (h : SH[a]? = some c) : (mem σ Gb)[a]? = some (rcell σ a c) := by
  have h1 : a < SH.length := (List.getElem?_eq_some_iff.mp h).1
  unfold mem
  rw [List.getElem?_append_left (by rw [rnd_len]; exact h1), rnd_get, h, Nat.zero_add]
  rfl
theorem rfs_congr {σ τ : St} {a : Nat} (fs : List (Option Nat)) : ∀ k, (∀ j, k ≤ j → σ a j = τ a j) → rfs σ a k fs = rfs τ a k fs := by
  induction fs with
  | nil => intro k _; rfl
  | cons o r ih =>
    intro k h
    cases o with
    | none => rw [rfs, rfs, h k (Nat.le_refl k), ih (k + 1) (fun j hj => h j (by omega))]
    | some p => rw [rfs, rfs, ih (k + 1) (fun j hj => h j (by omega))]
theorem rcell_congr {σ τ : St} {a : Nat} (h : σ a = τ a) (c : ShC) : rcell σ a c = rcell τ a c := by
  rcases c with ⟨t, n, rs⟩ | ⟨ci, fs⟩
  · cases rs with
    | none => show Sum.inl (t, n, Sum.inl (σ a)) = Sum.inl (t, n, Sum.inl (τ a)); rw [h]
    | some r => rfl
  · show Sum.inr (ci, rfs σ a 0 fs) = Sum.inr (ci, rfs τ a 0 fs)
    rw [rfs_congr fs 0 (fun j _ => by rw [h])]
theorem mem_set {σ τ : St} {Gb : xMem} {a : Nat} {c : ShC} (h : SH[a]? = some c) (hs : ∀ b, b ≠ a → τ b = σ b) : (mem σ Gb).set a (rcell τ a c) = mem τ Gb := by
  have h1 : a < SH.length := (List.getElem?_eq_some_iff.mp h).1
  apply List.ext_getElem?
  intro i
  rw [List.getElem?_set]
  by_cases e : a = i
  · subst e
    rw [if_pos rfl, if_pos (by unfold mem; rw [List.length_append, rnd_len]; omega), mem_get h]
  · rw [if_neg e]
    by_cases hi : i < SH.length
    · have h2 : SH[i]? = some SH[i] := List.getElem?_eq_getElem hi
      rw [mem_get h2, mem_get h2, rcell_congr (hs i (fun q => e q.symm))]
    · unfold mem
      rw [List.getElem?_append_right (by rw [rnd_len]; omega), List.getElem?_append_right (by rw [rnd_len]; omega), rnd_len, rnd_len]
theorem wr_off {σ : St} {a i : Nat} {v : Int32} : ∀ b, b ≠ a → wr σ a i v b = σ b := fun b h => if_neg h
theorem wr_at {σ : St} {a i : Nat} {v : Int32} : wr σ a i v a = upd (σ a) i v := if_pos rfl
theorem rfs_get {σ : St} {a : Nat} : ∀ (fs : List (Option Nat)) (k f : Nat), fs[f]? = some none → (rfs σ a k fs)[f]? = some (.int (σ a (k + f)))
  | [], _, _, h => by simp at h
  | o :: r, k, 0, h => by
    rw [List.getElem?_cons_zero] at h
    cases h
    rfl
  | o :: r, k, f + 1, h => by
    rw [List.getElem?_cons_succ] at h
    have := rfs_get (σ := σ) (a := a) r (k + 1) f h
    rw [show k + (f + 1) = k + 1 + f by omega, ← this]
    cases o <;> rw [rfs, List.getElem?_cons_succ]
theorem rfs_getR {σ : St} {a q : Nat} : ∀ (fs : List (Option Nat)) (k f : Nat), fs[f]? = some (some q) → (rfs σ a k fs)[f]? = some (.ref q)
  | [], _, _, h => by simp at h
  | o :: r, k, 0, h => by
    rw [List.getElem?_cons_zero] at h
    cases h
    rfl
  | o :: r, k, f + 1, h => by
    rw [List.getElem?_cons_succ] at h
    have := rfs_getR (σ := σ) (a := a) r (k + 1) f h
    rw [← this]
    cases o <;> rw [rfs, List.getElem?_cons_succ]
theorem rfs_len {σ : St} {a : Nat} : ∀ (fs : List (Option Nat)) (k : Nat), (rfs σ a k fs).length = fs.length
  | [], _ => rfl
  | o :: r, k => by cases o <;> rw [rfs, List.length_cons, List.length_cons, rfs_len r (k + 1)]
theorem rfs_set {σ : St} {a : Nat} {v : Int32} : ∀ (fs : List (Option Nat)) (k f : Nat), fs[f]? = some none → (rfs σ a k fs).set f (.int v) = rfs (wr σ a (k + f) v) a k fs
  | [], _, _, h => by simp at h
  | o :: r, k, 0, h => by
    rw [List.getElem?_cons_zero] at h
    cases h
    rw [rfs, rfs, List.set_cons_zero, wr_at]
    congr 1
    · simp [upd]
    · refine rfs_congr r (k + 1) (fun j hj => ?_)
      rw [wr_at]
      simp only [upd]
      rw [if_neg (by omega)]
  | o :: r, k, f + 1, h => by
    rw [List.getElem?_cons_succ] at h
    have ih := rfs_set (σ := σ) (a := a) (v := v) r (k + 1) f h
    rw [show k + 1 + f = k + (f + 1) by omega] at ih
    cases o with
    | none =>
      rw [rfs, rfs, List.set_cons_succ, ih, wr_at]
      congr 2
      simp only [upd]
      rw [if_neg (by omega)]
    | some p => rw [rfs, rfs, List.set_cons_succ, ih]
theorem xi_sub {G : xG} {mt : xM} {R : Room} {Z : xZ} {pc : Nat} {lv lv' : List (Nat × Value)} {st : List Value} {M : xMem} {k n : Nat} (ks : List Nat) (h : lv_pick lv ks = lv') (K : xW G mt R Z pc lv' st M k n) : xW G mt R Z pc lv st M k n := by
  intro p e s m args below meth c H locs ls F hR hL hl
  refine K p e s m args below meth c H locs ls F hR hL (lv_sub hl ks ?_)
  clear K
  subst h
  unfold lv_pick xcl
  rw [List.map_filterMap]
  congr 1
  funext q
  rw [List.getElem?_map]
section YI
variable {G : xG} {mt : xM} {R : Room} {Z : xZ} {pc : Nat} {lv : List (Nat × Value)} {st : List Value} {k n : Nat} {σ : St} {Gb : xMem}
theorem yi_getI {i ci f idx N : Nat} {C : String} {T : u_T} {fs : List (Option Nat)} (hd : decode mt.2.1 pc = .ok (.getfield idx, 3)) (hs : SH[i]? = some (.inr (ci, fs))) (hc : xcls[ci]? = some (C, T, N)) (ho : xok (C, T, N)) (hf : f < N) (hw : Cond.fieldLink mt.1.cls idx (T f).1 (T f).2.1 (T f).2.2.1 ∈ xWall) (hv : fs[f]? = some none)
    (K : xW G mt R Z (pc + 3) lv (.int (σ i f) :: st) (mem σ Gb) k n) : xW G mt R Z pc lv (.ref i :: st) (mem σ Gb) k n :=
  xi_get hd (mem_get hs) hc ho hf hw (by have := rfs_get (σ := σ) (a := i) fs 0 f hv; rw [Nat.zero_add] at this; exact this) K
theorem yi_getR {i ci f idx N q : Nat} {C : String} {T : u_T} {fs : List (Option Nat)} (hd : decode mt.2.1 pc = .ok (.getfield idx, 3)) (hs : SH[i]? = some (.inr (ci, fs))) (hc : xcls[ci]? = some (C, T, N)) (ho : xok (C, T, N)) (hf : f < N) (hw : Cond.fieldLink mt.1.cls idx (T f).1 (T f).2.1 (T f).2.2.1 ∈ xWall) (hv : fs[f]? = some (some q))
    (K : xW G mt R Z (pc + 3) lv (.ref q :: st) (mem σ Gb) k n) : xW G mt R Z pc lv (.ref i :: st) (mem σ Gb) k n :=
  xi_get hd (mem_get hs) hc ho hf hw (rfs_getR fs 0 f hv) K
theorem yi_put {i ci f idx N : Nat} {C : String} {T : u_T} {fs : List (Option Nat)} {v : Int32} {ty : FieldType} (hd : decode mt.2.1 pc = .ok (.putfield idx, 3)) (hs : SH[i]? = some (.inr (ci, fs))) (hc : xcls[ci]? = some (C, T, N)) (ho : xok (C, T, N)) (hf : f < N) (hw : Cond.fieldLink mt.1.cls idx (T f).1 (T f).2.1 (T f).2.2.1 ∈ xWall) (hv : fs[f]? = some none) (hfin : (T f).2.2.2 = false) (hp : parseFieldDescriptor (T f).2.2.1 = some ty) (hn : narrow ty (.int v) = .int v) (hfit : fits ty (.int v) = true)
    (K : xW G mt R Z (pc + 3) lv st (mem (wr σ i f v) Gb) k n) : xW G mt R Z pc lv (.int v :: .ref i :: st) (mem σ Gb) k n := by
  refine xi_put (M' := mem (wr σ i f v) Gb) hd (mem_get hs) hc ho hf hw hfin hp (fun _ h => by cases h) hn hfit (by rw [rfs_len]; exact (List.getElem?_eq_some_iff.mp hv).1) ?_ K
  have := rfs_set (σ := σ) (a := i) (v := v) fs 0 f hv
  rw [Nat.zero_add] at this
  rw [this]
  exact mem_set (c := .inr (ci, fs)) hs wr_off
theorem yi_iaload {i N : Nat} {j : Int32} (hd : decode mt.2.1 pc = .ok (.iaload, 1)) (hs : SH[i]? = some (.inl (0, N, none))) (hin : inb j N = true)
    (K : xW G mt R Z (pc + 1) lv (.int (rd σ i j) :: st) (mem σ Gb) k n) : xW G mt R Z pc lv (.int j :: .ref i :: st) (mem σ Gb) k n :=
  xi_iaload hd (mem_get hs) (inb_vp hin) rfl K
theorem yi_baload {i N : Nat} {j : Int32} (hd : decode mt.2.1 pc = .ok (.baload, 1)) (hs : SH[i]? = some (.inl (1, N, none))) (hin : inb j N = true)
    (K : xW G mt R Z (pc + 1) lv (.int (rd σ i j) :: st) (mem σ Gb) k n) : xW G mt R Z pc lv (.int j :: .ref i :: st) (mem σ Gb) k n :=
  xi_baload hd (mem_get hs) (inb_vp hin) rfl K
theorem yi_iastore {i N : Nat} {j x : Int32} (hd : decode mt.2.1 pc = .ok (.iastore, 1)) (hs : SH[i]? = some (.inl (0, N, none))) (hin : inb j N = true)
    (K : xW G mt R Z (pc + 1) lv st (mem (wri σ i j x) Gb) k n) : xW G mt R Z pc lv (.int x :: .int j :: .ref i :: st) (mem σ Gb) k n := by
  refine xi_iastore (M' := mem (wri σ i j x) Gb) hd (mem_get hs) (inb_vp hin) ?_ K
  have h := mem_set (σ := σ) (τ := wri σ i j x) (Gb := Gb) hs wr_off
  rw [← h]
  show _ = (mem σ Gb).set i (Sum.inl (0, N, Sum.inl (wr σ i j.toNatClampNeg x i)))
  rw [wr_at]
theorem yi_bastore {i N : Nat} {j x : Int32} (hd : decode mt.2.1 pc = .ok (.bastore, 1)) (hs : SH[i]? = some (.inl (1, N, none))) (hin : inb j N = true)
    (K : xW G mt R Z (pc + 1) lv st (mem (wri σ i j x.toInt8.toInt32) Gb) k n) : xW G mt R Z pc lv (.int x :: .int j :: .ref i :: st) (mem σ Gb) k n := by
  refine xi_bastore (M' := mem (wri σ i j x.toInt8.toInt32) Gb) hd (mem_get hs) (inb_vp hin) ?_ K
  have h := mem_set (σ := σ) (τ := wri σ i j x.toInt8.toInt32) (Gb := Gb) hs wr_off
  rw [← h]
  show _ = (mem σ Gb).set i (Sum.inl (1, N, Sum.inl (wr σ i j.toNatClampNeg x.toInt8.toInt32 i)))
  rw [wr_at]
theorem yi_aaload {i t N : Nat} {rs : List Nat} {C : String} {j : Int32} (hd : decode mt.2.1 pc = .ok (.aaload, 1)) (hs : SH[i]? = some (.inl (t, N, some rs))) (hN : rs.length = N) (ht : (xtys G)[t]? = some (G.2.2.1 t, .object C)) (hin : inb j N = true)
    (K : xW G mt R Z (pc + 1) lv (.ref (el i j) :: st) (mem σ Gb) k n) : xW G mt R Z pc lv (.int j :: .ref i :: st) (mem σ Gb) k n := by
  refine xi_aaload (v := .ref (el i j)) hd (mem_get hs) ht (inb_vp hin) ?_ K
  have h := inb_lt hin
  have e : el i j = rs.getD j.toNatClampNeg 0 := by unfold el; rw [hs]
  rw [e, List.getD_eq_getElem?_getD, List.getElem?_eq_getElem (by omega)]
  rfl
theorem yi_alen {i t N : Nat} {ty : FieldType} (hd : decode mt.2.1 pc = .ok (.arraylength, 1)) (hs : SH[i]? = some (.inl (t, N, none))) (ht : (xtys G)[t]? = some (G.2.2.1 t, ty))
    (K : xW G mt R Z (pc + 1) lv (.int (Int32.ofNat N) :: st) (mem σ Gb) k n) : xW G mt R Z pc lv (.ref i :: st) (mem σ Gb) k n :=
  xi_alen hd (mem_get hs) ht rfl K
end YI
/-! steps that may fail, and loops -/
def bnd {α β : Type} (m : Option (α × St)) (f : α → St → Option β) : Option β := match m with | none => none | some q => f q.1 q.2
theorem bnd_some {α β : Type} {m : Option (α × St)} {f : α → St → Option β} {r : β} (h : bnd m f = some r) : ∃ v s, m = some (v, s) ∧ f v s = some r := by
  rcases m with _ | ⟨v, s⟩
  · cases h
  · exact ⟨v, s, rfl, h⟩
def chk {β : Type} (c : Bool) (m : Option β) : Option β := match c with | true => m | false => none
theorem chk_some {β : Type} {c : Bool} {m : Option β} {r : β} (h : chk c m = some r) : c = true ∧ m = some r := by
  cases c
  · cases h
  · exact ⟨rfl, h⟩
theorem some_pair {α : Type} {a b : α} {s t : St} (h : some (a, s) = some (b, t)) : a = b ∧ s = t := by
  have := Option.some.inj h
  exact ⟨congrArg Prod.fst this, congrArg Prod.snd this⟩
theorem ite_p {β : Type} {c : Prop} [Decidable c] {x y : Option β} {r : β} (h : c) (q : (if c then x else y) = some r) : x = some r := by rw [if_pos h] at q; exact q
theorem ite_n {β : Type} {c : Prop} [Decidable c] {x y : Option β} {r : β} (h : ¬ c) (q : (if c then x else y) = some r) : y = some r := by rw [if_neg h] at q; exact q
theorem oel_n {β : Type} {x : Option β} {f : Nat → Option β} {r : β} (q : Option.elim none x f = some r) : x = some r := q
theorem oel_s {β : Type} {x : Option β} {f : Nat → Option β} {r : β} {v : Nat} (q : Option.elim (some v) x f = some r) : f v = some r := q
theorem sel_l {α γ β : Type} {x : α → Option β} {f : γ → Option β} {r : β} {v : α} (q : Sum.elim x f (.inl v) = some r) : x v = some r := q
theorem sel_r {α γ β : Type} {x : α → Option β} {f : γ → Option β} {r : β} {v : γ} (q : Sum.elim x f (.inr v) = some r) : f v = some r := q
def itr {C R : Type} (f : C → St → Option ((C ⊕ R) × St)) : Nat → C → St → Option (R × St)
  | 0, _, _ => none
  | k + 1, c, s => bnd (f c s) (fun x t => Sum.elim (fun d => itr f k d t) (fun r => some (r, t)) x)
theorem itr_zero {C R : Type} (f : C → St → Option ((C ⊕ R) × St)) (c : C) (s : St) (r : R × St) : ¬ itr f 0 c s = some r := by
  intro h
  cases h
theorem itr_succ {C R : Type} {f : C → St → Option ((C ⊕ R) × St)} {k : Nat} {c : C} {s : St} {r : R × St} (h : itr f (k + 1) c s = some r) : ∃ x t, f c s = some (x, t) ∧ Sum.elim (fun d => itr f k d t) (fun r => some (r, t)) x = some r := by
  rw [itr] at h
  exact bnd_some h
theorem itr_mono {C R : Type} {f : C → St → Option ((C ⊕ R) × St)} : ∀ {k : Nat} {c : C} {s : St} {r : R × St}, itr f k c s = some r → itr f (k + 1) c s = some r := by
  intro k
  induction k with
  | zero => intro c s r h; exact absurd h (itr_zero _ _ _ _)
  | succ k ih =>
    intro c s r h
    obtain ⟨x, t, h1, h2⟩ := itr_succ h
    rw [itr, h1]
    show Sum.elim (fun d => itr f (k + 1) d t) (fun r => some (r, t)) x = some r
    rcases x with d | e
    · exact ih h2
    · exact h2
theorem itr_le {C R : Type} {f : C → St → Option ((C ⊕ R) × St)} {k m : Nat} {c : C} {s : St} {r : R × St} (h : itr f k c s = some r) (hm : k ≤ m) : itr f m c s = some r := by
  induction hm with
  | refl => exact h
  | step _ ih => exact itr_mono ih
noncomputable def wh {C R : Type} (f : C → St → Option ((C ⊕ R) × St)) (c : C) (s : St) : Option (R × St) :=
  match Classical.propDecidable (∃ k r, itr f k c s = some r) with
  | .isTrue h => some (Classical.choose (Classical.choose_spec h))
  | .isFalse _ => none
theorem wh_itr {C R : Type} {f : C → St → Option ((C ⊕ R) × St)} {c : C} {s : St} {r : R × St} (h : wh f c s = some r) : ∃ k, itr f k c s = some r := by
  unfold wh at h
  split at h
  · rename_i hh _
    have := Classical.choose_spec (Classical.choose_spec hh)
    exact ⟨_, by rw [this]; exact h⟩
  · cases h
theorem wh_of {C R : Type} {f : C → St → Option ((C ⊕ R) × St)} {c : C} {s : St} {r : R × St} {k : Nat} (h : itr f k c s = some r) : wh f c s = some r := by
  unfold wh
  split
  · rename_i hh _
    have h1 := Classical.choose_spec (Classical.choose_spec hh)
    have h2 := itr_le h1 (Nat.le_max_left _ k)
    have h3 := itr_le h (Nat.le_max_right (Classical.choose hh) k)
    rw [h2] at h3
    exact h3
  · rename_i hh _
    exact absurd ⟨k, r, h⟩ hh
/-! reads and writes by name -/
def rdb {β : Type} (σ : St) (a i : Nat) (f : Int32 → Option β) : Option β := f (σ a i)
def wrb {β : Type} (σ : St) (a i : Nat) (v : Int32) (f : St → Option β) : Option β := f (wr σ a i v)
def cpb {β : Type} (σ : St) (a b n : Nat) (f : St → Option β) : Option β := f (cpy σ a b n)
theorem rdb_some {β : Type} {σ : St} {a i : Nat} {f : Int32 → Option β} {r : β} (h : rdb σ a i f = some r) : ∃ v, v = σ a i ∧ f v = some r := ⟨_, rfl, h⟩
theorem wrb_some {β : Type} {σ : St} {a i : Nat} {v : Int32} {f : St → Option β} {r : β} (h : wrb σ a i v f = some r) : ∃ s, s = wr σ a i v ∧ f s = some r := ⟨_, rfl, h⟩
theorem cpb_some {β : Type} {σ : St} {a b n : Nat} {f : St → Option β} {r : β} (h : cpb σ a b n f = some r) : ∃ s, s = cpy σ a b n ∧ f s = some r := ⟨_, rfl, h⟩
section YV
variable {G : xG} {mt : xM} {R : Room} {Z : xZ} {pc : Nat} {lv : List (Nat × Value)} {st : List Value} {k n : Nat} {σ τ : St} {Gb : xMem}
theorem yi_getV {i ci f idx N : Nat} {C : String} {T : u_T} {fs : List (Option Nat)} {v : Int32} (hd : decode mt.2.1 pc = .ok (.getfield idx, 3)) (hs : SH[i]? = some (.inr (ci, fs))) (hc : xcls[ci]? = some (C, T, N)) (ho : xok (C, T, N)) (hf : f < N) (hw : Cond.fieldLink mt.1.cls idx (T f).1 (T f).2.1 (T f).2.2.1 ∈ xWall) (hv : fs[f]? = some none) (he : v = σ i f)
    (K : xW G mt R Z (pc + 3) lv (.int v :: st) (mem σ Gb) k n) : xW G mt R Z pc lv (.ref i :: st) (mem σ Gb) k n := by
  subst he
  exact yi_getI hd hs hc ho hf hw hv K
theorem yi_putV {i ci f idx N : Nat} {C : String} {T : u_T} {fs : List (Option Nat)} {v : Int32} {ty : FieldType} (hd : decode mt.2.1 pc = .ok (.putfield idx, 3)) (hs : SH[i]? = some (.inr (ci, fs))) (hc : xcls[ci]? = some (C, T, N)) (ho : xok (C, T, N)) (hf : f < N) (hw : Cond.fieldLink mt.1.cls idx (T f).1 (T f).2.1 (T f).2.2.1 ∈ xWall) (hv : fs[f]? = some none) (hfin : (T f).2.2.2 = false) (hp : parseFieldDescriptor (T f).2.2.1 = some ty) (hn : narrow ty (.int v) = .int v) (hfit : fits ty (.int v) = true) (he : τ = wr σ i f v)
    (K : xW G mt R Z (pc + 3) lv st (mem τ Gb) k n) : xW G mt R Z pc lv (.int v :: .ref i :: st) (mem σ Gb) k n := by
  subst he
  exact yi_put hd hs hc ho hf hw hv hfin hp hn hfit K
theorem yi_ialoadV {i N : Nat} {j v : Int32} (hd : decode mt.2.1 pc = .ok (.iaload, 1)) (hs : SH[i]? = some (.inl (0, N, none))) (hin : inb j N = true) (he : v = σ i j.toNatClampNeg)
    (K : xW G mt R Z (pc + 1) lv (.int v :: st) (mem σ Gb) k n) : xW G mt R Z pc lv (.int j :: .ref i :: st) (mem σ Gb) k n := by
  subst he
  exact yi_iaload hd hs hin K
theorem yi_baloadV {i N : Nat} {j v : Int32} (hd : decode mt.2.1 pc = .ok (.baload, 1)) (hs : SH[i]? = some (.inl (1, N, none))) (hin : inb j N = true) (he : v = σ i j.toNatClampNeg)
    (K : xW G mt R Z (pc + 1) lv (.int v :: st) (mem σ Gb) k n) : xW G mt R Z pc lv (.int j :: .ref i :: st) (mem σ Gb) k n := by
  subst he
  exact yi_baload hd hs hin K
theorem yi_iastoreV {i N : Nat} {j x : Int32} (hd : decode mt.2.1 pc = .ok (.iastore, 1)) (hs : SH[i]? = some (.inl (0, N, none))) (hin : inb j N = true) (he : τ = wr σ i j.toNatClampNeg x)
    (K : xW G mt R Z (pc + 1) lv st (mem τ Gb) k n) : xW G mt R Z pc lv (.int x :: .int j :: .ref i :: st) (mem σ Gb) k n := by
  subst he
  exact yi_iastore hd hs hin K
theorem yi_bastoreV {i N : Nat} {j x : Int32} (hd : decode mt.2.1 pc = .ok (.bastore, 1)) (hs : SH[i]? = some (.inl (1, N, none))) (hin : inb j N = true) (he : τ = wr σ i j.toNatClampNeg x.toInt8.toInt32)
    (K : xW G mt R Z (pc + 1) lv st (mem τ Gb) k n) : xW G mt R Z pc lv (.int x :: .int j :: .ref i :: st) (mem σ Gb) k n := by
  subst he
  exact yi_bastore hd hs hin K
end YV
/-! numbers -/
abbrev shl (x y : Int32) : Int32 := x <<< (y &&& 31)
abbrev shr (x y : Int32) : Int32 := x >>> (y &&& 31)
abbrev ushr (x y : Int32) : Int32 := (x.toUInt32 >>> (y.toUInt32 &&& Int32.toUInt32 31)).toInt32
abbrev irem (x y : Int32) : Int32 := x - x / y * y
abbrev mxI (x y : Int32) : Int32 := if x < y then y else x
abbrev mnI (x y : Int32) : Int32 := if y < x then y else x
abbrev abI (x : Int32) : Int32 := if 0 ≤ x then x else 0 - x
abbrev chr (l : List Int32) (i : Int32) : Int32 := l.getD i.toNatClampNeg 0
/-! what a call comes to -/
def ov : Option Nat → Value
  | none => .null
  | some x => .ref x
abbrev PQ (r : Int32) (t : St) (Gb : xMem) : Option Value → xMem → Prop := fun v M2 => v = some (.int r) ∧ M2 = mem t Gb
abbrev PV (_ : Unit) (t : St) (Gb : xMem) : Option Value → xMem → Prop := fun v M2 => v = none ∧ M2 = mem t Gb
abbrev PR (r : Option Nat) (t : St) (Gb : xMem) : Option Value → xMem → Prop := fun v M2 => v = some (ov r) ∧ M2 = mem t Gb
