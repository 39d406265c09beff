/-! words of the tables (printed by wip/p1/factsall.py) -/
theorem xt1 {w : Cond} (i : Nat) (h : tables_1_1[i]? = some w) (g : goodWord w = true) : w ∈ xWall := List.mem_filter.mpr ⟨List.mem_append.mpr (Or.inr (List.mem_append.mpr (Or.inl (List.mem_of_getElem? h)))), g⟩
theorem xt2 {w : Cond} (i : Nat) (h : tables_1_2[i]? = some w) (g : goodWord w = true) : w ∈ xWall := List.mem_filter.mpr ⟨List.mem_append.mpr (Or.inr (List.mem_append.mpr (Or.inr (List.mem_append.mpr (Or.inl (List.mem_of_getElem? h)))))), g⟩
theorem xt3 {w : Cond} (i : Nat) (h : tables_1_3[i]? = some w) (g : goodWord w = true) : w ∈ xWall := List.mem_filter.mpr ⟨List.mem_append.mpr (Or.inr (List.mem_append.mpr (Or.inr (List.mem_append.mpr (Or.inr (List.mem_append.mpr (Or.inl (List.mem_of_getElem? h)))))))), g⟩
theorem xt4 {w : Cond} (i : Nat) (h : tables_1_4[i]? = some w) (g : goodWord w = true) : w ∈ xWall := List.mem_filter.mpr ⟨List.mem_append.mpr (Or.inr (List.mem_append.mpr (Or.inr (List.mem_append.mpr (Or.inr (List.mem_append.mpr (Or.inr (List.mem_append.mpr (Or.inl (List.mem_of_getElem? h)))))))))), g⟩
theorem xt5 {w : Cond} (i : Nat) (h : tables_1_5[i]? = some w) (g : goodWord w = true) : w ∈ xWall := List.mem_filter.mpr ⟨List.mem_append.mpr (Or.inr (List.mem_append.mpr (Or.inr (List.mem_append.mpr (Or.inr (List.mem_append.mpr (Or.inr (List.mem_append.mpr (Or.inr (List.mem_append.mpr (Or.inl (List.mem_of_getElem? h)))))))))))), g⟩
theorem xt6 {w : Cond} (i : Nat) (h : tables_1_6[i]? = some w) (g : goodWord w = true) : w ∈ xWall := List.mem_filter.mpr ⟨List.mem_append.mpr (Or.inr (List.mem_append.mpr (Or.inr (List.mem_append.mpr (Or.inr (List.mem_append.mpr (Or.inr (List.mem_append.mpr (Or.inr (List.mem_append.mpr (Or.inr (List.mem_append.mpr (Or.inl (List.mem_of_getElem? h)))))))))))))), g⟩
theorem xt7 {w : Cond} (i : Nat) (h : tables_1_7[i]? = some w) (g : goodWord w = true) : w ∈ xWall := List.mem_filter.mpr ⟨List.mem_append.mpr (Or.inr (List.mem_append.mpr (Or.inr (List.mem_append.mpr (Or.inr (List.mem_append.mpr (Or.inr (List.mem_append.mpr (Or.inr (List.mem_append.mpr (Or.inr (List.mem_append.mpr (Or.inr (List.mem_of_getElem? h)))))))))))))), g⟩
theorem w_0 : (Jvm.Cond.initialized "ThinRowLaw") ∈ xWall := xt1 0 rfl rfl
theorem w_1 : (Jvm.Cond.initialized "ThinRow") ∈ xWall := xt1 1 rfl rfl
theorem w_2 : (Jvm.Cond.initialized "ThinRow$Bytes") ∈ xWall := xt1 2 rfl rfl
theorem w_3 : (Jvm.Cond.initialized "java/lang/Math") ∈ xWall := xt1 3 rfl rfl
theorem w_4 : (Jvm.Cond.initialized "ThinRow$Reader") ∈ xWall := xt1 4 rfl rfl
theorem w_5 : (Jvm.Cond.initialized "ThinRow$Net") ∈ xWall := xt1 5 rfl rfl
theorem w_6 : (Jvm.Cond.initialized "ThinRow$Findings") ∈ xWall := xt1 6 rfl rfl
theorem w_7 : (Jvm.Cond.initialized "ThinRow$Finding") ∈ xWall := xt1 7 rfl rfl
theorem w_8 : (Jvm.Cond.initialized "ThinRow$SetSearch") ∈ xWall := xt1 8 rfl rfl
theorem w_9 : (Jvm.Cond.initialized "ThinRow$BandSearch") ∈ xWall := xt1 9 rfl rfl
theorem w_10 : (Jvm.Cond.initialized "ThinRow$History") ∈ xWall := xt1 10 rfl rfl
theorem w_11 : (Jvm.Cond.initialized "ThinRowModel") ∈ xWall := xt1 11 rfl rfl
theorem w_12 : (Jvm.Cond.initialized "java/lang/String") ∈ xWall := xt1 12 rfl rfl
theorem w_13 : (Jvm.Cond.initialized "java/lang/StringLatin1") ∈ xWall := xt1 13 rfl rfl
theorem w_14 : (Jvm.Cond.initialized "jdk/internal/util/Preconditions") ∈ xWall := xt1 14 rfl rfl
theorem w_15 : (Jvm.Cond.initialized "java/lang/StringUTF16") ∈ xWall := xt1 15 rfl rfl
theorem w_16 : (Jvm.Cond.initialized "java/util/Arrays") ∈ xWall := xt1 16 rfl rfl
theorem w_17 : (Jvm.Cond.initialized "java/lang/System") ∈ xWall := xt1 17 rfl rfl
theorem w_18 : (Jvm.Cond.initialized "ThinRow$Shape") ∈ xWall := xt1 18 rfl rfl
theorem w_19 : (Jvm.Cond.initialized "java/lang/Integer") ∈ xWall := xt1 19 rfl rfl
theorem w_20 : (Jvm.Cond.initialized "ThinRow$Rows") ∈ xWall := xt1 20 rfl rfl
theorem w_21 : (Jvm.Cond.initialized "ThinRow$Prices") ∈ xWall := xt1 21 rfl rfl
theorem w_22 : (Jvm.Cond.classLink "ThinRowLaw" (7 : Nat) "ThinRow") ∈ xWall := xt1 22 rfl rfl
theorem w_23 : (Jvm.Cond.instantiable "ThinRow" (10 : Nat)) ∈ xWall := xt1 23 rfl rfl
theorem w_24 : (Jvm.Cond.methodLink "ThinRowLaw" (9 : Nat) ({ cls := "ThinRow", name := "<init>", desc := "()V" } : Jvm.MethodName)) ∈ xWall := xt1 24 rfl rfl
theorem w_25 : (Jvm.Cond.instanceMethod ({ cls := "ThinRow", name := "<init>", desc := "()V" } : Jvm.MethodName)) ∈ xWall := xt1 25 rfl rfl
theorem w_26 : (Jvm.Cond.code ({ cls := "ThinRow", name := "<init>", desc := "()V" } : Jvm.MethodName) prog_1_method_1_code (2 : Nat) (Option.none : Option Jvm.ClassFile.FieldType)) ∈ xWall := xt1 26 rfl rfl
theorem w_27 : (Jvm.Cond.methodLink "ThinRow" (1 : Nat) ({ cls := "java/lang/Object", name := "<init>", desc := "()V" } : Jvm.MethodName)) ∈ xWall := xt1 27 rfl rfl
theorem w_28 : (Jvm.Cond.instanceMethod ({ cls := "java/lang/Object", name := "<init>", desc := "()V" } : Jvm.MethodName)) ∈ xWall := xt1 28 rfl rfl
theorem w_29 : (Jvm.Cond.code ({ cls := "java/lang/Object", name := "<init>", desc := "()V" } : Jvm.MethodName) object_method_1_code (1 : Nat) (Option.none : Option Jvm.ClassFile.FieldType)) ∈ xWall := xt1 29 rfl rfl
theorem w_30 : (Jvm.Cond.classLink "ThinRow" (7 : Nat) "ThinRow$Bytes") ∈ xWall := xt1 30 rfl rfl
theorem w_31 : (Jvm.Cond.instantiable "ThinRow$Bytes" (2 : Nat)) ∈ xWall := xt1 31 rfl rfl
theorem w_32 : (Jvm.Cond.methodLink "ThinRow" (11 : Nat) ({ cls := "ThinRow$Bytes", name := "<init>", desc := "(I)V" } : Jvm.MethodName)) ∈ xWall := xt1 32 rfl rfl
theorem w_33 : (Jvm.Cond.instanceMethod ({ cls := "ThinRow$Bytes", name := "<init>", desc := "(I)V" } : Jvm.MethodName)) ∈ xWall := xt1 33 rfl rfl
theorem w_34 : (Jvm.Cond.code ({ cls := "ThinRow$Bytes", name := "<init>", desc := "(I)V" } : Jvm.MethodName) prog_3_method_1_code (2 : Nat) (Option.none : Option Jvm.ClassFile.FieldType)) ∈ xWall := xt1 34 rfl rfl
theorem w_35 : (Jvm.Cond.methodLink "ThinRow$Bytes" (3 : Nat) ({ cls := "java/lang/Object", name := "<init>", desc := "()V" } : Jvm.MethodName)) ∈ xWall := xt1 35 rfl rfl
theorem w_36 : (Jvm.Cond.methodLink "ThinRow$Bytes" (9 : Nat) ({ cls := "java/lang/Math", name := "max", desc := "(II)I" } : Jvm.MethodName)) ∈ xWall := xt1 36 rfl rfl
theorem w_37 : (Jvm.Cond.static ({ cls := "java/lang/Math", name := "max", desc := "(II)I" } : Jvm.MethodName)) ∈ xWall := xt1 37 rfl rfl
theorem w_38 : (Jvm.Cond.code ({ cls := "java/lang/Math", name := "max", desc := "(II)I" } : Jvm.MethodName) prog_16_method_65_code (2 : Nat) (Option.some Jvm.ClassFile.FieldType.int)) ∈ xWall := xt1 38 rfl rfl
theorem w_39 : (Jvm.Cond.fieldLink "ThinRow$Bytes" (15 : Nat) "ThinRow$Bytes" "held" "[B") ∈ xWall := xt1 39 rfl rfl
theorem w_40 : (Jvm.Cond.fieldLink "ThinRow$Bytes" (21 : Nat) "ThinRow$Bytes" "size" "I") ∈ xWall := xt1 40 rfl rfl
theorem w_41 : (Jvm.Cond.fieldLink "ThinRow" (79 : Nat) "ThinRow$Bytes" "size" "I") ∈ xWall := xt1 41 rfl rfl
theorem w_42 : (Jvm.Cond.fieldLink "ThinRow$Reader" (138 : Nat) "ThinRow$Bytes" "size" "I") ∈ xWall := xt1 42 rfl rfl
theorem w_43 : (Jvm.Cond.laysFinal "ThinRow$Bytes" "ThinRow$Bytes" "held" "[B") ∈ xWall := xt1 43 rfl rfl
theorem w_45 : (Jvm.Cond.lays "ThinRow$Bytes" "ThinRow$Bytes" "size" "I") ∈ xWall := xt1 45 rfl rfl
theorem w_48 : (Jvm.Cond.arrayClass Jvm.ClassFile.FieldType.byte) ∈ xWall := xt1 48 rfl rfl
theorem w_49 : (Jvm.Cond.classLink "ThinRow" (21 : Nat) "ThinRow$Reader") ∈ xWall := xt1 49 rfl rfl
theorem w_50 : (Jvm.Cond.instantiable "ThinRow$Reader" (8 : Nat)) ∈ xWall := xt1 50 rfl rfl
theorem w_51 : (Jvm.Cond.methodLink "ThinRow" (23 : Nat) ({ cls := "ThinRow$Reader", name := "<init>", desc := "(LThinRow$Bytes;)V" } : Jvm.MethodName)) ∈ xWall := xt1 51 rfl rfl
theorem w_52 : (Jvm.Cond.instanceMethod ({ cls := "ThinRow$Reader", name := "<init>", desc := "(LThinRow$Bytes;)V" } : Jvm.MethodName)) ∈ xWall := xt1 52 rfl rfl
theorem w_53 : (Jvm.Cond.code ({ cls := "ThinRow$Reader", name := "<init>", desc := "(LThinRow$Bytes;)V" } : Jvm.MethodName) prog_9_method_1_code (2 : Nat) (Option.none : Option Jvm.ClassFile.FieldType)) ∈ xWall := xt1 53 rfl rfl
theorem w_54 : (Jvm.Cond.methodLink "ThinRow$Reader" (3 : Nat) ({ cls := "java/lang/Object", name := "<init>", desc := "()V" } : Jvm.MethodName)) ∈ xWall := xt1 54 rfl rfl
theorem w_55 : (Jvm.Cond.classLink "ThinRow$Reader" (9 : Nat) "ThinRow$Net") ∈ xWall := xt1 55 rfl rfl
theorem w_56 : (Jvm.Cond.instantiable "ThinRow$Net" (5 : Nat)) ∈ xWall := xt1 56 rfl rfl
theorem w_58 : (Jvm.Cond.instanceMethod ({ cls := "ThinRow$Net", name := "<init>", desc := "()V" } : Jvm.MethodName)) ∈ xWall := xt1 58 rfl rfl
theorem w_59 : (Jvm.Cond.code ({ cls := "ThinRow$Net", name := "<init>", desc := "()V" } : Jvm.MethodName) prog_7_method_1_code (1 : Nat) (Option.none : Option Jvm.ClassFile.FieldType)) ∈ xWall := xt1 59 rfl rfl
theorem w_60 : (Jvm.Cond.methodLink "ThinRow$Net" (3 : Nat) ({ cls := "java/lang/Object", name := "<init>", desc := "()V" } : Jvm.MethodName)) ∈ xWall := xt1 60 rfl rfl
theorem w_61 : (Jvm.Cond.fieldLink "ThinRow$Net" (21 : Nat) "ThinRow$Net" "points" "I") ∈ xWall := xt1 61 rfl rfl
theorem w_62 : (Jvm.Cond.fieldLink "ThinRow$Shape" (9 : Nat) "ThinRow$Net" "points" "I") ∈ xWall := xt1 62 rfl rfl
theorem w_63 : (Jvm.Cond.fieldLink "ThinRow$Rows" (15 : Nat) "ThinRow$Net" "points" "I") ∈ xWall := xt1 63 rfl rfl
theorem w_64 : (Jvm.Cond.fieldLink "ThinRow$BandSearch" (55 : Nat) "ThinRow$Net" "points" "I") ∈ xWall := xt1 64 rfl rfl
theorem w_65 : (Jvm.Cond.fieldLink "ThinRow$SetSearch" (56 : Nat) "ThinRow$Net" "points" "I") ∈ xWall := xt1 65 rfl rfl
theorem w_66 : (Jvm.Cond.fieldLink "ThinRow" (120 : Nat) "ThinRow$Net" "points" "I") ∈ xWall := xt1 66 rfl rfl
theorem w_67 : (Jvm.Cond.fieldLink "ThinRow$Prices" (57 : Nat) "ThinRow$Net" "points" "I") ∈ xWall := xt1 67 rfl rfl
theorem w_68 : (Jvm.Cond.fieldLink "ThinRow$Reader" (104 : Nat) "ThinRow$Net" "points" "I") ∈ xWall := xt1 68 rfl rfl
theorem w_69 : (Jvm.Cond.fieldLink "ThinRow$Net" (25 : Nat) "ThinRow$Net" "lines" "I") ∈ xWall := xt1 69 rfl rfl
theorem w_70 : (Jvm.Cond.fieldLink "ThinRow" (100 : Nat) "ThinRow$Net" "lines" "I") ∈ xWall := xt1 70 rfl rfl
theorem w_71 : (Jvm.Cond.fieldLink "ThinRow$Reader" (79 : Nat) "ThinRow$Net" "lines" "I") ∈ xWall := xt1 71 rfl rfl
theorem w_72 : (Jvm.Cond.fieldLink "ThinRow$Net" (9 : Nat) "ThinRow$Net" "nearBits" "[I") ∈ xWall := xt1 72 rfl rfl
theorem w_73 : (Jvm.Cond.fieldLink "ThinRow$Shape" (34 : Nat) "ThinRow$Net" "nearBits" "[I") ∈ xWall := xt1 73 rfl rfl
theorem w_74 : (Jvm.Cond.fieldLink "ThinRow$Prices" (61 : Nat) "ThinRow$Net" "nearBits" "[I") ∈ xWall := xt1 74 rfl rfl
theorem w_75 : (Jvm.Cond.fieldLink "ThinRow$SetSearch" (101 : Nat) "ThinRow$Net" "nearBits" "[I") ∈ xWall := xt1 75 rfl rfl
theorem w_76 : (Jvm.Cond.fieldLink "ThinRow" (144 : Nat) "ThinRow$Net" "nearBits" "[I") ∈ xWall := xt1 76 rfl rfl
theorem w_77 : (Jvm.Cond.fieldLink "ThinRow$BandSearch" (93 : Nat) "ThinRow$Net" "nearBits" "[I") ∈ xWall := xt1 77 rfl rfl
theorem w_78 : (Jvm.Cond.fieldLink "ThinRow$Net" (15 : Nat) "ThinRow$Net" "order" "[I") ∈ xWall := xt1 78 rfl rfl
theorem w_79 : (Jvm.Cond.fieldLink "ThinRow$Rows" (21 : Nat) "ThinRow$Net" "order" "[I") ∈ xWall := xt1 79 rfl rfl
theorem w_80 : (Jvm.Cond.fieldLink "ThinRow$Prices" (27 : Nat) "ThinRow$Net" "order" "[I") ∈ xWall := xt1 80 rfl rfl
theorem w_81 : (Jvm.Cond.fieldLink "ThinRow$Reader" (116 : Nat) "ThinRow$Net" "order" "[I") ∈ xWall := xt1 81 rfl rfl
theorem w_82 : (Jvm.Cond.fieldLink "ThinRow" (156 : Nat) "ThinRow$Net" "order" "[I") ∈ xWall := xt1 82 rfl rfl
theorem w_83 : (Jvm.Cond.fieldLink "ThinRow$Net" (18 : Nat) "ThinRow$Net" "weights" "[I") ∈ xWall := xt1 83 rfl rfl
theorem w_84 : (Jvm.Cond.lays "ThinRow$Net" "ThinRow$Net" "points" "I") ∈ xWall := xt1 84 rfl rfl
theorem w_86 : (Jvm.Cond.lays "ThinRow$Net" "ThinRow$Net" "lines" "I") ∈ xWall := xt1 86 rfl rfl
theorem w_88 : (Jvm.Cond.laysFinal "ThinRow$Net" "ThinRow$Net" "nearBits" "[I") ∈ xWall := xt1 88 rfl rfl
theorem w_90 : (Jvm.Cond.laysFinal "ThinRow$Net" "ThinRow$Net" "order" "[I") ∈ xWall := xt1 90 rfl rfl
theorem w_92 : (Jvm.Cond.laysFinal "ThinRow$Net" "ThinRow$Net" "weights" "[I") ∈ xWall := xt1 92 rfl rfl
theorem w_95 : (Jvm.Cond.arrayClass Jvm.ClassFile.FieldType.int) ∈ xWall := xt1 95 rfl rfl
theorem w_96 : (Jvm.Cond.fieldLink "ThinRow$Reader" (12 : Nat) "ThinRow$Reader" "draft" "LThinRow$Net;") ∈ xWall := xt1 96 rfl rfl
theorem w_97 : (Jvm.Cond.fieldLink "ThinRow" (94 : Nat) "ThinRow$Reader" "draft" "LThinRow$Net;") ∈ xWall := xt1 97 rfl rfl
theorem w_98 : (Jvm.Cond.fieldLink "ThinRow$Reader" (26 : Nat) "ThinRow$Reader" "faultNumber" "I") ∈ xWall := xt1 98 rfl rfl
theorem w_99 : (Jvm.Cond.fieldLink "ThinRow" (103 : Nat) "ThinRow$Reader" "faultNumber" "I") ∈ xWall := xt1 99 rfl rfl
theorem w_100 : (Jvm.Cond.fieldLink "ThinRow$Reader" (18 : Nat) "ThinRow$Reader" "faultPlace" "I") ∈ xWall := xt1 100 rfl rfl
theorem w_101 : (Jvm.Cond.fieldLink "ThinRow" (106 : Nat) "ThinRow$Reader" "faultPlace" "I") ∈ xWall := xt1 101 rfl rfl
theorem w_102 : (Jvm.Cond.fieldLink "ThinRow$Reader" (22 : Nat) "ThinRow$Reader" "source" "LThinRow$Bytes;") ∈ xWall := xt1 102 rfl rfl
theorem w_103 : (Jvm.Cond.fieldLink "ThinRow$Reader" (93 : Nat) "ThinRow$Reader" "kind" "I") ∈ xWall := xt1 103 rfl rfl
theorem w_104 : (Jvm.Cond.fieldLink "ThinRow$Reader" (101 : Nat) "ThinRow$Reader" "start" "I") ∈ xWall := xt1 104 rfl rfl
theorem w_105 : (Jvm.Cond.fieldLink "ThinRow$Reader" (29 : Nat) "ThinRow$Reader" "behind" "I") ∈ xWall := xt1 105 rfl rfl
theorem w_106 : (Jvm.Cond.fieldLink "ThinRow$Reader" (59 : Nat) "ThinRow$Reader" "number" "I") ∈ xWall := xt1 106 rfl rfl
theorem w_107 : (Jvm.Cond.laysFinal "ThinRow$Reader" "ThinRow$Reader" "draft" "LThinRow$Net;") ∈ xWall := xt1 107 rfl rfl
theorem w_109 : (Jvm.Cond.lays "ThinRow$Reader" "ThinRow$Reader" "faultNumber" "I") ∈ xWall := xt1 109 rfl rfl
theorem w_111 : (Jvm.Cond.lays "ThinRow$Reader" "ThinRow$Reader" "faultPlace" "I") ∈ xWall := xt1 111 rfl rfl
theorem w_113 : (Jvm.Cond.laysFinal "ThinRow$Reader" "ThinRow$Reader" "source" "LThinRow$Bytes;") ∈ xWall := xt1 113 rfl rfl
theorem w_115 : (Jvm.Cond.lays "ThinRow$Reader" "ThinRow$Reader" "kind" "I") ∈ xWall := xt1 115 rfl rfl
theorem w_117 : (Jvm.Cond.lays "ThinRow$Reader" "ThinRow$Reader" "start" "I") ∈ xWall := xt1 117 rfl rfl
theorem w_119 : (Jvm.Cond.lays "ThinRow$Reader" "ThinRow$Reader" "behind" "I") ∈ xWall := xt1 119 rfl rfl
theorem w_121 : (Jvm.Cond.lays "ThinRow$Reader" "ThinRow$Reader" "number" "I") ∈ xWall := xt1 121 rfl rfl
theorem w_124 : (Jvm.Cond.classLink "ThinRow" (30 : Nat) "ThinRow$Net") ∈ xWall := xt1 124 rfl rfl
theorem w_126 : (Jvm.Cond.classLink "ThinRow" (36 : Nat) "ThinRow$Findings") ∈ xWall := xt1 126 rfl rfl
theorem w_129 : (Jvm.Cond.instantiable "ThinRow$Findings" (2 : Nat)) ∈ xWall := xt1 129 rfl rfl
theorem w_130 : (Jvm.Cond.methodLink "ThinRow" (43 : Nat) ({ cls := "ThinRow$Findings", name := "<init>", desc := "()V" } : Jvm.MethodName)) ∈ xWall := xt1 130 rfl rfl
theorem w_131 : (Jvm.Cond.instanceMethod ({ cls := "ThinRow$Findings", name := "<init>", desc := "()V" } : Jvm.MethodName)) ∈ xWall := xt1 131 rfl rfl
theorem w_132 : (Jvm.Cond.code ({ cls := "ThinRow$Findings", name := "<init>", desc := "()V" } : Jvm.MethodName) prog_5_method_1_code (2 : Nat) (Option.none : Option Jvm.ClassFile.FieldType)) ∈ xWall := xt1 132 rfl rfl
theorem w_133 : (Jvm.Cond.methodLink "ThinRow$Findings" (3 : Nat) ({ cls := "java/lang/Object", name := "<init>", desc := "()V" } : Jvm.MethodName)) ∈ xWall := xt1 133 rfl rfl
theorem w_134 : (Jvm.Cond.classLink "ThinRow$Findings" (9 : Nat) "ThinRow$Finding") ∈ xWall := xt1 134 rfl rfl
theorem w_136 : (Jvm.Cond.classLink "ThinRow$Findings" (17 : Nat) "ThinRow$Net") ∈ xWall := xt1 136 rfl rfl
theorem w_138 : (Jvm.Cond.instantiable "ThinRow$Finding" (5 : Nat)) ∈ xWall := xt1 138 rfl rfl
theorem w_140 : (Jvm.Cond.instanceMethod ({ cls := "ThinRow$Finding", name := "<init>", desc := "()V" } : Jvm.MethodName)) ∈ xWall := xt1 140 rfl rfl
theorem w_141 : (Jvm.Cond.code ({ cls := "ThinRow$Finding", name := "<init>", desc := "()V" } : Jvm.MethodName) prog_4_method_1_code (1 : Nat) (Option.none : Option Jvm.ClassFile.FieldType)) ∈ xWall := xt1 141 rfl rfl
theorem w_142 : (Jvm.Cond.methodLink "ThinRow$Finding" (3 : Nat) ({ cls := "java/lang/Object", name := "<init>", desc := "()V" } : Jvm.MethodName)) ∈ xWall := xt1 142 rfl rfl
theorem w_143 : (Jvm.Cond.fieldLink "ThinRow$Findings" (33 : Nat) "ThinRow$Finding" "known" "Z") ∈ xWall := xt1 143 rfl rfl
theorem w_144 : (Jvm.Cond.fieldLink "ThinRow" (343 : Nat) "ThinRow$Finding" "known" "Z") ∈ xWall := xt1 144 rfl rfl
theorem w_145 : (Jvm.Cond.fieldLink "ThinRow$BandSearch" (36 : Nat) "ThinRow$Finding" "leastValue" "I") ∈ xWall := xt1 145 rfl rfl
theorem w_146 : (Jvm.Cond.fieldLink "ThinRow$SetSearch" (36 : Nat) "ThinRow$Finding" "leastValue" "I") ∈ xWall := xt1 146 rfl rfl
theorem w_147 : (Jvm.Cond.fieldLink "ThinRow" (193 : Nat) "ThinRow$Finding" "leastValue" "I") ∈ xWall := xt1 147 rfl rfl
theorem w_148 : (Jvm.Cond.fieldLink "ThinRow$BandSearch" (46 : Nat) "ThinRow$Finding" "rowCount" "I") ∈ xWall := xt1 148 rfl rfl
theorem w_149 : (Jvm.Cond.fieldLink "ThinRow$SetSearch" (46 : Nat) "ThinRow$Finding" "rowCount" "I") ∈ xWall := xt1 149 rfl rfl
theorem w_150 : (Jvm.Cond.fieldLink "ThinRow" (201 : Nat) "ThinRow$Finding" "rowCount" "I") ∈ xWall := xt1 150 rfl rfl
theorem w_151 : (Jvm.Cond.fieldLink "ThinRow$BandSearch" (52 : Nat) "ThinRow$Finding" "firstPoints" "I") ∈ xWall := xt1 151 rfl rfl
theorem w_152 : (Jvm.Cond.fieldLink "ThinRow$SetSearch" (53 : Nat) "ThinRow$Finding" "firstPoints" "I") ∈ xWall := xt1 152 rfl rfl
theorem w_153 : (Jvm.Cond.fieldLink "ThinRow" (212 : Nat) "ThinRow$Finding" "firstPoints" "I") ∈ xWall := xt1 153 rfl rfl
theorem w_154 : (Jvm.Cond.fieldLink "ThinRow$Finding" (9 : Nat) "ThinRow$Finding" "firstRow" "[I") ∈ xWall := xt1 154 rfl rfl
theorem w_155 : (Jvm.Cond.fieldLink "ThinRow$BandSearch" (64 : Nat) "ThinRow$Finding" "firstRow" "[I") ∈ xWall := xt1 155 rfl rfl
theorem w_156 : (Jvm.Cond.fieldLink "ThinRow$SetSearch" (65 : Nat) "ThinRow$Finding" "firstRow" "[I") ∈ xWall := xt1 156 rfl rfl
theorem w_157 : (Jvm.Cond.fieldLink "ThinRow" (198 : Nat) "ThinRow$Finding" "firstRow" "[I") ∈ xWall := xt1 157 rfl rfl
theorem w_158 : (Jvm.Cond.lays "ThinRow$Finding" "ThinRow$Finding" "known" "Z") ∈ xWall := xt1 158 rfl rfl
theorem w_160 : (Jvm.Cond.lays "ThinRow$Finding" "ThinRow$Finding" "leastValue" "I") ∈ xWall := xt1 160 rfl rfl
theorem w_162 : (Jvm.Cond.lays "ThinRow$Finding" "ThinRow$Finding" "rowCount" "I") ∈ xWall := xt1 162 rfl rfl
theorem w_164 : (Jvm.Cond.lays "ThinRow$Finding" "ThinRow$Finding" "firstPoints" "I") ∈ xWall := xt1 164 rfl rfl
theorem w_166 : (Jvm.Cond.laysFinal "ThinRow$Finding" "ThinRow$Finding" "firstRow" "[I") ∈ xWall := xt1 166 rfl rfl
theorem w_169 : (Jvm.Cond.fieldLink "ThinRow$Findings" (11 : Nat) "ThinRow$Findings" "ofMeasure" "[LThinRow$Finding;") ∈ xWall := xt1 169 rfl rfl
theorem w_170 : (Jvm.Cond.fieldLink "ThinRow" (339 : Nat) "ThinRow$Findings" "ofMeasure" "[LThinRow$Finding;") ∈ xWall := xt1 170 rfl rfl
theorem w_171 : (Jvm.Cond.fieldLink "ThinRow$Findings" (20 : Nat) "ThinRow$Findings" "about" "LThinRow$Net;") ∈ xWall := xt1 171 rfl rfl
theorem w_172 : (Jvm.Cond.laysFinal "ThinRow$Findings" "ThinRow$Findings" "ofMeasure" "[LThinRow$Finding;") ∈ xWall := xt1 172 rfl rfl
theorem w_174 : (Jvm.Cond.laysFinal "ThinRow$Findings" "ThinRow$Findings" "about" "LThinRow$Net;") ∈ xWall := xt1 174 rfl rfl
theorem w_177 : (Jvm.Cond.classLink "ThinRow" (44 : Nat) "ThinRow$SetSearch") ∈ xWall := xt1 177 rfl rfl
theorem w_178 : (Jvm.Cond.instantiable "ThinRow$SetSearch" (5 : Nat)) ∈ xWall := xt1 178 rfl rfl
theorem w_180 : (Jvm.Cond.instanceMethod ({ cls := "ThinRow$SetSearch", name := "<init>", desc := "()V" } : Jvm.MethodName)) ∈ xWall := xt1 180 rfl rfl
theorem w_181 : (Jvm.Cond.code ({ cls := "ThinRow$SetSearch", name := "<init>", desc := "()V" } : Jvm.MethodName) prog_11_method_1_code (1 : Nat) (Option.none : Option Jvm.ClassFile.FieldType)) ∈ xWall := xt1 181 rfl rfl
theorem w_182 : (Jvm.Cond.methodLink "ThinRow$SetSearch" (3 : Nat) ({ cls := "java/lang/Object", name := "<init>", desc := "()V" } : Jvm.MethodName)) ∈ xWall := xt1 182 rfl rfl
theorem w_183 : (Jvm.Cond.fieldLink "ThinRow$SetSearch" (11 : Nat) "ThinRow$SetSearch" "steps" "[I") ∈ xWall := xt1 183 rfl rfl
theorem w_184 : (Jvm.Cond.fieldLink "ThinRow$SetSearch" (15 : Nat) "ThinRow$SetSearch" "guards" "[I") ∈ xWall := xt1 184 rfl rfl
theorem w_185 : (Jvm.Cond.fieldLink "ThinRow$SetSearch" (18 : Nat) "ThinRow$SetSearch" "around" "[I") ∈ xWall := xt1 185 rfl rfl
theorem w_186 : (Jvm.Cond.fieldLink "ThinRow$SetSearch" (21 : Nat) "ThinRow$SetSearch" "rest" "[I") ∈ xWall := xt1 186 rfl rfl
theorem w_187 : (Jvm.Cond.fieldLink "ThinRow$SetSearch" (24 : Nat) "ThinRow$SetSearch" "rows" "[I") ∈ xWall := xt1 187 rfl rfl
theorem w_188 : (Jvm.Cond.laysFinal "ThinRow$SetSearch" "ThinRow$SetSearch" "steps" "[I") ∈ xWall := xt1 188 rfl rfl
theorem w_190 : (Jvm.Cond.laysFinal "ThinRow$SetSearch" "ThinRow$SetSearch" "guards" "[I") ∈ xWall := xt1 190 rfl rfl
theorem w_192 : (Jvm.Cond.laysFinal "ThinRow$SetSearch" "ThinRow$SetSearch" "around" "[I") ∈ xWall := xt1 192 rfl rfl
theorem w_194 : (Jvm.Cond.laysFinal "ThinRow$SetSearch" "ThinRow$SetSearch" "rest" "[I") ∈ xWall := xt1 194 rfl rfl
theorem w_196 : (Jvm.Cond.laysFinal "ThinRow$SetSearch" "ThinRow$SetSearch" "rows" "[I") ∈ xWall := xt1 196 rfl rfl
theorem w_199 : (Jvm.Cond.classLink "ThinRow" (51 : Nat) "ThinRow$BandSearch") ∈ xWall := xt1 199 rfl rfl
theorem w_200 : (Jvm.Cond.instantiable "ThinRow$BandSearch" (4 : Nat)) ∈ xWall := xt1 200 rfl rfl
theorem w_202 : (Jvm.Cond.instanceMethod ({ cls := "ThinRow$BandSearch", name := "<init>", desc := "()V" } : Jvm.MethodName)) ∈ xWall := xt1 202 rfl rfl
theorem w_203 : (Jvm.Cond.code ({ cls := "ThinRow$BandSearch", name := "<init>", desc := "()V" } : Jvm.MethodName) prog_2_method_1_code (1 : Nat) (Option.none : Option Jvm.ClassFile.FieldType)) ∈ xWall := xt1 203 rfl rfl
theorem w_204 : (Jvm.Cond.methodLink "ThinRow$BandSearch" (5 : Nat) ({ cls := "java/lang/Object", name := "<init>", desc := "()V" } : Jvm.MethodName)) ∈ xWall := xt1 204 rfl rfl
theorem w_205 : (Jvm.Cond.classLink "ThinRow$BandSearch" (11 : Nat) "ThinRow$Net") ∈ xWall := xt1 205 rfl rfl
theorem w_207 : (Jvm.Cond.fieldLink "ThinRow$BandSearch" (14 : Nat) "ThinRow$BandSearch" "net" "LThinRow$Net;") ∈ xWall := xt1 207 rfl rfl
theorem w_208 : (Jvm.Cond.fieldLink "ThinRow$BandSearch" (18 : Nat) "ThinRow$BandSearch" "places" "[I") ∈ xWall := xt1 208 rfl rfl
theorem w_209 : (Jvm.Cond.fieldLink "ThinRow$BandSearch" (22 : Nat) "ThinRow$BandSearch" "keys" "[I") ∈ xWall := xt1 209 rfl rfl
theorem w_210 : (Jvm.Cond.fieldLink "ThinRow$BandSearch" (25 : Nat) "ThinRow$BandSearch" "counts" "[I") ∈ xWall := xt1 210 rfl rfl
theorem w_211 : (Jvm.Cond.laysFinal "ThinRow$BandSearch" "ThinRow$BandSearch" "net" "LThinRow$Net;") ∈ xWall := xt1 211 rfl rfl
theorem w_213 : (Jvm.Cond.laysFinal "ThinRow$BandSearch" "ThinRow$BandSearch" "places" "[I") ∈ xWall := xt1 213 rfl rfl
theorem w_215 : (Jvm.Cond.laysFinal "ThinRow$BandSearch" "ThinRow$BandSearch" "keys" "[I") ∈ xWall := xt1 215 rfl rfl
theorem w_217 : (Jvm.Cond.laysFinal "ThinRow$BandSearch" "ThinRow$BandSearch" "counts" "[I") ∈ xWall := xt1 217 rfl rfl
theorem w_220 : (Jvm.Cond.classLink "ThinRow" (58 : Nat) "ThinRow$History") ∈ xWall := xt1 220 rfl rfl
theorem w_221 : (Jvm.Cond.instantiable "ThinRow$History" (4 : Nat)) ∈ xWall := xt1 221 rfl rfl
theorem w_222 : (Jvm.Cond.methodLink "ThinRow" (60 : Nat) ({ cls := "ThinRow$History", name := "<init>", desc := "()V" } : Jvm.MethodName)) ∈ xWall := xt1 222 rfl rfl
theorem w_223 : (Jvm.Cond.instanceMethod ({ cls := "ThinRow$History", name := "<init>", desc := "()V" } : Jvm.MethodName)) ∈ xWall := xt1 223 rfl rfl
theorem w_224 : (Jvm.Cond.code ({ cls := "ThinRow$History", name := "<init>", desc := "()V" } : Jvm.MethodName) prog_6_method_1_code (2 : Nat) (Option.none : Option Jvm.ClassFile.FieldType)) ∈ xWall := xt1 224 rfl rfl
theorem w_225 : (Jvm.Cond.methodLink "ThinRow$History" (3 : Nat) ({ cls := "java/lang/Object", name := "<init>", desc := "()V" } : Jvm.MethodName)) ∈ xWall := xt1 225 rfl rfl
theorem w_226 : (Jvm.Cond.classLink "ThinRow$History" (15 : Nat) "ThinRow$Net") ∈ xWall := xt1 226 rfl rfl
theorem w_228 : (Jvm.Cond.fieldLink "ThinRow$History" (30 : Nat) "ThinRow$History" "held" "I") ∈ xWall := xt1 228 rfl rfl
theorem w_229 : (Jvm.Cond.fieldLink "ThinRow" (113 : Nat) "ThinRow$History" "held" "I") ∈ xWall := xt1 229 rfl rfl
theorem w_230 : (Jvm.Cond.fieldLink "ThinRow$History" (22 : Nat) "ThinRow$History" "next" "I") ∈ xWall := xt1 230 rfl rfl
theorem w_231 : (Jvm.Cond.fieldLink "ThinRow$History" (9 : Nat) "ThinRow$History" "slots" "[I") ∈ xWall := xt1 231 rfl rfl
theorem w_232 : (Jvm.Cond.fieldLink "ThinRow$History" (17 : Nat) "ThinRow$History" "nets" "[LThinRow$Net;") ∈ xWall := xt1 232 rfl rfl
theorem w_233 : (Jvm.Cond.lays "ThinRow$History" "ThinRow$History" "held" "I") ∈ xWall := xt1 233 rfl rfl
theorem w_235 : (Jvm.Cond.lays "ThinRow$History" "ThinRow$History" "next" "I") ∈ xWall := xt1 235 rfl rfl
theorem w_237 : (Jvm.Cond.laysFinal "ThinRow$History" "ThinRow$History" "slots" "[I") ∈ xWall := xt1 237 rfl rfl
theorem w_239 : (Jvm.Cond.laysFinal "ThinRow$History" "ThinRow$History" "nets" "[LThinRow$Net;") ∈ xWall := xt1 239 rfl rfl
theorem w_242 : (Jvm.Cond.fieldLink "ThinRow" (14 : Nat) "ThinRow" "tape" "LThinRow$Bytes;") ∈ xWall := xt2 2 rfl rfl
theorem w_243 : (Jvm.Cond.fieldLink "ThinRow" (18 : Nat) "ThinRow" "out" "LThinRow$Bytes;") ∈ xWall := xt2 3 rfl rfl
theorem w_244 : (Jvm.Cond.fieldLink "ThinRow" (26 : Nat) "ThinRow" "reader" "LThinRow$Reader;") ∈ xWall := xt2 4 rfl rfl
theorem w_245 : (Jvm.Cond.fieldLink "ThinRow" (32 : Nat) "ThinRow" "nets" "[LThinRow$Net;") ∈ xWall := xt2 5 rfl rfl
theorem w_246 : (Jvm.Cond.fieldLink "ThinRow" (38 : Nat) "ThinRow" "findings" "[LThinRow$Findings;") ∈ xWall := xt2 6 rfl rfl
theorem w_247 : (Jvm.Cond.fieldLink "ThinRow" (47 : Nat) "ThinRow" "setSearch" "LThinRow$SetSearch;") ∈ xWall := xt2 7 rfl rfl
theorem w_248 : (Jvm.Cond.fieldLink "ThinRow" (54 : Nat) "ThinRow" "bandSearch" "LThinRow$BandSearch;") ∈ xWall := xt2 8 rfl rfl
theorem w_249 : (Jvm.Cond.fieldLink "ThinRow" (61 : Nat) "ThinRow" "history" "LThinRow$History;") ∈ xWall := xt2 9 rfl rfl
theorem w_250 : (Jvm.Cond.fieldLink "ThinRow" (65 : Nat) "ThinRow" "kept" "LThinRow$Net;") ∈ xWall := xt2 10 rfl rfl
theorem w_251 : (Jvm.Cond.fieldLink "ThinRow" (69 : Nat) "ThinRow" "trial" "LThinRow$Net;") ∈ xWall := xt2 11 rfl rfl
theorem w_252 : (Jvm.Cond.laysFinal "ThinRow" "ThinRow" "tape" "LThinRow$Bytes;") ∈ xWall := xt2 12 rfl rfl
theorem w_254 : (Jvm.Cond.laysFinal "ThinRow" "ThinRow" "out" "LThinRow$Bytes;") ∈ xWall := xt2 14 rfl rfl
theorem w_256 : (Jvm.Cond.laysFinal "ThinRow" "ThinRow" "reader" "LThinRow$Reader;") ∈ xWall := xt2 16 rfl rfl
theorem w_258 : (Jvm.Cond.laysFinal "ThinRow" "ThinRow" "nets" "[LThinRow$Net;") ∈ xWall := xt2 18 rfl rfl
theorem w_260 : (Jvm.Cond.laysFinal "ThinRow" "ThinRow" "findings" "[LThinRow$Findings;") ∈ xWall := xt2 20 rfl rfl
theorem w_262 : (Jvm.Cond.laysFinal "ThinRow" "ThinRow" "setSearch" "LThinRow$SetSearch;") ∈ xWall := xt2 22 rfl rfl
theorem w_264 : (Jvm.Cond.laysFinal "ThinRow" "ThinRow" "bandSearch" "LThinRow$BandSearch;") ∈ xWall := xt2 24 rfl rfl
theorem w_266 : (Jvm.Cond.laysFinal "ThinRow" "ThinRow" "history" "LThinRow$History;") ∈ xWall := xt2 26 rfl rfl
theorem w_268 : (Jvm.Cond.laysFinal "ThinRow" "ThinRow" "kept" "LThinRow$Net;") ∈ xWall := xt2 28 rfl rfl
theorem w_270 : (Jvm.Cond.laysFinal "ThinRow" "ThinRow" "trial" "LThinRow$Net;") ∈ xWall := xt2 30 rfl rfl
theorem w_273 : (Jvm.Cond.methodLink "ThinRowLaw" (13 : Nat) ({ cls := "ThinRow", name := "feed", desc := "(IIIII)I" } : Jvm.MethodName)) ∈ xWall := xt2 33 rfl rfl
theorem w_274 : (Jvm.Cond.instanceMethod ({ cls := "ThinRow", name := "feed", desc := "(IIIII)I" } : Jvm.MethodName)) ∈ xWall := xt2 34 rfl rfl
theorem w_275 : (Jvm.Cond.selects "ThinRow" ({ cls := "ThinRow", name := "feed", desc := "(IIIII)I" } : Jvm.MethodName) ({ cls := "ThinRow", name := "feed", desc := "(IIIII)I" } : Jvm.MethodName)) ∈ xWall := xt2 35 rfl rfl
theorem w_276 : (Jvm.Cond.code ({ cls := "ThinRow", name := "feed", desc := "(IIIII)I" } : Jvm.MethodName) prog_1_method_2_code (6 : Nat) (Option.some Jvm.ClassFile.FieldType.int)) ∈ xWall := xt2 36 rfl rfl
theorem w_277 : (Jvm.Cond.methodLink "ThinRow" (72 : Nat) ({ cls := "ThinRow$Bytes", name := "hasRoom", desc := "(I)Z" } : Jvm.MethodName)) ∈ xWall := xt2 37 rfl rfl
theorem w_278 : (Jvm.Cond.instanceMethod ({ cls := "ThinRow$Bytes", name := "hasRoom", desc := "(I)Z" } : Jvm.MethodName)) ∈ xWall := xt2 38 rfl rfl
theorem w_279 : (Jvm.Cond.selects "ThinRow$Bytes" ({ cls := "ThinRow$Bytes", name := "hasRoom", desc := "(I)Z" } : Jvm.MethodName) ({ cls := "ThinRow$Bytes", name := "hasRoom", desc := "(I)Z" } : Jvm.MethodName)) ∈ xWall := xt2 39 rfl rfl
theorem w_280 : (Jvm.Cond.code ({ cls := "ThinRow$Bytes", name := "hasRoom", desc := "(I)Z" } : Jvm.MethodName) prog_3_method_2_code (2 : Nat) (Option.some Jvm.ClassFile.FieldType.boolean)) ∈ xWall := xt2 40 rfl rfl
theorem w_281 : (Jvm.Cond.methodLink "ThinRow" (76 : Nat) ({ cls := "ThinRow$Bytes", name := "putFour", desc := "(I)V" } : Jvm.MethodName)) ∈ xWall := xt2 41 rfl rfl
theorem w_282 : (Jvm.Cond.instanceMethod ({ cls := "ThinRow$Bytes", name := "putFour", desc := "(I)V" } : Jvm.MethodName)) ∈ xWall := xt2 42 rfl rfl
theorem w_283 : (Jvm.Cond.selects "ThinRow$Bytes" ({ cls := "ThinRow$Bytes", name := "putFour", desc := "(I)V" } : Jvm.MethodName) ({ cls := "ThinRow$Bytes", name := "putFour", desc := "(I)V" } : Jvm.MethodName)) ∈ xWall := xt2 43 rfl rfl
theorem w_284 : (Jvm.Cond.code ({ cls := "ThinRow$Bytes", name := "putFour", desc := "(I)V" } : Jvm.MethodName) prog_3_method_4_code (2 : Nat) (Option.none : Option Jvm.ClassFile.FieldType)) ∈ xWall := xt2 44 rfl rfl
theorem w_285 : (Jvm.Cond.methodLink "ThinRow$Bytes" (29 : Nat) ({ cls := "ThinRow$Bytes", name := "put", desc := "(I)V" } : Jvm.MethodName)) ∈ xWall := xt2 45 rfl rfl
theorem w_286 : (Jvm.Cond.instanceMethod ({ cls := "ThinRow$Bytes", name := "put", desc := "(I)V" } : Jvm.MethodName)) ∈ xWall := xt2 46 rfl rfl
theorem w_287 : (Jvm.Cond.selects "ThinRow$Bytes" ({ cls := "ThinRow$Bytes", name := "put", desc := "(I)V" } : Jvm.MethodName) ({ cls := "ThinRow$Bytes", name := "put", desc := "(I)V" } : Jvm.MethodName)) ∈ xWall := xt2 47 rfl rfl
theorem w_288 : (Jvm.Cond.code ({ cls := "ThinRow$Bytes", name := "put", desc := "(I)V" } : Jvm.MethodName) prog_3_method_3_code (2 : Nat) (Option.none : Option Jvm.ClassFile.FieldType)) ∈ xWall := xt2 48 rfl rfl
theorem w_289 : (Jvm.Cond.methodLink "ThinRow$Bytes" (25 : Nat) ({ cls := "ThinRow$Bytes", name := "hasRoom", desc := "(I)Z" } : Jvm.MethodName)) ∈ xWall := xt2 49 rfl rfl
theorem w_290 : (Jvm.Cond.methodLink "ThinRowLaw" (18 : Nat) ({ cls := "ThinRow", name := "end", desc := "(I)I" } : Jvm.MethodName)) ∈ xWall := xt2 50 rfl rfl
theorem w_291 : (Jvm.Cond.instanceMethod ({ cls := "ThinRow", name := "end", desc := "(I)I" } : Jvm.MethodName)) ∈ xWall := xt2 51 rfl rfl
theorem w_292 : (Jvm.Cond.selects "ThinRow" ({ cls := "ThinRow", name := "end", desc := "(I)I" } : Jvm.MethodName) ({ cls := "ThinRow", name := "end", desc := "(I)I" } : Jvm.MethodName)) ∈ xWall := xt2 52 rfl rfl
theorem w_293 : (Jvm.Cond.code ({ cls := "ThinRow", name := "end", desc := "(I)I" } : Jvm.MethodName) prog_1_method_3_code (2 : Nat) (Option.some Jvm.ClassFile.FieldType.int)) ∈ xWall := xt2 53 rfl rfl
theorem w_294 : (Jvm.Cond.methodLink "ThinRowLaw" (23 : Nat) ({ cls := "ThinRow", name := "told", desc := "(I)I" } : Jvm.MethodName)) ∈ xWall := xt2 54 rfl rfl
theorem w_295 : (Jvm.Cond.instanceMethod ({ cls := "ThinRow", name := "told", desc := "(I)I" } : Jvm.MethodName)) ∈ xWall := xt2 55 rfl rfl
theorem w_296 : (Jvm.Cond.selects "ThinRow" ({ cls := "ThinRow", name := "told", desc := "(I)I" } : Jvm.MethodName) ({ cls := "ThinRow", name := "told", desc := "(I)I" } : Jvm.MethodName)) ∈ xWall := xt2 56 rfl rfl
theorem w_297 : (Jvm.Cond.code ({ cls := "ThinRow", name := "told", desc := "(I)I" } : Jvm.MethodName) prog_1_method_4_code (4 : Nat) (Option.some Jvm.ClassFile.FieldType.int)) ∈ xWall := xt2 57 rfl rfl
theorem w_298 : (Jvm.Cond.methodLink "ThinRow" (83 : Nat) ({ cls := "ThinRow", name := "isSlot", desc := "(I)Z" } : Jvm.MethodName)) ∈ xWall := xt2 58 rfl rfl
theorem w_299 : (Jvm.Cond.static ({ cls := "ThinRow", name := "isSlot", desc := "(I)Z" } : Jvm.MethodName)) ∈ xWall := xt2 59 rfl rfl
theorem w_300 : (Jvm.Cond.code ({ cls := "ThinRow", name := "isSlot", desc := "(I)Z" } : Jvm.MethodName) prog_1_method_49_code (1 : Nat) (Option.some Jvm.ClassFile.FieldType.boolean)) ∈ xWall := xt2 60 rfl rfl
theorem w_301 : (Jvm.Cond.methodLink "ThinRow" (86 : Nat) ({ cls := "ThinRow$Reader", name := "readAll", desc := "()Z" } : Jvm.MethodName)) ∈ xWall := xt2 61 rfl rfl
theorem w_302 : (Jvm.Cond.instanceMethod ({ cls := "ThinRow$Reader", name := "readAll", desc := "()Z" } : Jvm.MethodName)) ∈ xWall := xt2 62 rfl rfl
theorem w_303 : (Jvm.Cond.selects "ThinRow$Reader" ({ cls := "ThinRow$Reader", name := "readAll", desc := "()Z" } : Jvm.MethodName) ({ cls := "ThinRow$Reader", name := "readAll", desc := "()Z" } : Jvm.MethodName)) ∈ xWall := xt2 63 rfl rfl
theorem w_304 : (Jvm.Cond.code ({ cls := "ThinRow$Reader", name := "readAll", desc := "()Z" } : Jvm.MethodName) prog_9_method_2_code (1 : Nat) (Option.some Jvm.ClassFile.FieldType.boolean)) ∈ xWall := xt2 64 rfl rfl
theorem w_305 : (Jvm.Cond.methodLink "ThinRow$Reader" (32 : Nat) ({ cls := "ThinRow$Reader", name := "step", desc := "()V" } : Jvm.MethodName)) ∈ xWall := xt2 65 rfl rfl
theorem w_307 : (Jvm.Cond.instanceMethod ({ cls := "ThinRow$Reader", name := "step", desc := "()V" } : Jvm.MethodName)) ∈ xWall := xt2 67 rfl rfl
theorem w_308 : (Jvm.Cond.code ({ cls := "ThinRow$Reader", name := "step", desc := "()V" } : Jvm.MethodName) prog_9_method_15_code (1 : Nat) (Option.none : Option Jvm.ClassFile.FieldType)) ∈ xWall := xt2 68 rfl rfl
theorem w_309 : (Jvm.Cond.methodLink "ThinRow$Reader" (107 : Nat) ({ cls := "ThinRow$Bytes", name := "at", desc := "(I)I" } : Jvm.MethodName)) ∈ xWall := xt2 69 rfl rfl
theorem w_310 : (Jvm.Cond.instanceMethod ({ cls := "ThinRow$Bytes", name := "at", desc := "(I)I" } : Jvm.MethodName)) ∈ xWall := xt2 70 rfl rfl
theorem w_311 : (Jvm.Cond.selects "ThinRow$Bytes" ({ cls := "ThinRow$Bytes", name := "at", desc := "(I)I" } : Jvm.MethodName) ({ cls := "ThinRow$Bytes", name := "at", desc := "(I)I" } : Jvm.MethodName)) ∈ xWall := xt2 71 rfl rfl
theorem w_312 : (Jvm.Cond.code ({ cls := "ThinRow$Bytes", name := "at", desc := "(I)I" } : Jvm.MethodName) prog_3_method_7_code (2 : Nat) (Option.some Jvm.ClassFile.FieldType.int)) ∈ xWall := xt2 72 rfl rfl
theorem w_313 : (Jvm.Cond.methodLink "ThinRow$Reader" (141 : Nat) ({ cls := "ThinRow$Reader", name := "isBlank", desc := "(I)Z" } : Jvm.MethodName)) ∈ xWall := xt2 73 rfl rfl
theorem w_314 : (Jvm.Cond.static ({ cls := "ThinRow$Reader", name := "isBlank", desc := "(I)Z" } : Jvm.MethodName)) ∈ xWall := xt2 74 rfl rfl
theorem w_315 : (Jvm.Cond.code ({ cls := "ThinRow$Reader", name := "isBlank", desc := "(I)Z" } : Jvm.MethodName) prog_9_method_17_code (1 : Nat) (Option.some Jvm.ClassFile.FieldType.boolean)) ∈ xWall := xt2 75 rfl rfl
theorem w_316 : (Jvm.Cond.methodLink "ThinRow$Reader" (144 : Nat) ({ cls := "ThinRow$Reader", name := "kindOf", desc := "(I)I" } : Jvm.MethodName)) ∈ xWall := xt2 76 rfl rfl
theorem w_317 : (Jvm.Cond.static ({ cls := "ThinRow$Reader", name := "kindOf", desc := "(I)I" } : Jvm.MethodName)) ∈ xWall := xt2 77 rfl rfl
theorem w_318 : (Jvm.Cond.code ({ cls := "ThinRow$Reader", name := "kindOf", desc := "(I)I" } : Jvm.MethodName) prog_9_method_16_code (1 : Nat) (Option.some Jvm.ClassFile.FieldType.int)) ∈ xWall := xt2 78 rfl rfl
theorem w_319 : (Jvm.Cond.methodLink "ThinRow$Reader" (35 : Nat) ({ cls := "ThinRow$Reader", name := "readHead", desc := "()Z" } : Jvm.MethodName)) ∈ xWall := xt2 79 rfl rfl
theorem w_321 : (Jvm.Cond.instanceMethod ({ cls := "ThinRow$Reader", name := "readHead", desc := "()Z" } : Jvm.MethodName)) ∈ xWall := xt2 81 rfl rfl
theorem w_322 : (Jvm.Cond.code ({ cls := "ThinRow$Reader", name := "readHead", desc := "()Z" } : Jvm.MethodName) prog_9_method_3_code (1 : Nat) (Option.some Jvm.ClassFile.FieldType.boolean)) ∈ xWall := xt2 82 rfl rfl
theorem w_324 : (Jvm.Cond.methodLink "ThinRow$Reader" (47 : Nat) ({ cls := "ThinRow$Reader", name := "isWord", desc := "(Ljava/lang/String;)Z" } : Jvm.MethodName)) ∈ xWall := xt2 84 rfl rfl
theorem w_326 : (Jvm.Cond.instanceMethod ({ cls := "ThinRow$Reader", name := "isWord", desc := "(Ljava/lang/String;)Z" } : Jvm.MethodName)) ∈ xWall := xt2 86 rfl rfl
theorem w_327 : (Jvm.Cond.code ({ cls := "ThinRow$Reader", name := "isWord", desc := "(Ljava/lang/String;)Z" } : Jvm.MethodName) prog_9_method_13_code (3 : Nat) (Option.some Jvm.ClassFile.FieldType.boolean)) ∈ xWall := xt2 87 rfl rfl
theorem w_328 : (Jvm.Cond.methodLink "ThinRow$Reader" (129 : Nat) ({ cls := "java/lang/String", name := "length", desc := "()I" } : Jvm.MethodName)) ∈ xWall := xt2 88 rfl rfl
theorem w_329 : (Jvm.Cond.instanceMethod ({ cls := "java/lang/String", name := "length", desc := "()I" } : Jvm.MethodName)) ∈ xWall := xt2 89 rfl rfl
theorem w_330 : (Jvm.Cond.selects "java/lang/String" ({ cls := "java/lang/String", name := "length", desc := "()I" } : Jvm.MethodName) ({ cls := "java/lang/String", name := "length", desc := "()I" } : Jvm.MethodName)) ∈ xWall := xt2 90 rfl rfl
theorem w_331 : (Jvm.Cond.code ({ cls := "java/lang/String", name := "length", desc := "()I" } : Jvm.MethodName) prog_17_method_54_code (1 : Nat) (Option.some Jvm.ClassFile.FieldType.int)) ∈ xWall := xt2 91 rfl rfl
theorem w_332 : (Jvm.Cond.methodLink "java/lang/String" (335 : Nat) ({ cls := "java/lang/String", name := "coder", desc := "()B" } : Jvm.MethodName)) ∈ xWall := xt2 92 rfl rfl
theorem w_333 : (Jvm.Cond.instanceMethod ({ cls := "java/lang/String", name := "coder", desc := "()B" } : Jvm.MethodName)) ∈ xWall := xt2 93 rfl rfl
theorem w_334 : (Jvm.Cond.selects "java/lang/String" ({ cls := "java/lang/String", name := "coder", desc := "()B" } : Jvm.MethodName) ({ cls := "java/lang/String", name := "coder", desc := "()B" } : Jvm.MethodName)) ∈ xWall := xt2 94 rfl rfl
theorem w_335 : (Jvm.Cond.code ({ cls := "java/lang/String", name := "coder", desc := "()B" } : Jvm.MethodName) prog_17_method_152_code (1 : Nat) (Option.some Jvm.ClassFile.FieldType.byte)) ∈ xWall := xt2 95 rfl rfl
theorem w_336 : (Jvm.Cond.fieldLink "java/lang/String" (38 : Nat) "java/lang/String" "COMPACT_STRINGS" "Z") ∈ xWall := xt2 96 rfl rfl
theorem w_338 : (Jvm.Cond.methodLink "ThinRow$Reader" (134 : Nat) ({ cls := "java/lang/String", name := "charAt", desc := "(I)C" } : Jvm.MethodName)) ∈ xWall := xt2 98 rfl rfl
theorem w_339 : (Jvm.Cond.instanceMethod ({ cls := "java/lang/String", name := "charAt", desc := "(I)C" } : Jvm.MethodName)) ∈ xWall := xt2 99 rfl rfl
theorem w_340 : (Jvm.Cond.selects "java/lang/String" ({ cls := "java/lang/String", name := "charAt", desc := "(I)C" } : Jvm.MethodName) ({ cls := "java/lang/String", name := "charAt", desc := "(I)C" } : Jvm.MethodName)) ∈ xWall := xt2 100 rfl rfl
theorem w_341 : (Jvm.Cond.code ({ cls := "java/lang/String", name := "charAt", desc := "(I)C" } : Jvm.MethodName) prog_17_method_56_code (2 : Nat) (Option.some Jvm.ClassFile.FieldType.char)) ∈ xWall := xt2 101 rfl rfl
theorem w_342 : (Jvm.Cond.methodLink "java/lang/String" (492 : Nat) ({ cls := "java/lang/String", name := "isLatin1", desc := "()Z" } : Jvm.MethodName)) ∈ xWall := xt2 102 rfl rfl
theorem w_343 : (Jvm.Cond.instanceMethod ({ cls := "java/lang/String", name := "isLatin1", desc := "()Z" } : Jvm.MethodName)) ∈ xWall := xt2 103 rfl rfl
theorem w_344 : (Jvm.Cond.selects "java/lang/String" ({ cls := "java/lang/String", name := "isLatin1", desc := "()Z" } : Jvm.MethodName) ({ cls := "java/lang/String", name := "isLatin1", desc := "()Z" } : Jvm.MethodName)) ∈ xWall := xt2 104 rfl rfl
theorem w_345 : (Jvm.Cond.code ({ cls := "java/lang/String", name := "isLatin1", desc := "()Z" } : Jvm.MethodName) prog_17_method_154_code (1 : Nat) (Option.some Jvm.ClassFile.FieldType.boolean)) ∈ xWall := xt2 105 rfl rfl
theorem w_346 : (Jvm.Cond.methodLink "java/lang/String" (495 : Nat) ({ cls := "java/lang/StringLatin1", name := "charAt", desc := "([BI)C" } : Jvm.MethodName)) ∈ xWall := xt2 106 rfl rfl
theorem w_347 : (Jvm.Cond.static ({ cls := "java/lang/StringLatin1", name := "charAt", desc := "([BI)C" } : Jvm.MethodName)) ∈ xWall := xt2 107 rfl rfl
theorem w_348 : (Jvm.Cond.code ({ cls := "java/lang/StringLatin1", name := "charAt", desc := "([BI)C" } : Jvm.MethodName) prog_18_method_2_code (2 : Nat) (Option.some Jvm.ClassFile.FieldType.char)) ∈ xWall := xt2 108 rfl rfl
theorem w_349 : (Jvm.Cond.methodLink "java/lang/StringLatin1" (9 : Nat) ({ cls := "java/lang/String", name := "checkIndex", desc := "(II)V" } : Jvm.MethodName)) ∈ xWall := xt2 109 rfl rfl
theorem w_350 : (Jvm.Cond.static ({ cls := "java/lang/String", name := "checkIndex", desc := "(II)V" } : Jvm.MethodName)) ∈ xWall := xt2 110 rfl rfl
theorem w_351 : (Jvm.Cond.code ({ cls := "java/lang/String", name := "checkIndex", desc := "(II)V" } : Jvm.MethodName) prog_17_method_155_code (2 : Nat) (Option.none : Option Jvm.ClassFile.FieldType)) ∈ xWall := xt2 111 rfl rfl
theorem w_352 : (Jvm.Cond.fieldLink "java/lang/String" (1053 : Nat) "jdk/internal/util/Preconditions" "SIOOBE_FORMATTER" "Ljava/util/function/BiFunction;") ∈ xWall := xt2 112 rfl rfl
theorem w_354 : (Jvm.Cond.methodLink "java/lang/String" (1059 : Nat) ({ cls := "jdk/internal/util/Preconditions", name := "checkIndex", desc := "(IILjava/util/function/BiFunction;)I" } : Jvm.MethodName)) ∈ xWall := xt2 114 rfl rfl
theorem w_355 : (Jvm.Cond.static ({ cls := "jdk/internal/util/Preconditions", name := "checkIndex", desc := "(IILjava/util/function/BiFunction;)I" } : Jvm.MethodName)) ∈ xWall := xt2 115 rfl rfl
theorem w_356 : (Jvm.Cond.code ({ cls := "jdk/internal/util/Preconditions", name := "checkIndex", desc := "(IILjava/util/function/BiFunction;)I" } : Jvm.MethodName) prog_22_method_11_code (3 : Nat) (Option.some Jvm.ClassFile.FieldType.int)) ∈ xWall := xt2 116 rfl rfl
theorem w_357 : (Jvm.Cond.methodLink "java/lang/String" (498 : Nat) ({ cls := "java/lang/StringUTF16", name := "charAt", desc := "([BI)C" } : Jvm.MethodName)) ∈ xWall := xt2 117 rfl rfl
theorem w_358 : (Jvm.Cond.static ({ cls := "java/lang/StringUTF16", name := "charAt", desc := "([BI)C" } : Jvm.MethodName)) ∈ xWall := xt2 118 rfl rfl
theorem w_359 : (Jvm.Cond.code ({ cls := "java/lang/StringUTF16", name := "charAt", desc := "([BI)C" } : Jvm.MethodName) prog_19_method_83_code (2 : Nat) (Option.some Jvm.ClassFile.FieldType.char)) ∈ xWall := xt2 119 rfl rfl
theorem w_360 : (Jvm.Cond.methodLink "java/lang/StringUTF16" (67 : Nat) ({ cls := "java/lang/StringUTF16", name := "checkIndex", desc := "(I[B)V" } : Jvm.MethodName)) ∈ xWall := xt2 120 rfl rfl
theorem w_361 : (Jvm.Cond.static ({ cls := "java/lang/StringUTF16", name := "checkIndex", desc := "(I[B)V" } : Jvm.MethodName)) ∈ xWall := xt2 121 rfl rfl
theorem w_362 : (Jvm.Cond.code ({ cls := "java/lang/StringUTF16", name := "checkIndex", desc := "(I[B)V" } : Jvm.MethodName) prog_19_method_91_code (2 : Nat) (Option.none : Option Jvm.ClassFile.FieldType)) ∈ xWall := xt2 122 rfl rfl
theorem w_363 : (Jvm.Cond.methodLink "java/lang/StringUTF16" (48 : Nat) ({ cls := "java/lang/StringUTF16", name := "length", desc := "([B)I" } : Jvm.MethodName)) ∈ xWall := xt2 123 rfl rfl
theorem w_364 : (Jvm.Cond.static ({ cls := "java/lang/StringUTF16", name := "length", desc := "([B)I" } : Jvm.MethodName)) ∈ xWall := xt2 124 rfl rfl
theorem w_365 : (Jvm.Cond.code ({ cls := "java/lang/StringUTF16", name := "length", desc := "([B)I" } : Jvm.MethodName) prog_19_method_6_code (1 : Nat) (Option.some Jvm.ClassFile.FieldType.int)) ∈ xWall := xt2 125 rfl rfl
theorem w_366 : (Jvm.Cond.methodLink "java/lang/StringUTF16" (414 : Nat) ({ cls := "java/lang/String", name := "checkIndex", desc := "(II)V" } : Jvm.MethodName)) ∈ xWall := xt2 126 rfl rfl
theorem w_367 : (Jvm.Cond.methodLink "java/lang/StringUTF16" (71 : Nat) ({ cls := "java/lang/StringUTF16", name := "getChar", desc := "([BI)C" } : Jvm.MethodName)) ∈ xWall := xt2 127 rfl rfl
theorem w_368 : (Jvm.Cond.static ({ cls := "java/lang/StringUTF16", name := "getChar", desc := "([BI)C" } : Jvm.MethodName)) ∈ xWall := xt2 128 rfl rfl
theorem w_369 : (Jvm.Cond.code ({ cls := "java/lang/StringUTF16", name := "getChar", desc := "([BI)C" } : Jvm.MethodName) prog_19_method_5_code (2 : Nat) (Option.some Jvm.ClassFile.FieldType.char)) ∈ xWall := xt2 129 rfl rfl
theorem w_370 : (Jvm.Cond.fieldLink "java/lang/StringUTF16" (44 : Nat) "java/lang/StringUTF16" "$assertionsDisabled" "Z") ∈ xWall := xt2 130 rfl rfl
theorem w_372 : (Jvm.Cond.fieldLink "java/lang/StringUTF16" (59 : Nat) "java/lang/StringUTF16" "HI_BYTE_SHIFT" "I") ∈ xWall := xt2 132 rfl rfl
theorem w_374 : (Jvm.Cond.fieldLink "java/lang/StringUTF16" (63 : Nat) "java/lang/StringUTF16" "LO_BYTE_SHIFT" "I") ∈ xWall := xt2 134 rfl rfl
theorem w_376 : (Jvm.Cond.methodLink "ThinRow$Reader" (51 : Nat) ({ cls := "ThinRow$Reader", name := "blame", desc := "(I)Z" } : Jvm.MethodName)) ∈ xWall := xt2 136 rfl rfl
theorem w_378 : (Jvm.Cond.instanceMethod ({ cls := "ThinRow$Reader", name := "blame", desc := "(I)Z" } : Jvm.MethodName)) ∈ xWall := xt2 138 rfl rfl
theorem w_379 : (Jvm.Cond.code ({ cls := "ThinRow$Reader", name := "blame", desc := "(I)Z" } : Jvm.MethodName) prog_9_method_14_code (2 : Nat) (Option.some Jvm.ClassFile.FieldType.boolean)) ∈ xWall := xt2 139 rfl rfl
theorem w_380 : (Jvm.Cond.methodLink "ThinRow$Reader" (55 : Nat) ({ cls := "ThinRow$Reader", name := "isNumberFrom", desc := "(II)Z" } : Jvm.MethodName)) ∈ xWall := xt2 140 rfl rfl
theorem w_382 : (Jvm.Cond.instanceMethod ({ cls := "ThinRow$Reader", name := "isNumberFrom", desc := "(II)Z" } : Jvm.MethodName)) ∈ xWall := xt2 142 rfl rfl
theorem w_383 : (Jvm.Cond.code ({ cls := "ThinRow$Reader", name := "isNumberFrom", desc := "(II)Z" } : Jvm.MethodName) prog_9_method_10_code (4 : Nat) (Option.some Jvm.ClassFile.FieldType.boolean)) ∈ xWall := xt2 143 rfl rfl
theorem w_384 : (Jvm.Cond.methodLink "ThinRow$Reader" (124 : Nat) ({ cls := "java/lang/Math", name := "min", desc := "(II)I" } : Jvm.MethodName)) ∈ xWall := xt2 144 rfl rfl
theorem w_385 : (Jvm.Cond.static ({ cls := "java/lang/Math", name := "min", desc := "(II)I" } : Jvm.MethodName)) ∈ xWall := xt2 145 rfl rfl
theorem w_386 : (Jvm.Cond.code ({ cls := "java/lang/Math", name := "min", desc := "(II)I" } : Jvm.MethodName) prog_16_method_69_code (2 : Nat) (Option.some Jvm.ClassFile.FieldType.int)) ∈ xWall := xt2 146 rfl rfl
theorem w_387 : (Jvm.Cond.methodLink "ThinRow$Reader" (62 : Nat) ({ cls := "ThinRow$Net", name := "begin", desc := "(I)V" } : Jvm.MethodName)) ∈ xWall := xt2 147 rfl rfl
theorem w_388 : (Jvm.Cond.instanceMethod ({ cls := "ThinRow$Net", name := "begin", desc := "(I)V" } : Jvm.MethodName)) ∈ xWall := xt2 148 rfl rfl
theorem w_389 : (Jvm.Cond.selects "ThinRow$Net" ({ cls := "ThinRow$Net", name := "begin", desc := "(I)V" } : Jvm.MethodName) ({ cls := "ThinRow$Net", name := "begin", desc := "(I)V" } : Jvm.MethodName)) ∈ xWall := xt2 149 rfl rfl
theorem w_390 : (Jvm.Cond.code ({ cls := "ThinRow$Net", name := "begin", desc := "(I)V" } : Jvm.MethodName) prog_7_method_2_code (3 : Nat) (Option.none : Option Jvm.ClassFile.FieldType)) ∈ xWall := xt2 150 rfl rfl
theorem w_391 : (Jvm.Cond.methodLink "ThinRow$Net" (28 : Nat) ({ cls := "java/util/Arrays", name := "fill", desc := "([II)V" } : Jvm.MethodName)) ∈ xWall := xt2 151 rfl rfl
theorem w_392 : (Jvm.Cond.static ({ cls := "java/util/Arrays", name := "fill", desc := "([II)V" } : Jvm.MethodName)) ∈ xWall := xt2 152 rfl rfl
theorem w_393 : (Jvm.Cond.code ({ cls := "java/util/Arrays", name := "fill", desc := "([II)V" } : Jvm.MethodName) prog_21_method_103_code (4 : Nat) (Option.none : Option Jvm.ClassFile.FieldType)) ∈ xWall := xt2 153 rfl rfl
theorem w_394 : (Jvm.Cond.methodLink "ThinRow$Reader" (39 : Nat) ({ cls := "ThinRow$Reader", name := "readLines", desc := "()Z" } : Jvm.MethodName)) ∈ xWall := xt2 154 rfl rfl
theorem w_396 : (Jvm.Cond.instanceMethod ({ cls := "ThinRow$Reader", name := "readLines", desc := "()Z" } : Jvm.MethodName)) ∈ xWall := xt2 156 rfl rfl
theorem w_397 : (Jvm.Cond.code ({ cls := "ThinRow$Reader", name := "readLines", desc := "()Z" } : Jvm.MethodName) prog_9_method_4_code (3 : Nat) (Option.some Jvm.ClassFile.FieldType.boolean)) ∈ xWall := xt2 157 rfl rfl
theorem w_398 : (Jvm.Cond.methodLink "ThinRow$Reader" (66 : Nat) ({ cls := "ThinRow$Reader", name := "isSign", desc := "(C)Z" } : Jvm.MethodName)) ∈ xWall := xt2 158 rfl rfl
theorem w_400 : (Jvm.Cond.instanceMethod ({ cls := "ThinRow$Reader", name := "isSign", desc := "(C)Z" } : Jvm.MethodName)) ∈ xWall := xt2 160 rfl rfl
theorem w_401 : (Jvm.Cond.code ({ cls := "ThinRow$Reader", name := "isSign", desc := "(C)Z" } : Jvm.MethodName) prog_9_method_12_code (2 : Nat) (Option.some Jvm.ClassFile.FieldType.boolean)) ∈ xWall := xt2 161 rfl rfl
theorem w_402 : (Jvm.Cond.methodLink "ThinRow$Reader" (70 : Nat) ({ cls := "ThinRow$Reader", name := "readLine", desc := "()Z" } : Jvm.MethodName)) ∈ xWall := xt2 162 rfl rfl
theorem w_404 : (Jvm.Cond.instanceMethod ({ cls := "ThinRow$Reader", name := "readLine", desc := "()Z" } : Jvm.MethodName)) ∈ xWall := xt2 164 rfl rfl
theorem w_405 : (Jvm.Cond.code ({ cls := "ThinRow$Reader", name := "readLine", desc := "()Z" } : Jvm.MethodName) prog_9_method_5_code (3 : Nat) (Option.some Jvm.ClassFile.FieldType.boolean)) ∈ xWall := xt2 165 rfl rfl
theorem w_406 : (Jvm.Cond.methodLink "ThinRow$Reader" (76 : Nat) ({ cls := "ThinRow$Reader", name := "isPoint", desc := "()Z" } : Jvm.MethodName)) ∈ xWall := xt2 166 rfl rfl
theorem w_408 : (Jvm.Cond.instanceMethod ({ cls := "ThinRow$Reader", name := "isPoint", desc := "()Z" } : Jvm.MethodName)) ∈ xWall := xt2 168 rfl rfl
theorem w_409 : (Jvm.Cond.code ({ cls := "ThinRow$Reader", name := "isPoint", desc := "()Z" } : Jvm.MethodName) prog_9_method_9_code (1 : Nat) (Option.some Jvm.ClassFile.FieldType.boolean)) ∈ xWall := xt2 169 rfl rfl
theorem w_410 : (Jvm.Cond.methodLink "ThinRow$Reader" (73 : Nat) ({ cls := "ThinRow$Reader", name := "takeSign", desc := "(C)Z" } : Jvm.MethodName)) ∈ xWall := xt2 170 rfl rfl
theorem w_412 : (Jvm.Cond.instanceMethod ({ cls := "ThinRow$Reader", name := "takeSign", desc := "(C)Z" } : Jvm.MethodName)) ∈ xWall := xt2 172 rfl rfl
theorem w_413 : (Jvm.Cond.code ({ cls := "ThinRow$Reader", name := "takeSign", desc := "(C)Z" } : Jvm.MethodName) prog_9_method_11_code (2 : Nat) (Option.some Jvm.ClassFile.FieldType.boolean)) ∈ xWall := xt2 173 rfl rfl
theorem w_414 : (Jvm.Cond.methodLink "ThinRow$Reader" (82 : Nat) ({ cls := "ThinRow$Net", name := "weightOf", desc := "(II)I" } : Jvm.MethodName)) ∈ xWall := xt2 174 rfl rfl
theorem w_415 : (Jvm.Cond.instanceMethod ({ cls := "ThinRow$Net", name := "weightOf", desc := "(II)I" } : Jvm.MethodName)) ∈ xWall := xt2 175 rfl rfl
theorem w_416 : (Jvm.Cond.selects "ThinRow$Net" ({ cls := "ThinRow$Net", name := "weightOf", desc := "(II)I" } : Jvm.MethodName) ({ cls := "ThinRow$Net", name := "weightOf", desc := "(II)I" } : Jvm.MethodName)) ∈ xWall := xt2 176 rfl rfl
theorem w_417 : (Jvm.Cond.code ({ cls := "ThinRow$Net", name := "weightOf", desc := "(II)I" } : Jvm.MethodName) prog_7_method_11_code (3 : Nat) (Option.some Jvm.ClassFile.FieldType.int)) ∈ xWall := xt2 177 rfl rfl
theorem w_418 : (Jvm.Cond.methodLink "ThinRow$Reader" (86 : Nat) ({ cls := "ThinRow$Reader", name := "readWeight", desc := "(II)Z" } : Jvm.MethodName)) ∈ xWall := xt2 178 rfl rfl
theorem w_420 : (Jvm.Cond.instanceMethod ({ cls := "ThinRow$Reader", name := "readWeight", desc := "(II)Z" } : Jvm.MethodName)) ∈ xWall := xt2 180 rfl rfl
theorem w_421 : (Jvm.Cond.code ({ cls := "ThinRow$Reader", name := "readWeight", desc := "(II)Z" } : Jvm.MethodName) prog_9_method_6_code (4 : Nat) (Option.some Jvm.ClassFile.FieldType.boolean)) ∈ xWall := xt2 181 rfl rfl
theorem w_422 : (Jvm.Cond.methodLink "ThinRow$Reader" (89 : Nat) ({ cls := "ThinRow$Net", name := "setWeight", desc := "(III)V" } : Jvm.MethodName)) ∈ xWall := xt2 182 rfl rfl
theorem w_423 : (Jvm.Cond.instanceMethod ({ cls := "ThinRow$Net", name := "setWeight", desc := "(III)V" } : Jvm.MethodName)) ∈ xWall := xt2 183 rfl rfl
theorem w_424 : (Jvm.Cond.selects "ThinRow$Net" ({ cls := "ThinRow$Net", name := "setWeight", desc := "(III)V" } : Jvm.MethodName) ({ cls := "ThinRow$Net", name := "setWeight", desc := "(III)V" } : Jvm.MethodName)) ∈ xWall := xt2 184 rfl rfl
theorem w_425 : (Jvm.Cond.code ({ cls := "ThinRow$Net", name := "setWeight", desc := "(III)V" } : Jvm.MethodName) prog_7_method_12_code (4 : Nat) (Option.none : Option Jvm.ClassFile.FieldType)) ∈ xWall := xt2 185 rfl rfl
theorem w_426 : (Jvm.Cond.methodLink "ThinRow$Net" (40 : Nat) ({ cls := "ThinRow$Net", name := "weightOf", desc := "(II)I" } : Jvm.MethodName)) ∈ xWall := xt2 186 rfl rfl
theorem w_427 : (Jvm.Cond.methodLink "ThinRow$Reader" (42 : Nat) ({ cls := "ThinRow$Reader", name := "readRow", desc := "()Z" } : Jvm.MethodName)) ∈ xWall := xt2 187 rfl rfl
theorem w_429 : (Jvm.Cond.instanceMethod ({ cls := "ThinRow$Reader", name := "readRow", desc := "()Z" } : Jvm.MethodName)) ∈ xWall := xt2 189 rfl rfl
theorem w_430 : (Jvm.Cond.code ({ cls := "ThinRow$Reader", name := "readRow", desc := "()Z" } : Jvm.MethodName) prog_9_method_7_code (1 : Nat) (Option.some Jvm.ClassFile.FieldType.boolean)) ∈ xWall := xt2 190 rfl rfl
theorem w_432 : (Jvm.Cond.methodLink "ThinRow$Reader" (98 : Nat) ({ cls := "ThinRow$Reader", name := "readDigits", desc := "()Z" } : Jvm.MethodName)) ∈ xWall := xt2 192 rfl rfl
theorem w_434 : (Jvm.Cond.instanceMethod ({ cls := "ThinRow$Reader", name := "readDigits", desc := "()Z" } : Jvm.MethodName)) ∈ xWall := xt2 194 rfl rfl
theorem w_435 : (Jvm.Cond.code ({ cls := "ThinRow$Reader", name := "readDigits", desc := "()Z" } : Jvm.MethodName) prog_9_method_8_code (4 : Nat) (Option.some Jvm.ClassFile.FieldType.boolean)) ∈ xWall := xt2 195 rfl rfl
theorem w_436 : (Jvm.Cond.methodLink "ThinRow$Reader" (113 : Nat) ({ cls := "ThinRow$Net", name := "has", desc := "(I)Z" } : Jvm.MethodName)) ∈ xWall := xt2 196 rfl rfl
theorem w_437 : (Jvm.Cond.instanceMethod ({ cls := "ThinRow$Net", name := "has", desc := "(I)Z" } : Jvm.MethodName)) ∈ xWall := xt2 197 rfl rfl
theorem w_438 : (Jvm.Cond.selects "ThinRow$Net" ({ cls := "ThinRow$Net", name := "has", desc := "(I)Z" } : Jvm.MethodName) ({ cls := "ThinRow$Net", name := "has", desc := "(I)Z" } : Jvm.MethodName)) ∈ xWall := xt2 198 rfl rfl
theorem w_439 : (Jvm.Cond.code ({ cls := "ThinRow$Net", name := "has", desc := "(I)Z" } : Jvm.MethodName) prog_7_method_7_code (2 : Nat) (Option.some Jvm.ClassFile.FieldType.boolean)) ∈ xWall := xt2 199 rfl rfl
theorem w_440 : (Jvm.Cond.methodLink "ThinRow$Reader" (120 : Nat) ({ cls := "ThinRow$Net", name := "allBits", desc := "()I" } : Jvm.MethodName)) ∈ xWall := xt2 200 rfl rfl
theorem w_441 : (Jvm.Cond.instanceMethod ({ cls := "ThinRow$Net", name := "allBits", desc := "()I" } : Jvm.MethodName)) ∈ xWall := xt2 201 rfl rfl
theorem w_442 : (Jvm.Cond.selects "ThinRow$Net" ({ cls := "ThinRow$Net", name := "allBits", desc := "()I" } : Jvm.MethodName) ({ cls := "ThinRow$Net", name := "allBits", desc := "()I" } : Jvm.MethodName)) ∈ xWall := xt2 202 rfl rfl
theorem w_443 : (Jvm.Cond.code ({ cls := "ThinRow$Net", name := "allBits", desc := "()I" } : Jvm.MethodName) prog_7_method_9_code (1 : Nat) (Option.some Jvm.ClassFile.FieldType.int)) ∈ xWall := xt2 203 rfl rfl
theorem w_444 : (Jvm.Cond.methodLink "ThinRow" (90 : Nat) ({ cls := "ThinRow$Net", name := "copyFrom", desc := "(LThinRow$Net;)V" } : Jvm.MethodName)) ∈ xWall := xt2 204 rfl rfl
theorem w_445 : (Jvm.Cond.instanceMethod ({ cls := "ThinRow$Net", name := "copyFrom", desc := "(LThinRow$Net;)V" } : Jvm.MethodName)) ∈ xWall := xt2 205 rfl rfl
theorem w_446 : (Jvm.Cond.selects "ThinRow$Net" ({ cls := "ThinRow$Net", name := "copyFrom", desc := "(LThinRow$Net;)V" } : Jvm.MethodName) ({ cls := "ThinRow$Net", name := "copyFrom", desc := "(LThinRow$Net;)V" } : Jvm.MethodName)) ∈ xWall := xt2 206 rfl rfl
theorem w_447 : (Jvm.Cond.code ({ cls := "ThinRow$Net", name := "copyFrom", desc := "(LThinRow$Net;)V" } : Jvm.MethodName) prog_7_method_3_code (2 : Nat) (Option.none : Option Jvm.ClassFile.FieldType)) ∈ xWall := xt2 207 rfl rfl
theorem w_448 : (Jvm.Cond.methodLink "ThinRow$Net" (34 : Nat) ({ cls := "java/lang/System", name := "arraycopy", desc := "(Ljava/lang/Object;ILjava/lang/Object;II)V" } : Jvm.MethodName)) ∈ xWall := xt2 208 rfl rfl
theorem w_449 : (Jvm.Cond.static ({ cls := "java/lang/System", name := "arraycopy", desc := "(Ljava/lang/Object;ILjava/lang/Object;II)V" } : Jvm.MethodName)) ∈ xWall := xt2 209 rfl rfl
theorem w_451 : (Jvm.Cond.methodLink "ThinRow" (97 : Nat) ({ cls := "ThinRow", name := "noteAct", desc := "(I)V" } : Jvm.MethodName)) ∈ xWall := xt2 211 rfl rfl
theorem w_453 : (Jvm.Cond.instanceMethod ({ cls := "ThinRow", name := "noteAct", desc := "(I)V" } : Jvm.MethodName)) ∈ xWall := xt2 213 rfl rfl
theorem w_454 : (Jvm.Cond.code ({ cls := "ThinRow", name := "noteAct", desc := "(I)V" } : Jvm.MethodName) prog_1_method_55_code (2 : Nat) (Option.none : Option Jvm.ClassFile.FieldType)) ∈ xWall := xt2 214 rfl rfl
theorem w_455 : (Jvm.Cond.methodLink "ThinRow" (328 : Nat) ({ cls := "ThinRow$Net", name := "sameAs", desc := "(LThinRow$Net;)Z" } : Jvm.MethodName)) ∈ xWall := xt2 215 rfl rfl
theorem w_456 : (Jvm.Cond.instanceMethod ({ cls := "ThinRow$Net", name := "sameAs", desc := "(LThinRow$Net;)Z" } : Jvm.MethodName)) ∈ xWall := xt2 216 rfl rfl
theorem w_457 : (Jvm.Cond.selects "ThinRow$Net" ({ cls := "ThinRow$Net", name := "sameAs", desc := "(LThinRow$Net;)Z" } : Jvm.MethodName) ({ cls := "ThinRow$Net", name := "sameAs", desc := "(LThinRow$Net;)Z" } : Jvm.MethodName)) ∈ xWall := xt2 217 rfl rfl
theorem w_458 : (Jvm.Cond.code ({ cls := "ThinRow$Net", name := "sameAs", desc := "(LThinRow$Net;)Z" } : Jvm.MethodName) prog_7_method_5_code (2 : Nat) (Option.some Jvm.ClassFile.FieldType.boolean)) ∈ xWall := xt2 218 rfl rfl
theorem w_459 : (Jvm.Cond.methodLink "ThinRow$Net" (44 : Nat) ({ cls := "ThinRow$Net", name := "sameLines", desc := "(LThinRow$Net;)Z" } : Jvm.MethodName)) ∈ xWall := xt2 219 rfl rfl
theorem w_460 : (Jvm.Cond.instanceMethod ({ cls := "ThinRow$Net", name := "sameLines", desc := "(LThinRow$Net;)Z" } : Jvm.MethodName)) ∈ xWall := xt2 220 rfl rfl
theorem w_461 : (Jvm.Cond.selects "ThinRow$Net" ({ cls := "ThinRow$Net", name := "sameLines", desc := "(LThinRow$Net;)Z" } : Jvm.MethodName) ({ cls := "ThinRow$Net", name := "sameLines", desc := "(LThinRow$Net;)Z" } : Jvm.MethodName)) ∈ xWall := xt2 221 rfl rfl
theorem w_462 : (Jvm.Cond.code ({ cls := "ThinRow$Net", name := "sameLines", desc := "(LThinRow$Net;)Z" } : Jvm.MethodName) prog_7_method_4_code (4 : Nat) (Option.some Jvm.ClassFile.FieldType.boolean)) ∈ xWall := xt2 222 rfl rfl
theorem w_463 : (Jvm.Cond.methodLink "ThinRow$Net" (48 : Nat) ({ cls := "ThinRow$Net", name := "placesUnlike", desc := "(LThinRow$Net;)I" } : Jvm.MethodName)) ∈ xWall := xt2 223 rfl rfl
theorem w_464 : (Jvm.Cond.instanceMethod ({ cls := "ThinRow$Net", name := "placesUnlike", desc := "(LThinRow$Net;)I" } : Jvm.MethodName)) ∈ xWall := xt2 224 rfl rfl
theorem w_465 : (Jvm.Cond.selects "ThinRow$Net" ({ cls := "ThinRow$Net", name := "placesUnlike", desc := "(LThinRow$Net;)I" } : Jvm.MethodName) ({ cls := "ThinRow$Net", name := "placesUnlike", desc := "(LThinRow$Net;)I" } : Jvm.MethodName)) ∈ xWall := xt2 225 rfl rfl
theorem w_466 : (Jvm.Cond.code ({ cls := "ThinRow$Net", name := "placesUnlike", desc := "(LThinRow$Net;)I" } : Jvm.MethodName) prog_7_method_6_code (4 : Nat) (Option.some Jvm.ClassFile.FieldType.int)) ∈ xWall := xt2 226 rfl rfl
theorem w_467 : (Jvm.Cond.methodLink "ThinRow" (332 : Nat) ({ cls := "ThinRow$History", name := "remember", desc := "(ILThinRow$Net;)V" } : Jvm.MethodName)) ∈ xWall := xt2 227 rfl rfl
theorem w_468 : (Jvm.Cond.instanceMethod ({ cls := "ThinRow$History", name := "remember", desc := "(ILThinRow$Net;)V" } : Jvm.MethodName)) ∈ xWall := xt2 228 rfl rfl
theorem w_469 : (Jvm.Cond.selects "ThinRow$History" ({ cls := "ThinRow$History", name := "remember", desc := "(ILThinRow$Net;)V" } : Jvm.MethodName) ({ cls := "ThinRow$History", name := "remember", desc := "(ILThinRow$Net;)V" } : Jvm.MethodName)) ∈ xWall := xt2 229 rfl rfl
theorem w_470 : (Jvm.Cond.code ({ cls := "ThinRow$History", name := "remember", desc := "(ILThinRow$Net;)V" } : Jvm.MethodName) prog_6_method_2_code (3 : Nat) (Option.none : Option Jvm.ClassFile.FieldType)) ∈ xWall := xt2 230 rfl rfl
theorem w_471 : (Jvm.Cond.methodLink "ThinRow$History" (26 : Nat) ({ cls := "ThinRow$Net", name := "copyFrom", desc := "(LThinRow$Net;)V" } : Jvm.MethodName)) ∈ xWall := xt2 231 rfl rfl
theorem w_472 : (Jvm.Cond.methodLink "ThinRow$History" (33 : Nat) ({ cls := "java/lang/Math", name := "min", desc := "(II)I" } : Jvm.MethodName)) ∈ xWall := xt2 232 rfl rfl
theorem w_473 : (Jvm.Cond.methodLink "ThinRowLaw" (27 : Nat) ({ cls := "ThinRow", name := "fault", desc := "(I)I" } : Jvm.MethodName)) ∈ xWall := xt2 233 rfl rfl
theorem w_474 : (Jvm.Cond.instanceMethod ({ cls := "ThinRow", name := "fault", desc := "(I)I" } : Jvm.MethodName)) ∈ xWall := xt2 234 rfl rfl
theorem w_475 : (Jvm.Cond.selects "ThinRow" ({ cls := "ThinRow", name := "fault", desc := "(I)I" } : Jvm.MethodName) ({ cls := "ThinRow", name := "fault", desc := "(I)I" } : Jvm.MethodName)) ∈ xWall := xt2 235 rfl rfl
theorem w_476 : (Jvm.Cond.code ({ cls := "ThinRow", name := "fault", desc := "(I)I" } : Jvm.MethodName) prog_1_method_5_code (2 : Nat) (Option.some Jvm.ClassFile.FieldType.int)) ∈ xWall := xt2 236 rfl rfl
theorem w_477 : (Jvm.Cond.methodLink "ThinRowLaw" (31 : Nat) ({ cls := "ThinRow", name := "count", desc := "(I)I" } : Jvm.MethodName)) ∈ xWall := xt2 237 rfl rfl
theorem w_478 : (Jvm.Cond.instanceMethod ({ cls := "ThinRow", name := "count", desc := "(I)I" } : Jvm.MethodName)) ∈ xWall := xt2 238 rfl rfl
theorem w_479 : (Jvm.Cond.selects "ThinRow" ({ cls := "ThinRow", name := "count", desc := "(I)I" } : Jvm.MethodName) ({ cls := "ThinRow", name := "count", desc := "(I)I" } : Jvm.MethodName)) ∈ xWall := xt2 239 rfl rfl
theorem w_480 : (Jvm.Cond.code ({ cls := "ThinRow", name := "count", desc := "(I)I" } : Jvm.MethodName) prog_1_method_6_code (2 : Nat) (Option.some Jvm.ClassFile.FieldType.int)) ∈ xWall := xt3 0 rfl rfl
theorem w_481 : (Jvm.Cond.methodLink "ThinRow" (109 : Nat) ({ cls := "ThinRow", name := "filledSlots", desc := "()I" } : Jvm.MethodName)) ∈ xWall := xt3 1 rfl rfl
theorem w_483 : (Jvm.Cond.instanceMethod ({ cls := "ThinRow", name := "filledSlots", desc := "()I" } : Jvm.MethodName)) ∈ xWall := xt3 3 rfl rfl
theorem w_484 : (Jvm.Cond.code ({ cls := "ThinRow", name := "filledSlots", desc := "()I" } : Jvm.MethodName) prog_1_method_54_code (3 : Nat) (Option.some Jvm.ClassFile.FieldType.int)) ∈ xWall := xt3 4 rfl rfl
theorem w_485 : (Jvm.Cond.methodLink "ThinRowLaw" (35 : Nat) ({ cls := "ThinRow", name := "look", desc := "(II)I" } : Jvm.MethodName)) ∈ xWall := xt3 5 rfl rfl
theorem w_486 : (Jvm.Cond.instanceMethod ({ cls := "ThinRow", name := "look", desc := "(II)I" } : Jvm.MethodName)) ∈ xWall := xt3 6 rfl rfl
theorem w_487 : (Jvm.Cond.selects "ThinRow" ({ cls := "ThinRow", name := "look", desc := "(II)I" } : Jvm.MethodName) ({ cls := "ThinRow", name := "look", desc := "(II)I" } : Jvm.MethodName)) ∈ xWall := xt3 7 rfl rfl
theorem w_488 : (Jvm.Cond.code ({ cls := "ThinRow", name := "look", desc := "(II)I" } : Jvm.MethodName) prog_1_method_7_code (4 : Nat) (Option.some Jvm.ClassFile.FieldType.int)) ∈ xWall := xt3 8 rfl rfl
theorem w_489 : (Jvm.Cond.methodLink "ThinRow" (116 : Nat) ({ cls := "ThinRow", name := "netIn", desc := "(I)LThinRow$Net;" } : Jvm.MethodName)) ∈ xWall := xt3 9 rfl rfl
theorem w_491 : (Jvm.Cond.instanceMethod ({ cls := "ThinRow", name := "netIn", desc := "(I)LThinRow$Net;" } : Jvm.MethodName)) ∈ xWall := xt3 11 rfl rfl
theorem w_492 : (Jvm.Cond.code ({ cls := "ThinRow", name := "netIn", desc := "(I)LThinRow$Net;" } : Jvm.MethodName) prog_1_method_53_code (2 : Nat) (Option.some (Jvm.ClassFile.FieldType.object "ThinRow$Net"))) ∈ xWall := xt3 12 rfl rfl
theorem w_493 : (Jvm.Cond.methodLink "ThinRow" (123 : Nat) ({ cls := "ThinRow$Shape", name := "wholeWeight", desc := "(LThinRow$Net;)I" } : Jvm.MethodName)) ∈ xWall := xt3 13 rfl rfl
theorem w_494 : (Jvm.Cond.static ({ cls := "ThinRow$Shape", name := "wholeWeight", desc := "(LThinRow$Net;)I" } : Jvm.MethodName)) ∈ xWall := xt3 14 rfl rfl
theorem w_495 : (Jvm.Cond.code ({ cls := "ThinRow$Shape", name := "wholeWeight", desc := "(LThinRow$Net;)I" } : Jvm.MethodName) prog_12_method_2_code (3 : Nat) (Option.some Jvm.ClassFile.FieldType.int)) ∈ xWall := xt3 15 rfl rfl
theorem w_496 : (Jvm.Cond.methodLink "ThinRow$Shape" (15 : Nat) ({ cls := "ThinRow$Shape", name := "weightAt", desc := "(LThinRow$Net;I)I" } : Jvm.MethodName)) ∈ xWall := xt3 16 rfl rfl
theorem w_497 : (Jvm.Cond.static ({ cls := "ThinRow$Shape", name := "weightAt", desc := "(LThinRow$Net;I)I" } : Jvm.MethodName)) ∈ xWall := xt3 17 rfl rfl
theorem w_498 : (Jvm.Cond.code ({ cls := "ThinRow$Shape", name := "weightAt", desc := "(LThinRow$Net;I)I" } : Jvm.MethodName) prog_12_method_3_code (4 : Nat) (Option.some Jvm.ClassFile.FieldType.int)) ∈ xWall := xt3 18 rfl rfl
theorem w_499 : (Jvm.Cond.methodLink "ThinRow$Shape" (21 : Nat) ({ cls := "ThinRow$Net", name := "weightOf", desc := "(II)I" } : Jvm.MethodName)) ∈ xWall := xt3 19 rfl rfl
theorem w_500 : (Jvm.Cond.methodLink "ThinRow" (129 : Nat) ({ cls := "ThinRow$Shape", name := "mostLinesAtPoint", desc := "(LThinRow$Net;)I" } : Jvm.MethodName)) ∈ xWall := xt3 20 rfl rfl
theorem w_501 : (Jvm.Cond.static ({ cls := "ThinRow$Shape", name := "mostLinesAtPoint", desc := "(LThinRow$Net;)I" } : Jvm.MethodName)) ∈ xWall := xt3 21 rfl rfl
theorem w_502 : (Jvm.Cond.code ({ cls := "ThinRow$Shape", name := "mostLinesAtPoint", desc := "(LThinRow$Net;)I" } : Jvm.MethodName) prog_12_method_5_code (3 : Nat) (Option.some Jvm.ClassFile.FieldType.int)) ∈ xWall := xt3 22 rfl rfl
theorem w_503 : (Jvm.Cond.methodLink "ThinRow$Shape" (30 : Nat) ({ cls := "ThinRow$Net", name := "lineCount", desc := "(I)I" } : Jvm.MethodName)) ∈ xWall := xt3 23 rfl rfl
theorem w_504 : (Jvm.Cond.instanceMethod ({ cls := "ThinRow$Net", name := "lineCount", desc := "(I)I" } : Jvm.MethodName)) ∈ xWall := xt3 24 rfl rfl
theorem w_505 : (Jvm.Cond.selects "ThinRow$Net" ({ cls := "ThinRow$Net", name := "lineCount", desc := "(I)I" } : Jvm.MethodName) ({ cls := "ThinRow$Net", name := "lineCount", desc := "(I)I" } : Jvm.MethodName)) ∈ xWall := xt3 25 rfl rfl
theorem w_506 : (Jvm.Cond.code ({ cls := "ThinRow$Net", name := "lineCount", desc := "(I)I" } : Jvm.MethodName) prog_7_method_10_code (2 : Nat) (Option.some Jvm.ClassFile.FieldType.int)) ∈ xWall := xt3 26 rfl rfl
theorem w_507 : (Jvm.Cond.methodLink "ThinRow$Net" (56 : Nat) ({ cls := "java/lang/Integer", name := "bitCount", desc := "(I)I" } : Jvm.MethodName)) ∈ xWall := xt3 27 rfl rfl
theorem w_508 : (Jvm.Cond.static ({ cls := "java/lang/Integer", name := "bitCount", desc := "(I)I" } : Jvm.MethodName)) ∈ xWall := xt3 28 rfl rfl
theorem w_509 : (Jvm.Cond.code ({ cls := "java/lang/Integer", name := "bitCount", desc := "(I)I" } : Jvm.MethodName) prog_15_method_49_code (1 : Nat) (Option.some Jvm.ClassFile.FieldType.int)) ∈ xWall := xt3 29 rfl rfl
theorem w_510 : (Jvm.Cond.constant "java/lang/Integer" (265 : Nat) (1431655765 : Int32)) ∈ xWall := xt3 30 rfl rfl
theorem w_511 : (Jvm.Cond.constant "java/lang/Integer" (266 : Nat) (858993459 : Int32)) ∈ xWall := xt3 31 rfl rfl
theorem w_512 : (Jvm.Cond.constant "java/lang/Integer" (267 : Nat) (252645135 : Int32)) ∈ xWall := xt3 32 rfl rfl
theorem w_513 : (Jvm.Cond.methodLink "ThinRow$Shape" (25 : Nat) ({ cls := "java/lang/Math", name := "max", desc := "(II)I" } : Jvm.MethodName)) ∈ xWall := xt3 33 rfl rfl
theorem w_514 : (Jvm.Cond.methodLink "ThinRow" (132 : Nat) ({ cls := "ThinRow$Shape", name := "partCount", desc := "(LThinRow$Net;)I" } : Jvm.MethodName)) ∈ xWall := xt3 34 rfl rfl
theorem w_515 : (Jvm.Cond.static ({ cls := "ThinRow$Shape", name := "partCount", desc := "(LThinRow$Net;)I" } : Jvm.MethodName)) ∈ xWall := xt3 35 rfl rfl
theorem w_516 : (Jvm.Cond.code ({ cls := "ThinRow$Shape", name := "partCount", desc := "(LThinRow$Net;)I" } : Jvm.MethodName) prog_12_method_8_code (4 : Nat) (Option.some Jvm.ClassFile.FieldType.int)) ∈ xWall := xt3 36 rfl rfl
theorem w_517 : (Jvm.Cond.methodLink "ThinRow$Shape" (41 : Nat) ({ cls := "ThinRow$Shape", name := "partOf", desc := "(LThinRow$Net;I)I" } : Jvm.MethodName)) ∈ xWall := xt3 37 rfl rfl
theorem w_518 : (Jvm.Cond.static ({ cls := "ThinRow$Shape", name := "partOf", desc := "(LThinRow$Net;I)I" } : Jvm.MethodName)) ∈ xWall := xt3 38 rfl rfl
theorem w_519 : (Jvm.Cond.code ({ cls := "ThinRow$Shape", name := "partOf", desc := "(LThinRow$Net;I)I" } : Jvm.MethodName) prog_12_method_9_code (4 : Nat) (Option.some Jvm.ClassFile.FieldType.int)) ∈ xWall := xt3 39 rfl rfl
theorem w_520 : (Jvm.Cond.methodLink "ThinRow$Shape" (38 : Nat) ({ cls := "ThinRow$Shape", name := "grown", desc := "(LThinRow$Net;I)I" } : Jvm.MethodName)) ∈ xWall := xt3 40 rfl rfl
theorem w_521 : (Jvm.Cond.static ({ cls := "ThinRow$Shape", name := "grown", desc := "(LThinRow$Net;I)I" } : Jvm.MethodName)) ∈ xWall := xt3 41 rfl rfl
theorem w_522 : (Jvm.Cond.code ({ cls := "ThinRow$Shape", name := "grown", desc := "(LThinRow$Net;I)I" } : Jvm.MethodName) prog_12_method_6_code (4 : Nat) (Option.some Jvm.ClassFile.FieldType.int)) ∈ xWall := xt3 42 rfl rfl
theorem w_523 : (Jvm.Cond.methodLink "ThinRow" (135 : Nat) ({ cls := "ThinRow$Shape", name := "diameter", desc := "(LThinRow$Net;)I" } : Jvm.MethodName)) ∈ xWall := xt3 43 rfl rfl
theorem w_524 : (Jvm.Cond.static ({ cls := "ThinRow$Shape", name := "diameter", desc := "(LThinRow$Net;)I" } : Jvm.MethodName)) ∈ xWall := xt3 44 rfl rfl
theorem w_525 : (Jvm.Cond.code ({ cls := "ThinRow$Shape", name := "diameter", desc := "(LThinRow$Net;)I" } : Jvm.MethodName) prog_12_method_10_code (5 : Nat) (Option.some Jvm.ClassFile.FieldType.int)) ∈ xWall := xt3 45 rfl rfl
theorem w_526 : (Jvm.Cond.methodLink "ThinRow$Shape" (44 : Nat) ({ cls := "ThinRow$Shape", name := "distance", desc := "(LThinRow$Net;II)I" } : Jvm.MethodName)) ∈ xWall := xt3 46 rfl rfl
theorem w_527 : (Jvm.Cond.static ({ cls := "ThinRow$Shape", name := "distance", desc := "(LThinRow$Net;II)I" } : Jvm.MethodName)) ∈ xWall := xt3 47 rfl rfl
theorem w_528 : (Jvm.Cond.code ({ cls := "ThinRow$Shape", name := "distance", desc := "(LThinRow$Net;II)I" } : Jvm.MethodName) prog_12_method_7_code (5 : Nat) (Option.some Jvm.ClassFile.FieldType.int)) ∈ xWall := xt3 48 rfl rfl
theorem w_529 : (Jvm.Cond.methodLink "ThinRow" (138 : Nat) ({ cls := "ThinRow$Shape", name := "core", desc := "(LThinRow$Net;)I" } : Jvm.MethodName)) ∈ xWall := xt3 49 rfl rfl
theorem w_530 : (Jvm.Cond.static ({ cls := "ThinRow$Shape", name := "core", desc := "(LThinRow$Net;)I" } : Jvm.MethodName)) ∈ xWall := xt3 50 rfl rfl
theorem w_531 : (Jvm.Cond.code ({ cls := "ThinRow$Shape", name := "core", desc := "(LThinRow$Net;)I" } : Jvm.MethodName) prog_12_method_11_code (5 : Nat) (Option.some Jvm.ClassFile.FieldType.int)) ∈ xWall := xt3 51 rfl rfl
theorem w_532 : (Jvm.Cond.methodLink "ThinRow$Shape" (48 : Nat) ({ cls := "ThinRow$Net", name := "allBits", desc := "()I" } : Jvm.MethodName)) ∈ xWall := xt3 52 rfl rfl
theorem w_533 : (Jvm.Cond.methodLink "ThinRow$Shape" (52 : Nat) ({ cls := "ThinRow$Shape", name := "fewestLines", desc := "(LThinRow$Net;II)I" } : Jvm.MethodName)) ∈ xWall := xt3 53 rfl rfl
theorem w_534 : (Jvm.Cond.static ({ cls := "ThinRow$Shape", name := "fewestLines", desc := "(LThinRow$Net;II)I" } : Jvm.MethodName)) ∈ xWall := xt3 54 rfl rfl
theorem w_535 : (Jvm.Cond.code ({ cls := "ThinRow$Shape", name := "fewestLines", desc := "(LThinRow$Net;II)I" } : Jvm.MethodName) prog_12_method_12_code (7 : Nat) (Option.some Jvm.ClassFile.FieldType.int)) ∈ xWall := xt3 55 rfl rfl
theorem w_536 : (Jvm.Cond.methodLink "ThinRow$Shape" (55 : Nat) ({ cls := "java/lang/Integer", name := "bitCount", desc := "(I)I" } : Jvm.MethodName)) ∈ xWall := xt3 56 rfl rfl
theorem w_537 : (Jvm.Cond.methodLink "ThinRowLaw" (40 : Nat) ({ cls := "ThinRow", name := "near", desc := "(II)I" } : Jvm.MethodName)) ∈ xWall := xt3 57 rfl rfl
theorem w_538 : (Jvm.Cond.instanceMethod ({ cls := "ThinRow", name := "near", desc := "(II)I" } : Jvm.MethodName)) ∈ xWall := xt3 58 rfl rfl
theorem w_539 : (Jvm.Cond.selects "ThinRow" ({ cls := "ThinRow", name := "near", desc := "(II)I" } : Jvm.MethodName) ({ cls := "ThinRow", name := "near", desc := "(II)I" } : Jvm.MethodName)) ∈ xWall := xt3 59 rfl rfl
theorem w_540 : (Jvm.Cond.code ({ cls := "ThinRow", name := "near", desc := "(II)I" } : Jvm.MethodName) prog_1_method_8_code (4 : Nat) (Option.some Jvm.ClassFile.FieldType.int)) ∈ xWall := xt3 60 rfl rfl
theorem w_541 : (Jvm.Cond.methodLink "ThinRow" (141 : Nat) ({ cls := "ThinRow$Net", name := "has", desc := "(I)Z" } : Jvm.MethodName)) ∈ xWall := xt3 61 rfl rfl
theorem w_542 : (Jvm.Cond.methodLink "ThinRowLaw" (44 : Nat) ({ cls := "ThinRow", name := "line", desc := "(III)I" } : Jvm.MethodName)) ∈ xWall := xt3 62 rfl rfl
theorem w_543 : (Jvm.Cond.instanceMethod ({ cls := "ThinRow", name := "line", desc := "(III)I" } : Jvm.MethodName)) ∈ xWall := xt3 63 rfl rfl
theorem w_544 : (Jvm.Cond.selects "ThinRow" ({ cls := "ThinRow", name := "line", desc := "(III)I" } : Jvm.MethodName) ({ cls := "ThinRow", name := "line", desc := "(III)I" } : Jvm.MethodName)) ∈ xWall := xt3 64 rfl rfl
theorem w_545 : (Jvm.Cond.code ({ cls := "ThinRow", name := "line", desc := "(III)I" } : Jvm.MethodName) prog_1_method_9_code (5 : Nat) (Option.some Jvm.ClassFile.FieldType.int)) ∈ xWall := xt3 65 rfl rfl
theorem w_546 : (Jvm.Cond.methodLink "ThinRow" (148 : Nat) ({ cls := "ThinRow$Net", name := "weightOf", desc := "(II)I" } : Jvm.MethodName)) ∈ xWall := xt3 66 rfl rfl
theorem w_547 : (Jvm.Cond.methodLink "ThinRowLaw" (49 : Nat) ({ cls := "ThinRow", name := "far", desc := "(III)I" } : Jvm.MethodName)) ∈ xWall := xt3 67 rfl rfl
theorem w_548 : (Jvm.Cond.instanceMethod ({ cls := "ThinRow", name := "far", desc := "(III)I" } : Jvm.MethodName)) ∈ xWall := xt3 68 rfl rfl
theorem w_549 : (Jvm.Cond.selects "ThinRow" ({ cls := "ThinRow", name := "far", desc := "(III)I" } : Jvm.MethodName) ({ cls := "ThinRow", name := "far", desc := "(III)I" } : Jvm.MethodName)) ∈ xWall := xt3 69 rfl rfl
theorem w_550 : (Jvm.Cond.code ({ cls := "ThinRow", name := "far", desc := "(III)I" } : Jvm.MethodName) prog_1_method_10_code (5 : Nat) (Option.some Jvm.ClassFile.FieldType.int)) ∈ xWall := xt3 70 rfl rfl
theorem w_551 : (Jvm.Cond.methodLink "ThinRow" (152 : Nat) ({ cls := "ThinRow$Shape", name := "distance", desc := "(LThinRow$Net;II)I" } : Jvm.MethodName)) ∈ xWall := xt3 71 rfl rfl
theorem w_552 : (Jvm.Cond.methodLink "ThinRowLaw" (53 : Nat) ({ cls := "ThinRow", name := "row", desc := "(II)I" } : Jvm.MethodName)) ∈ xWall := xt3 72 rfl rfl
theorem w_553 : (Jvm.Cond.instanceMethod ({ cls := "ThinRow", name := "row", desc := "(II)I" } : Jvm.MethodName)) ∈ xWall := xt3 73 rfl rfl
theorem w_554 : (Jvm.Cond.selects "ThinRow" ({ cls := "ThinRow", name := "row", desc := "(II)I" } : Jvm.MethodName) ({ cls := "ThinRow", name := "row", desc := "(II)I" } : Jvm.MethodName)) ∈ xWall := xt3 74 rfl rfl
theorem w_555 : (Jvm.Cond.code ({ cls := "ThinRow", name := "row", desc := "(II)I" } : Jvm.MethodName) prog_1_method_11_code (4 : Nat) (Option.some Jvm.ClassFile.FieldType.int)) ∈ xWall := xt3 75 rfl rfl
theorem w_556 : (Jvm.Cond.methodLink "ThinRowLaw" (57 : Nat) ({ cls := "ThinRow", name := "place", desc := "(II)I" } : Jvm.MethodName)) ∈ xWall := xt3 76 rfl rfl
theorem w_557 : (Jvm.Cond.instanceMethod ({ cls := "ThinRow", name := "place", desc := "(II)I" } : Jvm.MethodName)) ∈ xWall := xt3 77 rfl rfl
theorem w_558 : (Jvm.Cond.selects "ThinRow" ({ cls := "ThinRow", name := "place", desc := "(II)I" } : Jvm.MethodName) ({ cls := "ThinRow", name := "place", desc := "(II)I" } : Jvm.MethodName)) ∈ xWall := xt3 78 rfl rfl
theorem w_559 : (Jvm.Cond.code ({ cls := "ThinRow", name := "place", desc := "(II)I" } : Jvm.MethodName) prog_1_method_12_code (4 : Nat) (Option.some Jvm.ClassFile.FieldType.int)) ∈ xWall := xt3 79 rfl rfl
theorem w_560 : (Jvm.Cond.methodLink "ThinRow" (159 : Nat) ({ cls := "ThinRow$Net", name := "placeOf", desc := "(I)I" } : Jvm.MethodName)) ∈ xWall := xt3 80 rfl rfl
theorem w_561 : (Jvm.Cond.instanceMethod ({ cls := "ThinRow$Net", name := "placeOf", desc := "(I)I" } : Jvm.MethodName)) ∈ xWall := xt3 81 rfl rfl
theorem w_562 : (Jvm.Cond.selects "ThinRow$Net" ({ cls := "ThinRow$Net", name := "placeOf", desc := "(I)I" } : Jvm.MethodName) ({ cls := "ThinRow$Net", name := "placeOf", desc := "(I)I" } : Jvm.MethodName)) ∈ xWall := xt3 82 rfl rfl
theorem w_563 : (Jvm.Cond.code ({ cls := "ThinRow$Net", name := "placeOf", desc := "(I)I" } : Jvm.MethodName) prog_7_method_13_code (3 : Nat) (Option.some Jvm.ClassFile.FieldType.int)) ∈ xWall := xt3 83 rfl rfl
theorem w_564 : (Jvm.Cond.methodLink "ThinRowLaw" (61 : Nat) ({ cls := "ThinRow", name := "value", desc := "(II)I" } : Jvm.MethodName)) ∈ xWall := xt3 84 rfl rfl
theorem w_565 : (Jvm.Cond.instanceMethod ({ cls := "ThinRow", name := "value", desc := "(II)I" } : Jvm.MethodName)) ∈ xWall := xt3 85 rfl rfl
theorem w_566 : (Jvm.Cond.selects "ThinRow" ({ cls := "ThinRow", name := "value", desc := "(II)I" } : Jvm.MethodName) ({ cls := "ThinRow", name := "value", desc := "(II)I" } : Jvm.MethodName)) ∈ xWall := xt3 86 rfl rfl
theorem w_567 : (Jvm.Cond.code ({ cls := "ThinRow", name := "value", desc := "(II)I" } : Jvm.MethodName) prog_1_method_13_code (4 : Nat) (Option.some Jvm.ClassFile.FieldType.int)) ∈ xWall := xt3 87 rfl rfl
theorem w_568 : (Jvm.Cond.methodLink "ThinRow" (163 : Nat) ({ cls := "ThinRow", name := "isMeasure", desc := "(I)Z" } : Jvm.MethodName)) ∈ xWall := xt3 88 rfl rfl
theorem w_569 : (Jvm.Cond.static ({ cls := "ThinRow", name := "isMeasure", desc := "(I)Z" } : Jvm.MethodName)) ∈ xWall := xt3 89 rfl rfl
theorem w_570 : (Jvm.Cond.code ({ cls := "ThinRow", name := "isMeasure", desc := "(I)Z" } : Jvm.MethodName) prog_1_method_50_code (1 : Nat) (Option.some Jvm.ClassFile.FieldType.boolean)) ∈ xWall := xt3 90 rfl rfl
theorem w_571 : (Jvm.Cond.methodLink "ThinRow" (166 : Nat) ({ cls := "ThinRow$Rows", name := "measured", desc := "(LThinRow$Net;I)I" } : Jvm.MethodName)) ∈ xWall := xt3 91 rfl rfl
theorem w_572 : (Jvm.Cond.static ({ cls := "ThinRow$Rows", name := "measured", desc := "(LThinRow$Net;I)I" } : Jvm.MethodName)) ∈ xWall := xt3 92 rfl rfl
theorem w_573 : (Jvm.Cond.code ({ cls := "ThinRow$Rows", name := "measured", desc := "(LThinRow$Net;I)I" } : Jvm.MethodName) prog_10_method_2_code (7 : Nat) (Option.some Jvm.ClassFile.FieldType.int)) ∈ xWall := xt3 93 rfl rfl
theorem w_574 : (Jvm.Cond.methodLink "ThinRow$Rows" (9 : Nat) ({ cls := "ThinRow$Rows", name := "widestBand", desc := "(LThinRow$Net;)I" } : Jvm.MethodName)) ∈ xWall := xt3 94 rfl rfl
theorem w_575 : (Jvm.Cond.static ({ cls := "ThinRow$Rows", name := "widestBand", desc := "(LThinRow$Net;)I" } : Jvm.MethodName)) ∈ xWall := xt3 95 rfl rfl
theorem w_576 : (Jvm.Cond.code ({ cls := "ThinRow$Rows", name := "widestBand", desc := "(LThinRow$Net;)I" } : Jvm.MethodName) prog_10_method_3_code (4 : Nat) (Option.some Jvm.ClassFile.FieldType.int)) ∈ xWall := xt3 96 rfl rfl
theorem w_577 : (Jvm.Cond.methodLink "ThinRow$Rows" (38 : Nat) ({ cls := "ThinRow$Net", name := "weightOf", desc := "(II)I" } : Jvm.MethodName)) ∈ xWall := xt3 97 rfl rfl
theorem w_578 : (Jvm.Cond.methodLink "ThinRow$Rows" (42 : Nat) ({ cls := "java/lang/Math", name := "max", desc := "(II)I" } : Jvm.MethodName)) ∈ xWall := xt3 98 rfl rfl
theorem w_579 : (Jvm.Cond.methodLink "ThinRow$Rows" (25 : Nat) ({ cls := "ThinRow$Prices", name := "aheadAtStep", desc := "(III)I" } : Jvm.MethodName)) ∈ xWall := xt3 99 rfl rfl
theorem w_580 : (Jvm.Cond.static ({ cls := "ThinRow$Prices", name := "aheadAtStep", desc := "(III)I" } : Jvm.MethodName)) ∈ xWall := xt3 100 rfl rfl
theorem w_581 : (Jvm.Cond.code ({ cls := "ThinRow$Prices", name := "aheadAtStep", desc := "(III)I" } : Jvm.MethodName) prog_8_method_6_code (3 : Nat) (Option.some Jvm.ClassFile.FieldType.int)) ∈ xWall := xt3 101 rfl rfl
theorem w_582 : (Jvm.Cond.methodLink "ThinRow$Prices" (9 : Nat) ({ cls := "ThinRow$Prices", name := "isTakenOut", desc := "(I)Z" } : Jvm.MethodName)) ∈ xWall := xt3 102 rfl rfl
theorem w_583 : (Jvm.Cond.static ({ cls := "ThinRow$Prices", name := "isTakenOut", desc := "(I)Z" } : Jvm.MethodName)) ∈ xWall := xt3 103 rfl rfl
theorem w_584 : (Jvm.Cond.code ({ cls := "ThinRow$Prices", name := "isTakenOut", desc := "(I)Z" } : Jvm.MethodName) prog_8_method_2_code (1 : Nat) (Option.some Jvm.ClassFile.FieldType.boolean)) ∈ xWall := xt3 104 rfl rfl
theorem w_585 : (Jvm.Cond.methodLink "ThinRow$Rows" (31 : Nat) ({ cls := "ThinRow$Prices", name := "of", desc := "(LThinRow$Net;III)I" } : Jvm.MethodName)) ∈ xWall := xt3 105 rfl rfl
theorem w_586 : (Jvm.Cond.static ({ cls := "ThinRow$Prices", name := "of", desc := "(LThinRow$Net;III)I" } : Jvm.MethodName)) ∈ xWall := xt3 106 rfl rfl
theorem w_587 : (Jvm.Cond.code ({ cls := "ThinRow$Prices", name := "of", desc := "(LThinRow$Net;III)I" } : Jvm.MethodName) prog_8_method_7_code (4 : Nat) (Option.some Jvm.ClassFile.FieldType.int)) ∈ xWall := xt3 107 rfl rfl
theorem w_588 : (Jvm.Cond.methodLink "ThinRow$Prices" (35 : Nat) ({ cls := "ThinRow$Prices", name := "gateSize", desc := "(LThinRow$Net;I)I" } : Jvm.MethodName)) ∈ xWall := xt3 108 rfl rfl
theorem w_589 : (Jvm.Cond.static ({ cls := "ThinRow$Prices", name := "gateSize", desc := "(LThinRow$Net;I)I" } : Jvm.MethodName)) ∈ xWall := xt3 109 rfl rfl
theorem w_590 : (Jvm.Cond.code ({ cls := "ThinRow$Prices", name := "gateSize", desc := "(LThinRow$Net;I)I" } : Jvm.MethodName) prog_8_method_9_code (2 : Nat) (Option.some Jvm.ClassFile.FieldType.int)) ∈ xWall := xt3 110 rfl rfl
theorem w_591 : (Jvm.Cond.methodLink "ThinRow$Prices" (67 : Nat) ({ cls := "ThinRow$Prices", name := "withLineInto", desc := "(LThinRow$Net;II)I" } : Jvm.MethodName)) ∈ xWall := xt3 111 rfl rfl
theorem w_592 : (Jvm.Cond.static ({ cls := "ThinRow$Prices", name := "withLineInto", desc := "(LThinRow$Net;II)I" } : Jvm.MethodName)) ∈ xWall := xt3 112 rfl rfl
theorem w_593 : (Jvm.Cond.code ({ cls := "ThinRow$Prices", name := "withLineInto", desc := "(LThinRow$Net;II)I" } : Jvm.MethodName) prog_8_method_11_code (5 : Nat) (Option.some Jvm.ClassFile.FieldType.int)) ∈ xWall := xt3 113 rfl rfl
theorem w_594 : (Jvm.Cond.methodLink "ThinRow$Prices" (46 : Nat) ({ cls := "java/lang/Integer", name := "bitCount", desc := "(I)I" } : Jvm.MethodName)) ∈ xWall := xt3 114 rfl rfl
theorem w_595 : (Jvm.Cond.methodLink "ThinRow$Prices" (39 : Nat) ({ cls := "ThinRow$Prices", name := "fringeSize", desc := "(LThinRow$Net;I)I" } : Jvm.MethodName)) ∈ xWall := xt3 115 rfl rfl
theorem w_596 : (Jvm.Cond.static ({ cls := "ThinRow$Prices", name := "fringeSize", desc := "(LThinRow$Net;I)I" } : Jvm.MethodName)) ∈ xWall := xt3 116 rfl rfl
theorem w_597 : (Jvm.Cond.code ({ cls := "ThinRow$Prices", name := "fringeSize", desc := "(LThinRow$Net;I)I" } : Jvm.MethodName) prog_8_method_10_code (2 : Nat) (Option.some Jvm.ClassFile.FieldType.int)) ∈ xWall := xt3 117 rfl rfl
theorem w_598 : (Jvm.Cond.methodLink "ThinRow$Prices" (42 : Nat) ({ cls := "ThinRow$Prices", name := "neighbours", desc := "(LThinRow$Net;II)I" } : Jvm.MethodName)) ∈ xWall := xt3 118 rfl rfl
theorem w_599 : (Jvm.Cond.static ({ cls := "ThinRow$Prices", name := "neighbours", desc := "(LThinRow$Net;II)I" } : Jvm.MethodName)) ∈ xWall := xt3 119 rfl rfl
theorem w_600 : (Jvm.Cond.code ({ cls := "ThinRow$Prices", name := "neighbours", desc := "(LThinRow$Net;II)I" } : Jvm.MethodName) prog_8_method_12_code (8 : Nat) (Option.some Jvm.ClassFile.FieldType.int)) ∈ xWall := xt3 120 rfl rfl
theorem w_601 : (Jvm.Cond.methodLink "ThinRow$Prices" (51 : Nat) ({ cls := "ThinRow$Prices", name := "newLines", desc := "(LThinRow$Net;II)I" } : Jvm.MethodName)) ∈ xWall := xt3 121 rfl rfl
theorem w_602 : (Jvm.Cond.static ({ cls := "ThinRow$Prices", name := "newLines", desc := "(LThinRow$Net;II)I" } : Jvm.MethodName)) ∈ xWall := xt3 122 rfl rfl
theorem w_603 : (Jvm.Cond.code ({ cls := "ThinRow$Prices", name := "newLines", desc := "(LThinRow$Net;II)I" } : Jvm.MethodName) prog_8_method_13_code (7 : Nat) (Option.some Jvm.ClassFile.FieldType.int)) ∈ xWall := xt3 123 rfl rfl
theorem w_604 : (Jvm.Cond.methodLink "ThinRow$Prices" (70 : Nat) ({ cls := "ThinRow$Prices", name := "aboveOf", desc := "(II)I" } : Jvm.MethodName)) ∈ xWall := xt3 124 rfl rfl
theorem w_605 : (Jvm.Cond.static ({ cls := "ThinRow$Prices", name := "aboveOf", desc := "(II)I" } : Jvm.MethodName)) ∈ xWall := xt3 125 rfl rfl
theorem w_606 : (Jvm.Cond.code ({ cls := "ThinRow$Prices", name := "aboveOf", desc := "(II)I" } : Jvm.MethodName) prog_8_method_14_code (2 : Nat) (Option.some Jvm.ClassFile.FieldType.int)) ∈ xWall := xt3 126 rfl rfl
theorem w_607 : (Jvm.Cond.methodLink "ThinRow$Prices" (54 : Nat) ({ cls := "ThinRow$Prices", name := "cutWeight", desc := "(LThinRow$Net;I)I" } : Jvm.MethodName)) ∈ xWall := xt3 127 rfl rfl
theorem w_608 : (Jvm.Cond.static ({ cls := "ThinRow$Prices", name := "cutWeight", desc := "(LThinRow$Net;I)I" } : Jvm.MethodName)) ∈ xWall := xt3 128 rfl rfl
theorem w_609 : (Jvm.Cond.code ({ cls := "ThinRow$Prices", name := "cutWeight", desc := "(LThinRow$Net;I)I" } : Jvm.MethodName) prog_8_method_8_code (6 : Nat) (Option.some Jvm.ClassFile.FieldType.int)) ∈ xWall := xt3 129 rfl rfl
theorem w_610 : (Jvm.Cond.methodLink "ThinRow$Prices" (64 : Nat) ({ cls := "ThinRow$Net", name := "weightOf", desc := "(II)I" } : Jvm.MethodName)) ∈ xWall := xt3 130 rfl rfl
theorem w_611 : (Jvm.Cond.methodLink "ThinRow$Rows" (35 : Nat) ({ cls := "ThinRow$Prices", name := "joined", desc := "(III)I" } : Jvm.MethodName)) ∈ xWall := xt3 131 rfl rfl
theorem w_612 : (Jvm.Cond.static ({ cls := "ThinRow$Prices", name := "joined", desc := "(III)I" } : Jvm.MethodName)) ∈ xWall := xt3 132 rfl rfl
theorem w_613 : (Jvm.Cond.code ({ cls := "ThinRow$Prices", name := "joined", desc := "(III)I" } : Jvm.MethodName) prog_8_method_4_code (4 : Nat) (Option.some Jvm.ClassFile.FieldType.int)) ∈ xWall := xt3 133 rfl rfl
theorem w_614 : (Jvm.Cond.methodLink "ThinRow$Prices" (15 : Nat) ({ cls := "java/lang/Math", name := "max", desc := "(II)I" } : Jvm.MethodName)) ∈ xWall := xt3 134 rfl rfl
theorem w_615 : (Jvm.Cond.methodLink "ThinRowLaw" (65 : Nat) ({ cls := "ThinRow", name := "price", desc := "(III)I" } : Jvm.MethodName)) ∈ xWall := xt3 135 rfl rfl
theorem w_616 : (Jvm.Cond.instanceMethod ({ cls := "ThinRow", name := "price", desc := "(III)I" } : Jvm.MethodName)) ∈ xWall := xt3 136 rfl rfl
theorem w_617 : (Jvm.Cond.selects "ThinRow" ({ cls := "ThinRow", name := "price", desc := "(III)I" } : Jvm.MethodName) ({ cls := "ThinRow", name := "price", desc := "(III)I" } : Jvm.MethodName)) ∈ xWall := xt3 137 rfl rfl
theorem w_618 : (Jvm.Cond.code ({ cls := "ThinRow", name := "price", desc := "(III)I" } : Jvm.MethodName) prog_1_method_14_code (5 : Nat) (Option.some Jvm.ClassFile.FieldType.int)) ∈ xWall := xt3 138 rfl rfl
theorem w_619 : (Jvm.Cond.methodLink "ThinRow" (172 : Nat) ({ cls := "ThinRow", name := "isPriced", desc := "(I)Z" } : Jvm.MethodName)) ∈ xWall := xt3 139 rfl rfl
theorem w_620 : (Jvm.Cond.static ({ cls := "ThinRow", name := "isPriced", desc := "(I)Z" } : Jvm.MethodName)) ∈ xWall := xt3 140 rfl rfl
theorem w_621 : (Jvm.Cond.code ({ cls := "ThinRow", name := "isPriced", desc := "(I)Z" } : Jvm.MethodName) prog_1_method_51_code (1 : Nat) (Option.some Jvm.ClassFile.FieldType.boolean)) ∈ xWall := xt3 141 rfl rfl
theorem w_622 : (Jvm.Cond.methodLink "ThinRow" (175 : Nat) ({ cls := "ThinRow$Prices", name := "firstStep", desc := "(I)I" } : Jvm.MethodName)) ∈ xWall := xt3 142 rfl rfl
theorem w_623 : (Jvm.Cond.static ({ cls := "ThinRow$Prices", name := "firstStep", desc := "(I)I" } : Jvm.MethodName)) ∈ xWall := xt3 143 rfl rfl
theorem w_624 : (Jvm.Cond.code ({ cls := "ThinRow$Prices", name := "firstStep", desc := "(I)I" } : Jvm.MethodName) prog_8_method_3_code (1 : Nat) (Option.some Jvm.ClassFile.FieldType.int)) ∈ xWall := xt3 144 rfl rfl
theorem w_625 : (Jvm.Cond.methodLink "ThinRow" (180 : Nat) ({ cls := "ThinRow$Prices", name := "atPlace", desc := "(LThinRow$Net;II)I" } : Jvm.MethodName)) ∈ xWall := xt3 145 rfl rfl
theorem w_626 : (Jvm.Cond.static ({ cls := "ThinRow$Prices", name := "atPlace", desc := "(LThinRow$Net;II)I" } : Jvm.MethodName)) ∈ xWall := xt3 146 rfl rfl
theorem w_627 : (Jvm.Cond.code ({ cls := "ThinRow$Prices", name := "atPlace", desc := "(LThinRow$Net;II)I" } : Jvm.MethodName) prog_8_method_5_code (3 : Nat) (Option.some Jvm.ClassFile.FieldType.int)) ∈ xWall := xt3 147 rfl rfl
theorem w_628 : (Jvm.Cond.methodLink "ThinRow$Prices" (21 : Nat) ({ cls := "ThinRow$Net", name := "aheadOf", desc := "(I)I" } : Jvm.MethodName)) ∈ xWall := xt3 148 rfl rfl
theorem w_629 : (Jvm.Cond.instanceMethod ({ cls := "ThinRow$Net", name := "aheadOf", desc := "(I)I" } : Jvm.MethodName)) ∈ xWall := xt3 149 rfl rfl
theorem w_630 : (Jvm.Cond.selects "ThinRow$Net" ({ cls := "ThinRow$Net", name := "aheadOf", desc := "(I)I" } : Jvm.MethodName) ({ cls := "ThinRow$Net", name := "aheadOf", desc := "(I)I" } : Jvm.MethodName)) ∈ xWall := xt3 150 rfl rfl
theorem w_631 : (Jvm.Cond.code ({ cls := "ThinRow$Net", name := "aheadOf", desc := "(I)I" } : Jvm.MethodName) prog_7_method_14_code (4 : Nat) (Option.some Jvm.ClassFile.FieldType.int)) ∈ xWall := xt3 151 rfl rfl
theorem w_632 : (Jvm.Cond.methodLink "ThinRow$Prices" (31 : Nat) ({ cls := "ThinRow$Prices", name := "of", desc := "(LThinRow$Net;III)I" } : Jvm.MethodName)) ∈ xWall := xt3 152 rfl rfl
theorem w_633 : (Jvm.Cond.methodLink "ThinRowLaw" (69 : Nat) ({ cls := "ThinRow", name := "worst", desc := "(II)I" } : Jvm.MethodName)) ∈ xWall := xt3 153 rfl rfl
theorem w_634 : (Jvm.Cond.instanceMethod ({ cls := "ThinRow", name := "worst", desc := "(II)I" } : Jvm.MethodName)) ∈ xWall := xt3 154 rfl rfl
theorem w_635 : (Jvm.Cond.selects "ThinRow" ({ cls := "ThinRow", name := "worst", desc := "(II)I" } : Jvm.MethodName) ({ cls := "ThinRow", name := "worst", desc := "(II)I" } : Jvm.MethodName)) ∈ xWall := xt3 155 rfl rfl
theorem w_636 : (Jvm.Cond.code ({ cls := "ThinRow", name := "worst", desc := "(II)I" } : Jvm.MethodName) prog_1_method_15_code (4 : Nat) (Option.some Jvm.ClassFile.FieldType.int)) ∈ xWall := xt3 156 rfl rfl
theorem w_637 : (Jvm.Cond.methodLink "ThinRow" (183 : Nat) ({ cls := "ThinRow$Rows", name := "worstStep", desc := "(LThinRow$Net;I)I" } : Jvm.MethodName)) ∈ xWall := xt3 157 rfl rfl
theorem w_638 : (Jvm.Cond.static ({ cls := "ThinRow$Rows", name := "worstStep", desc := "(LThinRow$Net;I)I" } : Jvm.MethodName)) ∈ xWall := xt3 158 rfl rfl
theorem w_639 : (Jvm.Cond.code ({ cls := "ThinRow$Rows", name := "worstStep", desc := "(LThinRow$Net;I)I" } : Jvm.MethodName) prog_10_method_4_code (6 : Nat) (Option.some Jvm.ClassFile.FieldType.int)) ∈ xWall := xt3 159 rfl rfl
theorem w_640 : (Jvm.Cond.methodLink "ThinRow$Rows" (47 : Nat) ({ cls := "ThinRow$Prices", name := "firstStep", desc := "(I)I" } : Jvm.MethodName)) ∈ xWall := xt3 160 rfl rfl
theorem w_641 : (Jvm.Cond.methodLink "ThinRow$Rows" (51 : Nat) ({ cls := "ThinRow$Prices", name := "atPlace", desc := "(LThinRow$Net;II)I" } : Jvm.MethodName)) ∈ xWall := xt3 161 rfl rfl
theorem w_642 : (Jvm.Cond.methodLink "ThinRowLaw" (73 : Nat) ({ cls := "ThinRow", name := "longest", desc := "(I)I" } : Jvm.MethodName)) ∈ xWall := xt3 162 rfl rfl
theorem w_643 : (Jvm.Cond.instanceMethod ({ cls := "ThinRow", name := "longest", desc := "(I)I" } : Jvm.MethodName)) ∈ xWall := xt3 163 rfl rfl
theorem w_644 : (Jvm.Cond.selects "ThinRow" ({ cls := "ThinRow", name := "longest", desc := "(I)I" } : Jvm.MethodName) ({ cls := "ThinRow", name := "longest", desc := "(I)I" } : Jvm.MethodName)) ∈ xWall := xt3 164 rfl rfl
theorem w_645 : (Jvm.Cond.code ({ cls := "ThinRow", name := "longest", desc := "(I)I" } : Jvm.MethodName) prog_1_method_16_code (3 : Nat) (Option.some Jvm.ClassFile.FieldType.int)) ∈ xWall := xt3 165 rfl rfl
theorem w_646 : (Jvm.Cond.methodLink "ThinRow" (186 : Nat) ({ cls := "ThinRow$Rows", name := "longestLine", desc := "(LThinRow$Net;)I" } : Jvm.MethodName)) ∈ xWall := xt3 166 rfl rfl
theorem w_647 : (Jvm.Cond.static ({ cls := "ThinRow$Rows", name := "longestLine", desc := "(LThinRow$Net;)I" } : Jvm.MethodName)) ∈ xWall := xt3 167 rfl rfl
theorem w_648 : (Jvm.Cond.code ({ cls := "ThinRow$Rows", name := "longestLine", desc := "(LThinRow$Net;)I" } : Jvm.MethodName) prog_10_method_5_code (6 : Nat) (Option.some Jvm.ClassFile.FieldType.int)) ∈ xWall := xt3 168 rfl rfl
theorem w_649 : (Jvm.Cond.methodLink "ThinRow$Rows" (55 : Nat) ({ cls := "ThinRow$Net", name := "placeOf", desc := "(I)I" } : Jvm.MethodName)) ∈ xWall := xt3 169 rfl rfl
theorem w_650 : (Jvm.Cond.methodLink "ThinRow$Rows" (58 : Nat) ({ cls := "java/lang/Math", name := "abs", desc := "(I)I" } : Jvm.MethodName)) ∈ xWall := xt3 170 rfl rfl
theorem w_651 : (Jvm.Cond.static ({ cls := "java/lang/Math", name := "abs", desc := "(I)I" } : Jvm.MethodName)) ∈ xWall := xt3 171 rfl rfl
theorem w_652 : (Jvm.Cond.code ({ cls := "java/lang/Math", name := "abs", desc := "(I)I" } : Jvm.MethodName) prog_16_method_59_code (1 : Nat) (Option.some Jvm.ClassFile.FieldType.int)) ∈ xWall := xt3 172 rfl rfl
theorem w_653 : (Jvm.Cond.methodLink "ThinRowLaw" (77 : Nat) ({ cls := "ThinRow", name := "least", desc := "(II)I" } : Jvm.MethodName)) ∈ xWall := xt3 173 rfl rfl
theorem w_654 : (Jvm.Cond.instanceMethod ({ cls := "ThinRow", name := "least", desc := "(II)I" } : Jvm.MethodName)) ∈ xWall := xt3 174 rfl rfl
theorem w_655 : (Jvm.Cond.selects "ThinRow" ({ cls := "ThinRow", name := "least", desc := "(II)I" } : Jvm.MethodName) ({ cls := "ThinRow", name := "least", desc := "(II)I" } : Jvm.MethodName)) ∈ xWall := xt3 175 rfl rfl
theorem w_656 : (Jvm.Cond.code ({ cls := "ThinRow", name := "least", desc := "(II)I" } : Jvm.MethodName) prog_1_method_17_code (4 : Nat) (Option.some Jvm.ClassFile.FieldType.int)) ∈ xWall := xt3 176 rfl rfl
theorem w_657 : (Jvm.Cond.methodLink "ThinRow" (189 : Nat) ({ cls := "ThinRow", name := "findingOf", desc := "(II)LThinRow$Finding;" } : Jvm.MethodName)) ∈ xWall := xt3 177 rfl rfl
theorem w_659 : (Jvm.Cond.instanceMethod ({ cls := "ThinRow", name := "findingOf", desc := "(II)LThinRow$Finding;" } : Jvm.MethodName)) ∈ xWall := xt3 179 rfl rfl
theorem w_660 : (Jvm.Cond.code ({ cls := "ThinRow", name := "findingOf", desc := "(II)LThinRow$Finding;" } : Jvm.MethodName) prog_1_method_56_code (5 : Nat) (Option.some (Jvm.ClassFile.FieldType.object "ThinRow$Finding"))) ∈ xWall := xt3 180 rfl rfl
theorem w_661 : (Jvm.Cond.methodLink "ThinRow" (336 : Nat) ({ cls := "ThinRow$Findings", name := "turnTo", desc := "(LThinRow$Net;)V" } : Jvm.MethodName)) ∈ xWall := xt3 181 rfl rfl
theorem w_662 : (Jvm.Cond.instanceMethod ({ cls := "ThinRow$Findings", name := "turnTo", desc := "(LThinRow$Net;)V" } : Jvm.MethodName)) ∈ xWall := xt3 182 rfl rfl
theorem w_663 : (Jvm.Cond.selects "ThinRow$Findings" ({ cls := "ThinRow$Findings", name := "turnTo", desc := "(LThinRow$Net;)V" } : Jvm.MethodName) ({ cls := "ThinRow$Findings", name := "turnTo", desc := "(LThinRow$Net;)V" } : Jvm.MethodName)) ∈ xWall := xt3 183 rfl rfl
theorem w_664 : (Jvm.Cond.code ({ cls := "ThinRow$Findings", name := "turnTo", desc := "(LThinRow$Net;)V" } : Jvm.MethodName) prog_5_method_2_code (3 : Nat) (Option.none : Option Jvm.ClassFile.FieldType)) ∈ xWall := xt3 184 rfl rfl
theorem w_665 : (Jvm.Cond.methodLink "ThinRow$Findings" (25 : Nat) ({ cls := "ThinRow$Net", name := "sameLines", desc := "(LThinRow$Net;)Z" } : Jvm.MethodName)) ∈ xWall := xt3 185 rfl rfl
theorem w_666 : (Jvm.Cond.methodLink "ThinRow$Findings" (29 : Nat) ({ cls := "ThinRow$Net", name := "copyFrom", desc := "(LThinRow$Net;)V" } : Jvm.MethodName)) ∈ xWall := xt3 186 rfl rfl
theorem w_667 : (Jvm.Cond.methodLink "ThinRow" (347 : Nat) ({ cls := "ThinRow$BandSearch", name := "find", desc := "(LThinRow$Net;LThinRow$Finding;)V" } : Jvm.MethodName)) ∈ xWall := xt3 187 rfl rfl
theorem w_668 : (Jvm.Cond.instanceMethod ({ cls := "ThinRow$BandSearch", name := "find", desc := "(LThinRow$Net;LThinRow$Finding;)V" } : Jvm.MethodName)) ∈ xWall := xt3 188 rfl rfl
theorem w_669 : (Jvm.Cond.selects "ThinRow$BandSearch" ({ cls := "ThinRow$BandSearch", name := "find", desc := "(LThinRow$Net;LThinRow$Finding;)V" } : Jvm.MethodName) ({ cls := "ThinRow$BandSearch", name := "find", desc := "(LThinRow$Net;LThinRow$Finding;)V" } : Jvm.MethodName)) ∈ xWall := xt3 189 rfl rfl
theorem w_670 : (Jvm.Cond.code ({ cls := "ThinRow$BandSearch", name := "find", desc := "(LThinRow$Net;LThinRow$Finding;)V" } : Jvm.MethodName) prog_2_method_2_code (7 : Nat) (Option.none : Option Jvm.ClassFile.FieldType)) ∈ xWall := xt3 190 rfl rfl
theorem w_671 : (Jvm.Cond.methodLink "ThinRow$BandSearch" (28 : Nat) ({ cls := "ThinRow$BandSearch", name := "turnTo", desc := "(LThinRow$Net;)V" } : Jvm.MethodName)) ∈ xWall := xt3 191 rfl rfl
theorem w_673 : (Jvm.Cond.instanceMethod ({ cls := "ThinRow$BandSearch", name := "turnTo", desc := "(LThinRow$Net;)V" } : Jvm.MethodName)) ∈ xWall := xt3 193 rfl rfl
theorem w_674 : (Jvm.Cond.code ({ cls := "ThinRow$BandSearch", name := "turnTo", desc := "(LThinRow$Net;)V" } : Jvm.MethodName) prog_2_method_4_code (2 : Nat) (Option.none : Option Jvm.ClassFile.FieldType)) ∈ xWall := xt3 194 rfl rfl
theorem w_675 : (Jvm.Cond.methodLink "ThinRow$BandSearch" (73 : Nat) ({ cls := "ThinRow$Net", name := "sameLines", desc := "(LThinRow$Net;)Z" } : Jvm.MethodName)) ∈ xWall := xt3 195 rfl rfl
theorem w_676 : (Jvm.Cond.methodLink "ThinRow$BandSearch" (77 : Nat) ({ cls := "ThinRow$Net", name := "copyFrom", desc := "(LThinRow$Net;)V" } : Jvm.MethodName)) ∈ xWall := xt3 196 rfl rfl
theorem w_677 : (Jvm.Cond.methodLink "ThinRow$BandSearch" (80 : Nat) ({ cls := "java/util/Arrays", name := "fill", desc := "([II)V" } : Jvm.MethodName)) ∈ xWall := xt3 197 rfl rfl
theorem w_678 : (Jvm.Cond.methodLink "ThinRow$BandSearch" (32 : Nat) ({ cls := "ThinRow$BandSearch", name := "leastLimit", desc := "()I" } : Jvm.MethodName)) ∈ xWall := xt3 198 rfl rfl
theorem w_680 : (Jvm.Cond.instanceMethod ({ cls := "ThinRow$BandSearch", name := "leastLimit", desc := "()I" } : Jvm.MethodName)) ∈ xWall := xt3 200 rfl rfl
theorem w_681 : (Jvm.Cond.code ({ cls := "ThinRow$BandSearch", name := "leastLimit", desc := "()I" } : Jvm.MethodName) prog_2_method_5_code (2 : Nat) (Option.some Jvm.ClassFile.FieldType.int)) ∈ xWall := xt3 201 rfl rfl
theorem w_682 : (Jvm.Cond.methodLink "ThinRow$BandSearch" (42 : Nat) ({ cls := "ThinRow$BandSearch", name := "rowsFrom", desc := "(III)I" } : Jvm.MethodName)) ∈ xWall := xt3 202 rfl rfl
theorem w_684 : (Jvm.Cond.instanceMethod ({ cls := "ThinRow$BandSearch", name := "rowsFrom", desc := "(III)I" } : Jvm.MethodName)) ∈ xWall := xt3 204 rfl rfl
theorem w_685 : (Jvm.Cond.code ({ cls := "ThinRow$BandSearch", name := "rowsFrom", desc := "(III)I" } : Jvm.MethodName) prog_2_method_7_code (8 : Nat) (Option.some Jvm.ClassFile.FieldType.int)) ∈ xWall := xt3 205 rfl rfl
theorem w_686 : (Jvm.Cond.methodLink "ThinRow$BandSearch" (86 : Nat) ({ cls := "ThinRow$BandSearch", name := "waiting", desc := "(III)I" } : Jvm.MethodName)) ∈ xWall := xt3 206 rfl rfl
theorem w_688 : (Jvm.Cond.instanceMethod ({ cls := "ThinRow$BandSearch", name := "waiting", desc := "(III)I" } : Jvm.MethodName)) ∈ xWall := xt3 208 rfl rfl
theorem w_689 : (Jvm.Cond.code ({ cls := "ThinRow$BandSearch", name := "waiting", desc := "(III)I" } : Jvm.MethodName) prog_2_method_8_code (10 : Nat) (Option.some Jvm.ClassFile.FieldType.int)) ∈ xWall := xt3 209 rfl rfl
theorem w_690 : (Jvm.Cond.methodLink "ThinRow$BandSearch" (67 : Nat) ({ cls := "java/lang/Math", name := "min", desc := "(II)I" } : Jvm.MethodName)) ∈ xWall := xt3 210 rfl rfl
theorem w_691 : (Jvm.Cond.methodLink "ThinRow$BandSearch" (90 : Nat) ({ cls := "java/lang/Math", name := "max", desc := "(II)I" } : Jvm.MethodName)) ∈ xWall := xt3 211 rfl rfl
theorem w_692 : (Jvm.Cond.methodLink "ThinRow$BandSearch" (96 : Nat) ({ cls := "java/lang/Integer", name := "bitCount", desc := "(I)I" } : Jvm.MethodName)) ∈ xWall := xt3 212 rfl rfl
theorem w_693 : (Jvm.Cond.constant "ThinRow$BandSearch" (89 : Nat) (-1640531535 : Int32)) ∈ xWall := xt3 213 rfl rfl
theorem w_694 : (Jvm.Cond.methodLink "ThinRow$BandSearch" (49 : Nat) ({ cls := "ThinRow$BandSearch", name := "leadersFrom", desc := "(III)I" } : Jvm.MethodName)) ∈ xWall := xt3 214 rfl rfl
theorem w_696 : (Jvm.Cond.instanceMethod ({ cls := "ThinRow$BandSearch", name := "leadersFrom", desc := "(III)I" } : Jvm.MethodName)) ∈ xWall := xt3 216 rfl rfl
theorem w_697 : (Jvm.Cond.code ({ cls := "ThinRow$BandSearch", name := "leadersFrom", desc := "(III)I" } : Jvm.MethodName) prog_2_method_6_code (6 : Nat) (Option.some Jvm.ClassFile.FieldType.int)) ∈ xWall := xt3 217 rfl rfl
theorem w_698 : (Jvm.Cond.methodLink "ThinRow$BandSearch" (58 : Nat) ({ cls := "ThinRow$SetSearch", name := "lowest", desc := "(I)I" } : Jvm.MethodName)) ∈ xWall := xt3 218 rfl rfl
theorem w_699 : (Jvm.Cond.static ({ cls := "ThinRow$SetSearch", name := "lowest", desc := "(I)I" } : Jvm.MethodName)) ∈ xWall := xt3 219 rfl rfl
theorem w_700 : (Jvm.Cond.code ({ cls := "ThinRow$SetSearch", name := "lowest", desc := "(I)I" } : Jvm.MethodName) prog_11_method_13_code (2 : Nat) (Option.some Jvm.ClassFile.FieldType.int)) ∈ xWall := xt3 220 rfl rfl
theorem w_701 : (Jvm.Cond.methodLink "ThinRow" (351 : Nat) ({ cls := "ThinRow$SetSearch", name := "find", desc := "(LThinRow$Net;ILThinRow$Finding;)V" } : Jvm.MethodName)) ∈ xWall := xt3 221 rfl rfl
theorem w_702 : (Jvm.Cond.instanceMethod ({ cls := "ThinRow$SetSearch", name := "find", desc := "(LThinRow$Net;ILThinRow$Finding;)V" } : Jvm.MethodName)) ∈ xWall := xt3 222 rfl rfl
theorem w_703 : (Jvm.Cond.selects "ThinRow$SetSearch" ({ cls := "ThinRow$SetSearch", name := "find", desc := "(LThinRow$Net;ILThinRow$Finding;)V" } : Jvm.MethodName) ({ cls := "ThinRow$SetSearch", name := "find", desc := "(LThinRow$Net;ILThinRow$Finding;)V" } : Jvm.MethodName)) ∈ xWall := xt3 223 rfl rfl
theorem w_704 : (Jvm.Cond.code ({ cls := "ThinRow$SetSearch", name := "find", desc := "(LThinRow$Net;ILThinRow$Finding;)V" } : Jvm.MethodName) prog_11_method_2_code (7 : Nat) (Option.none : Option Jvm.ClassFile.FieldType)) ∈ xWall := xt3 224 rfl rfl
theorem w_705 : (Jvm.Cond.methodLink "ThinRow$SetSearch" (27 : Nat) ({ cls := "ThinRow$SetSearch", name := "fillSteps", desc := "(LThinRow$Net;I[I)V" } : Jvm.MethodName)) ∈ xWall := xt3 225 rfl rfl
theorem w_707 : (Jvm.Cond.instanceMethod ({ cls := "ThinRow$SetSearch", name := "fillSteps", desc := "(LThinRow$Net;I[I)V" } : Jvm.MethodName)) ∈ xWall := xt3 227 rfl rfl
theorem w_708 : (Jvm.Cond.code ({ cls := "ThinRow$SetSearch", name := "fillSteps", desc := "(LThinRow$Net;I[I)V" } : Jvm.MethodName) prog_11_method_5_code (7 : Nat) (Option.none : Option Jvm.ClassFile.FieldType)) ∈ xWall := xt3 228 rfl rfl
theorem w_709 : (Jvm.Cond.methodLink "ThinRow$SetSearch" (68 : Nat) ({ cls := "ThinRow$Prices", name := "isTakenOut", desc := "(I)Z" } : Jvm.MethodName)) ∈ xWall := xt3 229 rfl rfl
theorem w_710 : (Jvm.Cond.methodLink "ThinRow$SetSearch" (74 : Nat) ({ cls := "ThinRow$SetSearch", name := "fillTakings", desc := "(LThinRow$Net;I[I)V" } : Jvm.MethodName)) ∈ xWall := xt3 230 rfl rfl
theorem w_712 : (Jvm.Cond.instanceMethod ({ cls := "ThinRow$SetSearch", name := "fillTakings", desc := "(LThinRow$Net;I[I)V" } : Jvm.MethodName)) ∈ xWall := xt3 232 rfl rfl
theorem w_713 : (Jvm.Cond.code ({ cls := "ThinRow$SetSearch", name := "fillTakings", desc := "(LThinRow$Net;I[I)V" } : Jvm.MethodName) prog_11_method_6_code (7 : Nat) (Option.none : Option Jvm.ClassFile.FieldType)) ∈ xWall := xt3 233 rfl rfl
theorem w_714 : (Jvm.Cond.methodLink "ThinRow$SetSearch" (84 : Nat) ({ cls := "ThinRow$SetSearch", name := "fillAround", desc := "(LThinRow$Net;)V" } : Jvm.MethodName)) ∈ xWall := xt3 234 rfl rfl
theorem w_716 : (Jvm.Cond.instanceMethod ({ cls := "ThinRow$SetSearch", name := "fillAround", desc := "(LThinRow$Net;)V" } : Jvm.MethodName)) ∈ xWall := xt3 236 rfl rfl
theorem w_717 : (Jvm.Cond.code ({ cls := "ThinRow$SetSearch", name := "fillAround", desc := "(LThinRow$Net;)V" } : Jvm.MethodName) prog_11_method_8_code (7 : Nat) (Option.none : Option Jvm.ClassFile.FieldType)) ∈ xWall := xt3 237 rfl rfl
theorem w_718 : (Jvm.Cond.methodLink "ThinRow$SetSearch" (77 : Nat) ({ cls := "ThinRow$Net", name := "allBits", desc := "()I" } : Jvm.MethodName)) ∈ xWall := xt3 238 rfl rfl
theorem w_719 : (Jvm.Cond.methodLink "ThinRow$SetSearch" (61 : Nat) ({ cls := "ThinRow$SetSearch", name := "lowest", desc := "(I)I" } : Jvm.MethodName)) ∈ xWall := xt3 239 rfl rfl
theorem w_720 : (Jvm.Cond.methodLink "ThinRow$SetSearch" (88 : Nat) ({ cls := "java/lang/Integer", name := "bitCount", desc := "(I)I" } : Jvm.MethodName)) ∈ xWall := xt4 0 rfl rfl
theorem w_721 : (Jvm.Cond.methodLink "ThinRow$SetSearch" (93 : Nat) ({ cls := "ThinRow$SetSearch", name := "newLines", desc := "(LThinRow$Net;II)I" } : Jvm.MethodName)) ∈ xWall := xt4 1 rfl rfl
theorem w_723 : (Jvm.Cond.instanceMethod ({ cls := "ThinRow$SetSearch", name := "newLines", desc := "(LThinRow$Net;II)I" } : Jvm.MethodName)) ∈ xWall := xt4 3 rfl rfl
theorem w_724 : (Jvm.Cond.code ({ cls := "ThinRow$SetSearch", name := "newLines", desc := "(LThinRow$Net;II)I" } : Jvm.MethodName) prog_11_method_7_code (7 : Nat) (Option.some Jvm.ClassFile.FieldType.int)) ∈ xWall := xt4 4 rfl rfl
theorem w_725 : (Jvm.Cond.methodLink "ThinRow$SetSearch" (97 : Nat) ({ cls := "ThinRow$Prices", name := "aboveOf", desc := "(II)I" } : Jvm.MethodName)) ∈ xWall := xt4 5 rfl rfl
theorem w_726 : (Jvm.Cond.methodLink "ThinRow$SetSearch" (81 : Nat) ({ cls := "ThinRow$Prices", name := "of", desc := "(LThinRow$Net;III)I" } : Jvm.MethodName)) ∈ xWall := xt4 6 rfl rfl
theorem w_727 : (Jvm.Cond.constant "ThinRow$SetSearch" (31 : Nat) (1048576 : Int32)) ∈ xWall := xt4 7 rfl rfl
theorem w_728 : (Jvm.Cond.methodLink "ThinRow$SetSearch" (32 : Nat) ({ cls := "ThinRow$SetSearch", name := "fillRest", desc := "(LThinRow$Net;I[II)V" } : Jvm.MethodName)) ∈ xWall := xt4 8 rfl rfl
theorem w_730 : (Jvm.Cond.instanceMethod ({ cls := "ThinRow$SetSearch", name := "fillRest", desc := "(LThinRow$Net;I[II)V" } : Jvm.MethodName)) ∈ xWall := xt4 10 rfl rfl
theorem w_731 : (Jvm.Cond.code ({ cls := "ThinRow$SetSearch", name := "fillRest", desc := "(LThinRow$Net;I[II)V" } : Jvm.MethodName) prog_11_method_9_code (11 : Nat) (Option.none : Option Jvm.ClassFile.FieldType)) ∈ xWall := xt4 11 rfl rfl
theorem w_732 : (Jvm.Cond.methodLink "ThinRow$SetSearch" (104 : Nat) ({ cls := "ThinRow$Prices", name := "joined", desc := "(III)I" } : Jvm.MethodName)) ∈ xWall := xt4 12 rfl rfl
theorem w_733 : (Jvm.Cond.methodLink "ThinRow$SetSearch" (108 : Nat) ({ cls := "java/lang/Math", name := "min", desc := "(II)I" } : Jvm.MethodName)) ∈ xWall := xt4 13 rfl rfl
theorem w_734 : (Jvm.Cond.methodLink "ThinRow$SetSearch" (42 : Nat) ({ cls := "ThinRow$SetSearch", name := "countRows", desc := "(LThinRow$Net;II)V" } : Jvm.MethodName)) ∈ xWall := xt4 14 rfl rfl
theorem w_736 : (Jvm.Cond.instanceMethod ({ cls := "ThinRow$SetSearch", name := "countRows", desc := "(LThinRow$Net;II)V" } : Jvm.MethodName)) ∈ xWall := xt4 16 rfl rfl
theorem w_737 : (Jvm.Cond.code ({ cls := "ThinRow$SetSearch", name := "countRows", desc := "(LThinRow$Net;II)V" } : Jvm.MethodName) prog_11_method_10_code (8 : Nat) (Option.none : Option Jvm.ClassFile.FieldType)) ∈ xWall := xt4 17 rfl rfl
theorem w_738 : (Jvm.Cond.methodLink "ThinRow$SetSearch" (113 : Nat) ({ cls := "ThinRow$SetSearch", name := "fits", desc := "(IIII)Z" } : Jvm.MethodName)) ∈ xWall := xt4 18 rfl rfl
theorem w_740 : (Jvm.Cond.instanceMethod ({ cls := "ThinRow$SetSearch", name := "fits", desc := "(IIII)Z" } : Jvm.MethodName)) ∈ xWall := xt4 20 rfl rfl
theorem w_741 : (Jvm.Cond.code ({ cls := "ThinRow$SetSearch", name := "fits", desc := "(IIII)Z" } : Jvm.MethodName) prog_11_method_11_code (6 : Nat) (Option.some Jvm.ClassFile.FieldType.boolean)) ∈ xWall := xt4 21 rfl rfl
theorem w_742 : (Jvm.Cond.methodLink "ThinRow$SetSearch" (49 : Nat) ({ cls := "ThinRow$SetSearch", name := "leadersFrom", desc := "(LThinRow$Net;III)I" } : Jvm.MethodName)) ∈ xWall := xt4 22 rfl rfl
theorem w_744 : (Jvm.Cond.instanceMethod ({ cls := "ThinRow$SetSearch", name := "leadersFrom", desc := "(LThinRow$Net;III)I" } : Jvm.MethodName)) ∈ xWall := xt4 24 rfl rfl
theorem w_745 : (Jvm.Cond.code ({ cls := "ThinRow$SetSearch", name := "leadersFrom", desc := "(LThinRow$Net;III)I" } : Jvm.MethodName) prog_11_method_12_code (7 : Nat) (Option.some Jvm.ClassFile.FieldType.int)) ∈ xWall := xt4 25 rfl rfl
theorem w_746 : (Jvm.Cond.methodLink "ThinRowLaw" (81 : Nat) ({ cls := "ThinRow", name := "best", desc := "(III)I" } : Jvm.MethodName)) ∈ xWall := xt4 26 rfl rfl
theorem w_747 : (Jvm.Cond.instanceMethod ({ cls := "ThinRow", name := "best", desc := "(III)I" } : Jvm.MethodName)) ∈ xWall := xt4 27 rfl rfl
theorem w_748 : (Jvm.Cond.selects "ThinRow" ({ cls := "ThinRow", name := "best", desc := "(III)I" } : Jvm.MethodName) ({ cls := "ThinRow", name := "best", desc := "(III)I" } : Jvm.MethodName)) ∈ xWall := xt4 28 rfl rfl
theorem w_749 : (Jvm.Cond.code ({ cls := "ThinRow", name := "best", desc := "(III)I" } : Jvm.MethodName) prog_1_method_18_code (5 : Nat) (Option.some Jvm.ClassFile.FieldType.int)) ∈ xWall := xt4 29 rfl rfl
theorem w_750 : (Jvm.Cond.methodLink "ThinRowLaw" (85 : Nat) ({ cls := "ThinRow", name := "ways", desc := "(II)I" } : Jvm.MethodName)) ∈ xWall := xt4 30 rfl rfl
theorem w_751 : (Jvm.Cond.instanceMethod ({ cls := "ThinRow", name := "ways", desc := "(II)I" } : Jvm.MethodName)) ∈ xWall := xt4 31 rfl rfl
theorem w_752 : (Jvm.Cond.selects "ThinRow" ({ cls := "ThinRow", name := "ways", desc := "(II)I" } : Jvm.MethodName) ({ cls := "ThinRow", name := "ways", desc := "(II)I" } : Jvm.MethodName)) ∈ xWall := xt4 32 rfl rfl
theorem w_753 : (Jvm.Cond.code ({ cls := "ThinRow", name := "ways", desc := "(II)I" } : Jvm.MethodName) prog_1_method_19_code (4 : Nat) (Option.some Jvm.ClassFile.FieldType.int)) ∈ xWall := xt4 33 rfl rfl
theorem w_754 : (Jvm.Cond.methodLink "ThinRowLaw" (89 : Nat) ({ cls := "ThinRow", name := "within", desc := "(III)I" } : Jvm.MethodName)) ∈ xWall := xt4 34 rfl rfl
theorem w_755 : (Jvm.Cond.instanceMethod ({ cls := "ThinRow", name := "within", desc := "(III)I" } : Jvm.MethodName)) ∈ xWall := xt4 35 rfl rfl
theorem w_756 : (Jvm.Cond.selects "ThinRow" ({ cls := "ThinRow", name := "within", desc := "(III)I" } : Jvm.MethodName) ({ cls := "ThinRow", name := "within", desc := "(III)I" } : Jvm.MethodName)) ∈ xWall := xt4 36 rfl rfl
theorem w_757 : (Jvm.Cond.code ({ cls := "ThinRow", name := "within", desc := "(III)I" } : Jvm.MethodName) prog_1_method_20_code (5 : Nat) (Option.some Jvm.ClassFile.FieldType.int)) ∈ xWall := xt4 37 rfl rfl
theorem w_758 : (Jvm.Cond.methodLink "ThinRow" (204 : Nat) ({ cls := "ThinRow", name := "isBounded", desc := "(I)Z" } : Jvm.MethodName)) ∈ xWall := xt4 38 rfl rfl
theorem w_759 : (Jvm.Cond.static ({ cls := "ThinRow", name := "isBounded", desc := "(I)Z" } : Jvm.MethodName)) ∈ xWall := xt4 39 rfl rfl
theorem w_760 : (Jvm.Cond.code ({ cls := "ThinRow", name := "isBounded", desc := "(I)Z" } : Jvm.MethodName) prog_1_method_52_code (1 : Nat) (Option.some Jvm.ClassFile.FieldType.boolean)) ∈ xWall := xt4 40 rfl rfl
theorem w_761 : (Jvm.Cond.methodLink "ThinRow" (207 : Nat) ({ cls := "ThinRow$BandSearch", name := "rowsWithin", desc := "(LThinRow$Net;I)I" } : Jvm.MethodName)) ∈ xWall := xt4 41 rfl rfl
theorem w_762 : (Jvm.Cond.instanceMethod ({ cls := "ThinRow$BandSearch", name := "rowsWithin", desc := "(LThinRow$Net;I)I" } : Jvm.MethodName)) ∈ xWall := xt4 42 rfl rfl
theorem w_763 : (Jvm.Cond.selects "ThinRow$BandSearch" ({ cls := "ThinRow$BandSearch", name := "rowsWithin", desc := "(LThinRow$Net;I)I" } : Jvm.MethodName) ({ cls := "ThinRow$BandSearch", name := "rowsWithin", desc := "(LThinRow$Net;I)I" } : Jvm.MethodName)) ∈ xWall := xt4 43 rfl rfl
theorem w_764 : (Jvm.Cond.code ({ cls := "ThinRow$BandSearch", name := "rowsWithin", desc := "(LThinRow$Net;I)I" } : Jvm.MethodName) prog_2_method_3_code (3 : Nat) (Option.some Jvm.ClassFile.FieldType.int)) ∈ xWall := xt4 44 rfl rfl
theorem w_765 : (Jvm.Cond.methodLink "ThinRow" (210 : Nat) ({ cls := "ThinRow$SetSearch", name := "rowsWithin", desc := "(LThinRow$Net;II)I" } : Jvm.MethodName)) ∈ xWall := xt4 45 rfl rfl
theorem w_766 : (Jvm.Cond.instanceMethod ({ cls := "ThinRow$SetSearch", name := "rowsWithin", desc := "(LThinRow$Net;II)I" } : Jvm.MethodName)) ∈ xWall := xt4 46 rfl rfl
theorem w_767 : (Jvm.Cond.selects "ThinRow$SetSearch" ({ cls := "ThinRow$SetSearch", name := "rowsWithin", desc := "(LThinRow$Net;II)I" } : Jvm.MethodName) ({ cls := "ThinRow$SetSearch", name := "rowsWithin", desc := "(LThinRow$Net;II)I" } : Jvm.MethodName)) ∈ xWall := xt4 47 rfl rfl
theorem w_768 : (Jvm.Cond.code ({ cls := "ThinRow$SetSearch", name := "rowsWithin", desc := "(LThinRow$Net;II)I" } : Jvm.MethodName) prog_11_method_3_code (4 : Nat) (Option.some Jvm.ClassFile.FieldType.int)) ∈ xWall := xt4 48 rfl rfl
theorem w_769 : (Jvm.Cond.methodLink "ThinRowLaw" (93 : Nat) ({ cls := "ThinRow", name := "firsts", desc := "(II)I" } : Jvm.MethodName)) ∈ xWall := xt4 49 rfl rfl
theorem w_770 : (Jvm.Cond.instanceMethod ({ cls := "ThinRow", name := "firsts", desc := "(II)I" } : Jvm.MethodName)) ∈ xWall := xt4 50 rfl rfl
theorem w_771 : (Jvm.Cond.selects "ThinRow" ({ cls := "ThinRow", name := "firsts", desc := "(II)I" } : Jvm.MethodName) ({ cls := "ThinRow", name := "firsts", desc := "(II)I" } : Jvm.MethodName)) ∈ xWall := xt4 51 rfl rfl
theorem w_772 : (Jvm.Cond.code ({ cls := "ThinRow", name := "firsts", desc := "(II)I" } : Jvm.MethodName) prog_1_method_21_code (4 : Nat) (Option.some Jvm.ClassFile.FieldType.int)) ∈ xWall := xt4 52 rfl rfl
theorem w_773 : (Jvm.Cond.methodLink "ThinRowLaw" (97 : Nat) ({ cls := "ThinRow", name := "bound", desc := "(III)I" } : Jvm.MethodName)) ∈ xWall := xt4 53 rfl rfl
theorem w_774 : (Jvm.Cond.instanceMethod ({ cls := "ThinRow", name := "bound", desc := "(III)I" } : Jvm.MethodName)) ∈ xWall := xt4 54 rfl rfl
theorem w_775 : (Jvm.Cond.selects "ThinRow" ({ cls := "ThinRow", name := "bound", desc := "(III)I" } : Jvm.MethodName) ({ cls := "ThinRow", name := "bound", desc := "(III)I" } : Jvm.MethodName)) ∈ xWall := xt4 55 rfl rfl
theorem w_776 : (Jvm.Cond.code ({ cls := "ThinRow", name := "bound", desc := "(III)I" } : Jvm.MethodName) prog_1_method_22_code (5 : Nat) (Option.some Jvm.ClassFile.FieldType.int)) ∈ xWall := xt4 56 rfl rfl
theorem w_777 : (Jvm.Cond.methodLink "ThinRow" (215 : Nat) ({ cls := "ThinRow$Shape", name := "ballBound", desc := "(LThinRow$Net;)I" } : Jvm.MethodName)) ∈ xWall := xt4 57 rfl rfl
theorem w_778 : (Jvm.Cond.static ({ cls := "ThinRow$Shape", name := "ballBound", desc := "(LThinRow$Net;)I" } : Jvm.MethodName)) ∈ xWall := xt4 58 rfl rfl
theorem w_779 : (Jvm.Cond.code ({ cls := "ThinRow$Shape", name := "ballBound", desc := "(LThinRow$Net;)I" } : Jvm.MethodName) prog_12_method_14_code (6 : Nat) (Option.some Jvm.ClassFile.FieldType.int)) ∈ xWall := xt4 59 rfl rfl
theorem w_780 : (Jvm.Cond.methodLink "ThinRow" (218 : Nat) ({ cls := "ThinRow$Shape", name := "lineBound", desc := "(LThinRow$Net;I)I" } : Jvm.MethodName)) ∈ xWall := xt4 60 rfl rfl
theorem w_781 : (Jvm.Cond.static ({ cls := "ThinRow$Shape", name := "lineBound", desc := "(LThinRow$Net;I)I" } : Jvm.MethodName)) ∈ xWall := xt4 61 rfl rfl
theorem w_782 : (Jvm.Cond.code ({ cls := "ThinRow$Shape", name := "lineBound", desc := "(LThinRow$Net;I)I" } : Jvm.MethodName) prog_12_method_13_code (2 : Nat) (Option.some Jvm.ClassFile.FieldType.int)) ∈ xWall := xt4 62 rfl rfl
theorem w_783 : (Jvm.Cond.methodLink "ThinRow$Shape" (60 : Nat) ({ cls := "ThinRow$Shape", name := "mostWeightAtPoint", desc := "(LThinRow$Net;)I" } : Jvm.MethodName)) ∈ xWall := xt4 63 rfl rfl
theorem w_784 : (Jvm.Cond.static ({ cls := "ThinRow$Shape", name := "mostWeightAtPoint", desc := "(LThinRow$Net;)I" } : Jvm.MethodName)) ∈ xWall := xt4 64 rfl rfl
theorem w_785 : (Jvm.Cond.code ({ cls := "ThinRow$Shape", name := "mostWeightAtPoint", desc := "(LThinRow$Net;)I" } : Jvm.MethodName) prog_12_method_4_code (3 : Nat) (Option.some Jvm.ClassFile.FieldType.int)) ∈ xWall := xt4 65 rfl rfl
theorem w_786 : (Jvm.Cond.methodLink "ThinRow$Shape" (64 : Nat) ({ cls := "ThinRow$Shape", name := "mostLinesAtPoint", desc := "(LThinRow$Net;)I" } : Jvm.MethodName)) ∈ xWall := xt4 66 rfl rfl
theorem w_787 : (Jvm.Cond.methodLink "ThinRow$Shape" (67 : Nat) ({ cls := "ThinRow$Shape", name := "core", desc := "(LThinRow$Net;)I" } : Jvm.MethodName)) ∈ xWall := xt4 67 rfl rfl
theorem w_788 : (Jvm.Cond.methodLink "ThinRowLaw" (101 : Nat) ({ cls := "ThinRow", name := "minor", desc := "(I)I" } : Jvm.MethodName)) ∈ xWall := xt4 68 rfl rfl
theorem w_789 : (Jvm.Cond.instanceMethod ({ cls := "ThinRow", name := "minor", desc := "(I)I" } : Jvm.MethodName)) ∈ xWall := xt4 69 rfl rfl
theorem w_790 : (Jvm.Cond.selects "ThinRow" ({ cls := "ThinRow", name := "minor", desc := "(I)I" } : Jvm.MethodName) ({ cls := "ThinRow", name := "minor", desc := "(I)I" } : Jvm.MethodName)) ∈ xWall := xt4 70 rfl rfl
theorem w_791 : (Jvm.Cond.code ({ cls := "ThinRow", name := "minor", desc := "(I)I" } : Jvm.MethodName) prog_1_method_23_code (3 : Nat) (Option.some Jvm.ClassFile.FieldType.int)) ∈ xWall := xt4 71 rfl rfl
theorem w_792 : (Jvm.Cond.methodLink "ThinRow" (221 : Nat) ({ cls := "ThinRow$Shape", name := "shrinkAway", desc := "(LThinRow$Net;)I" } : Jvm.MethodName)) ∈ xWall := xt4 72 rfl rfl
theorem w_793 : (Jvm.Cond.static ({ cls := "ThinRow$Shape", name := "shrinkAway", desc := "(LThinRow$Net;)I" } : Jvm.MethodName)) ∈ xWall := xt4 73 rfl rfl
theorem w_794 : (Jvm.Cond.code ({ cls := "ThinRow$Shape", name := "shrinkAway", desc := "(LThinRow$Net;)I" } : Jvm.MethodName) prog_12_method_15_code (7 : Nat) (Option.some Jvm.ClassFile.FieldType.int)) ∈ xWall := xt4 74 rfl rfl
theorem w_795 : (Jvm.Cond.methodLink "ThinRow$Shape" (70 : Nat) ({ cls := "ThinRow$Net", name := "takeOut", desc := "(I)V" } : Jvm.MethodName)) ∈ xWall := xt4 75 rfl rfl
theorem w_796 : (Jvm.Cond.instanceMethod ({ cls := "ThinRow$Net", name := "takeOut", desc := "(I)V" } : Jvm.MethodName)) ∈ xWall := xt4 76 rfl rfl
theorem w_797 : (Jvm.Cond.selects "ThinRow$Net" ({ cls := "ThinRow$Net", name := "takeOut", desc := "(I)V" } : Jvm.MethodName) ({ cls := "ThinRow$Net", name := "takeOut", desc := "(I)V" } : Jvm.MethodName)) ∈ xWall := xt4 77 rfl rfl
theorem w_798 : (Jvm.Cond.code ({ cls := "ThinRow$Net", name := "takeOut", desc := "(I)V" } : Jvm.MethodName) prog_7_method_19_code (5 : Nat) (Option.none : Option Jvm.ClassFile.FieldType)) ∈ xWall := xt4 78 rfl rfl
theorem w_799 : (Jvm.Cond.methodLink "ThinRow$Net" (74 : Nat) ({ cls := "ThinRow$Net", name := "setWeight", desc := "(III)V" } : Jvm.MethodName)) ∈ xWall := xt4 79 rfl rfl
theorem w_800 : (Jvm.Cond.methodLink "ThinRow$Net" (82 : Nat) ({ cls := "ThinRow$Net", name := "takeFromRow", desc := "(I)V" } : Jvm.MethodName)) ∈ xWall := xt4 80 rfl rfl
theorem w_802 : (Jvm.Cond.instanceMethod ({ cls := "ThinRow$Net", name := "takeFromRow", desc := "(I)V" } : Jvm.MethodName)) ∈ xWall := xt4 82 rfl rfl
theorem w_803 : (Jvm.Cond.code ({ cls := "ThinRow$Net", name := "takeFromRow", desc := "(I)V" } : Jvm.MethodName) prog_7_method_20_code (5 : Nat) (Option.none : Option Jvm.ClassFile.FieldType)) ∈ xWall := xt4 83 rfl rfl
theorem w_804 : (Jvm.Cond.methodLink "ThinRow$Shape" (74 : Nat) ({ cls := "ThinRow$Net", name := "drawTogether", desc := "(II)V" } : Jvm.MethodName)) ∈ xWall := xt4 84 rfl rfl
theorem w_805 : (Jvm.Cond.instanceMethod ({ cls := "ThinRow$Net", name := "drawTogether", desc := "(II)V" } : Jvm.MethodName)) ∈ xWall := xt4 85 rfl rfl
theorem w_806 : (Jvm.Cond.selects "ThinRow$Net" ({ cls := "ThinRow$Net", name := "drawTogether", desc := "(II)V" } : Jvm.MethodName) ({ cls := "ThinRow$Net", name := "drawTogether", desc := "(II)V" } : Jvm.MethodName)) ∈ xWall := xt4 86 rfl rfl
theorem w_807 : (Jvm.Cond.code ({ cls := "ThinRow$Net", name := "drawTogether", desc := "(II)V" } : Jvm.MethodName) prog_7_method_18_code (7 : Nat) (Option.none : Option Jvm.ClassFile.FieldType)) ∈ xWall := xt4 87 rfl rfl
theorem w_808 : (Jvm.Cond.methodLink "ThinRow$Net" (66 : Nat) ({ cls := "java/lang/Math", name := "min", desc := "(II)I" } : Jvm.MethodName)) ∈ xWall := xt4 88 rfl rfl
theorem w_809 : (Jvm.Cond.methodLink "ThinRow$Net" (71 : Nat) ({ cls := "java/lang/Math", name := "max", desc := "(II)I" } : Jvm.MethodName)) ∈ xWall := xt4 89 rfl rfl
theorem w_810 : (Jvm.Cond.methodLink "ThinRow$Net" (78 : Nat) ({ cls := "ThinRow$Net", name := "takeOut", desc := "(I)V" } : Jvm.MethodName)) ∈ xWall := xt4 90 rfl rfl
theorem w_811 : (Jvm.Cond.methodLink "ThinRowLaw" (105 : Nat) ({ cls := "ThinRow", name := "among", desc := "(III)I" } : Jvm.MethodName)) ∈ xWall := xt4 91 rfl rfl
theorem w_812 : (Jvm.Cond.instanceMethod ({ cls := "ThinRow", name := "among", desc := "(III)I" } : Jvm.MethodName)) ∈ xWall := xt4 92 rfl rfl
theorem w_813 : (Jvm.Cond.selects "ThinRow" ({ cls := "ThinRow", name := "among", desc := "(III)I" } : Jvm.MethodName) ({ cls := "ThinRow", name := "among", desc := "(III)I" } : Jvm.MethodName)) ∈ xWall := xt4 93 rfl rfl
theorem w_814 : (Jvm.Cond.code ({ cls := "ThinRow", name := "among", desc := "(III)I" } : Jvm.MethodName) prog_1_method_24_code (5 : Nat) (Option.some Jvm.ClassFile.FieldType.int)) ∈ xWall := xt4 94 rfl rfl
theorem w_815 : (Jvm.Cond.methodLink "ThinRow" (224 : Nat) ({ cls := "ThinRow$SetSearch", name := "leastWhere", desc := "(LThinRow$Net;III)I" } : Jvm.MethodName)) ∈ xWall := xt4 95 rfl rfl
theorem w_816 : (Jvm.Cond.instanceMethod ({ cls := "ThinRow$SetSearch", name := "leastWhere", desc := "(LThinRow$Net;III)I" } : Jvm.MethodName)) ∈ xWall := xt4 96 rfl rfl
theorem w_817 : (Jvm.Cond.selects "ThinRow$SetSearch" ({ cls := "ThinRow$SetSearch", name := "leastWhere", desc := "(LThinRow$Net;III)I" } : Jvm.MethodName) ({ cls := "ThinRow$SetSearch", name := "leastWhere", desc := "(LThinRow$Net;III)I" } : Jvm.MethodName)) ∈ xWall := xt4 97 rfl rfl
theorem w_818 : (Jvm.Cond.code ({ cls := "ThinRow$SetSearch", name := "leastWhere", desc := "(LThinRow$Net;III)I" } : Jvm.MethodName) prog_11_method_4_code (5 : Nat) (Option.some Jvm.ClassFile.FieldType.int)) ∈ xWall := xt4 98 rfl rfl
theorem w_819 : (Jvm.Cond.methodLink "ThinRowLaw" (109 : Nat) ({ cls := "ThinRow", name := "split", desc := "(III)I" } : Jvm.MethodName)) ∈ xWall := xt4 99 rfl rfl
theorem w_820 : (Jvm.Cond.instanceMethod ({ cls := "ThinRow", name := "split", desc := "(III)I" } : Jvm.MethodName)) ∈ xWall := xt4 100 rfl rfl
theorem w_821 : (Jvm.Cond.selects "ThinRow" ({ cls := "ThinRow", name := "split", desc := "(III)I" } : Jvm.MethodName) ({ cls := "ThinRow", name := "split", desc := "(III)I" } : Jvm.MethodName)) ∈ xWall := xt4 101 rfl rfl
theorem w_822 : (Jvm.Cond.code ({ cls := "ThinRow", name := "split", desc := "(III)I" } : Jvm.MethodName) prog_1_method_25_code (5 : Nat) (Option.some Jvm.ClassFile.FieldType.int)) ∈ xWall := xt4 102 rfl rfl
theorem w_823 : (Jvm.Cond.methodLink "ThinRow" (228 : Nat) ({ cls := "ThinRow$Net", name := "allBits", desc := "()I" } : Jvm.MethodName)) ∈ xWall := xt4 103 rfl rfl
theorem w_824 : (Jvm.Cond.methodLink "ThinRow" (231 : Nat) ({ cls := "ThinRow$Prices", name := "cutWeight", desc := "(LThinRow$Net;I)I" } : Jvm.MethodName)) ∈ xWall := xt4 104 rfl rfl
theorem w_825 : (Jvm.Cond.methodLink "ThinRow" (234 : Nat) ({ cls := "ThinRow$Prices", name := "gateSize", desc := "(LThinRow$Net;I)I" } : Jvm.MethodName)) ∈ xWall := xt4 105 rfl rfl
theorem w_826 : (Jvm.Cond.methodLink "ThinRow" (237 : Nat) ({ cls := "ThinRow$Prices", name := "fringeSize", desc := "(LThinRow$Net;I)I" } : Jvm.MethodName)) ∈ xWall := xt4 106 rfl rfl
theorem w_827 : (Jvm.Cond.methodLink "ThinRowLaw" (113 : Nat) ({ cls := "ThinRow", name := "halve", desc := "(I)I" } : Jvm.MethodName)) ∈ xWall := xt4 107 rfl rfl
theorem w_828 : (Jvm.Cond.instanceMethod ({ cls := "ThinRow", name := "halve", desc := "(I)I" } : Jvm.MethodName)) ∈ xWall := xt4 108 rfl rfl
theorem w_829 : (Jvm.Cond.selects "ThinRow" ({ cls := "ThinRow", name := "halve", desc := "(I)I" } : Jvm.MethodName) ({ cls := "ThinRow", name := "halve", desc := "(I)I" } : Jvm.MethodName)) ∈ xWall := xt4 109 rfl rfl
theorem w_830 : (Jvm.Cond.code ({ cls := "ThinRow", name := "halve", desc := "(I)I" } : Jvm.MethodName) prog_1_method_26_code (3 : Nat) (Option.some Jvm.ClassFile.FieldType.int)) ∈ xWall := xt4 110 rfl rfl
theorem w_831 : (Jvm.Cond.methodLink "ThinRow" (240 : Nat) ({ cls := "ThinRow$Shape", name := "thinnestHalf", desc := "(LThinRow$Net;)I" } : Jvm.MethodName)) ∈ xWall := xt4 111 rfl rfl
theorem w_832 : (Jvm.Cond.static ({ cls := "ThinRow$Shape", name := "thinnestHalf", desc := "(LThinRow$Net;)I" } : Jvm.MethodName)) ∈ xWall := xt4 112 rfl rfl
theorem w_833 : (Jvm.Cond.code ({ cls := "ThinRow$Shape", name := "thinnestHalf", desc := "(LThinRow$Net;)I" } : Jvm.MethodName) prog_12_method_16_code (5 : Nat) (Option.some Jvm.ClassFile.FieldType.int)) ∈ xWall := xt4 113 rfl rfl
theorem w_834 : (Jvm.Cond.constant "ThinRow$Shape" (78 : Nat) (1048576 : Int32)) ∈ xWall := xt4 114 rfl rfl
theorem w_835 : (Jvm.Cond.methodLink "ThinRow$Shape" (79 : Nat) ({ cls := "ThinRow$Prices", name := "cutWeight", desc := "(LThinRow$Net;I)I" } : Jvm.MethodName)) ∈ xWall := xt4 115 rfl rfl
theorem w_836 : (Jvm.Cond.methodLink "ThinRowLaw" (117 : Nat) ({ cls := "ThinRow", name := "bag", desc := "(III)I" } : Jvm.MethodName)) ∈ xWall := xt4 116 rfl rfl
theorem w_837 : (Jvm.Cond.instanceMethod ({ cls := "ThinRow", name := "bag", desc := "(III)I" } : Jvm.MethodName)) ∈ xWall := xt4 117 rfl rfl
theorem w_838 : (Jvm.Cond.selects "ThinRow" ({ cls := "ThinRow", name := "bag", desc := "(III)I" } : Jvm.MethodName) ({ cls := "ThinRow", name := "bag", desc := "(III)I" } : Jvm.MethodName)) ∈ xWall := xt4 118 rfl rfl
theorem w_839 : (Jvm.Cond.code ({ cls := "ThinRow", name := "bag", desc := "(III)I" } : Jvm.MethodName) prog_1_method_27_code (5 : Nat) (Option.some Jvm.ClassFile.FieldType.int)) ∈ xWall := xt4 119 rfl rfl
theorem w_840 : (Jvm.Cond.methodLink "ThinRow" (243 : Nat) ({ cls := "ThinRow$Rows", name := "bagGoing", desc := "(LThinRow$Net;I)I" } : Jvm.MethodName)) ∈ xWall := xt4 120 rfl rfl
theorem w_841 : (Jvm.Cond.static ({ cls := "ThinRow$Rows", name := "bagGoing", desc := "(LThinRow$Net;I)I" } : Jvm.MethodName)) ∈ xWall := xt4 121 rfl rfl
theorem w_842 : (Jvm.Cond.code ({ cls := "ThinRow$Rows", name := "bagGoing", desc := "(LThinRow$Net;I)I" } : Jvm.MethodName) prog_10_method_6_code (3 : Nat) (Option.some Jvm.ClassFile.FieldType.int)) ∈ xWall := xt4 122 rfl rfl
theorem w_843 : (Jvm.Cond.methodLink "ThinRow$Rows" (61 : Nat) ({ cls := "ThinRow$Net", name := "aheadOf", desc := "(I)I" } : Jvm.MethodName)) ∈ xWall := xt4 123 rfl rfl
theorem w_844 : (Jvm.Cond.methodLink "ThinRow$Rows" (64 : Nat) ({ cls := "ThinRow$Prices", name := "withLineInto", desc := "(LThinRow$Net;II)I" } : Jvm.MethodName)) ∈ xWall := xt4 124 rfl rfl
theorem w_845 : (Jvm.Cond.methodLink "ThinRow" (246 : Nat) ({ cls := "ThinRow$Rows", name := "bagTaken", desc := "(LThinRow$Net;I)I" } : Jvm.MethodName)) ∈ xWall := xt4 125 rfl rfl
theorem w_846 : (Jvm.Cond.static ({ cls := "ThinRow$Rows", name := "bagTaken", desc := "(LThinRow$Net;I)I" } : Jvm.MethodName)) ∈ xWall := xt4 126 rfl rfl
theorem w_847 : (Jvm.Cond.code ({ cls := "ThinRow$Rows", name := "bagTaken", desc := "(LThinRow$Net;I)I" } : Jvm.MethodName) prog_10_method_7_code (3 : Nat) (Option.some Jvm.ClassFile.FieldType.int)) ∈ xWall := xt4 127 rfl rfl
theorem w_848 : (Jvm.Cond.methodLink "ThinRow$Rows" (67 : Nat) ({ cls := "ThinRow$Prices", name := "neighbours", desc := "(LThinRow$Net;II)I" } : Jvm.MethodName)) ∈ xWall := xt4 128 rfl rfl
theorem w_849 : (Jvm.Cond.methodLink "ThinRowLaw" (121 : Nat) ({ cls := "ThinRow", name := "filled", desc := "(II)I" } : Jvm.MethodName)) ∈ xWall := xt4 129 rfl rfl
theorem w_850 : (Jvm.Cond.instanceMethod ({ cls := "ThinRow", name := "filled", desc := "(II)I" } : Jvm.MethodName)) ∈ xWall := xt4 130 rfl rfl
theorem w_851 : (Jvm.Cond.selects "ThinRow" ({ cls := "ThinRow", name := "filled", desc := "(II)I" } : Jvm.MethodName) ({ cls := "ThinRow", name := "filled", desc := "(II)I" } : Jvm.MethodName)) ∈ xWall := xt4 131 rfl rfl
theorem w_852 : (Jvm.Cond.code ({ cls := "ThinRow", name := "filled", desc := "(II)I" } : Jvm.MethodName) prog_1_method_28_code (4 : Nat) (Option.some Jvm.ClassFile.FieldType.int)) ∈ xWall := xt4 132 rfl rfl
theorem w_853 : (Jvm.Cond.methodLink "ThinRow" (249 : Nat) ({ cls := "ThinRow$Rows", name := "newLine", desc := "(LThinRow$Net;I)I" } : Jvm.MethodName)) ∈ xWall := xt4 133 rfl rfl
theorem w_854 : (Jvm.Cond.static ({ cls := "ThinRow$Rows", name := "newLine", desc := "(LThinRow$Net;I)I" } : Jvm.MethodName)) ∈ xWall := xt4 134 rfl rfl
theorem w_855 : (Jvm.Cond.code ({ cls := "ThinRow$Rows", name := "newLine", desc := "(LThinRow$Net;I)I" } : Jvm.MethodName) prog_10_method_8_code (10 : Nat) (Option.some Jvm.ClassFile.FieldType.int)) ∈ xWall := xt4 135 rfl rfl
theorem w_856 : (Jvm.Cond.methodLink "ThinRow$Rows" (70 : Nat) ({ cls := "ThinRow$Prices", name := "aboveOf", desc := "(II)I" } : Jvm.MethodName)) ∈ xWall := xt4 136 rfl rfl
theorem w_857 : (Jvm.Cond.methodLink "ThinRow$Rows" (73 : Nat) ({ cls := "java/lang/Integer", name := "bitCount", desc := "(I)I" } : Jvm.MethodName)) ∈ xWall := xt4 137 rfl rfl
theorem w_858 : (Jvm.Cond.methodLink "ThinRow$Rows" (78 : Nat) ({ cls := "ThinRow$Rows", name := "bitAt", desc := "(II)I" } : Jvm.MethodName)) ∈ xWall := xt4 138 rfl rfl
theorem w_859 : (Jvm.Cond.static ({ cls := "ThinRow$Rows", name := "bitAt", desc := "(II)I" } : Jvm.MethodName)) ∈ xWall := xt4 139 rfl rfl
theorem w_860 : (Jvm.Cond.code ({ cls := "ThinRow$Rows", name := "bitAt", desc := "(II)I" } : Jvm.MethodName) prog_10_method_9_code (4 : Nat) (Option.some Jvm.ClassFile.FieldType.int)) ∈ xWall := xt4 140 rfl rfl
theorem w_861 : (Jvm.Cond.methodLink "ThinRowLaw" (125 : Nat) ({ cls := "ThinRow", name := "gain", desc := "(IIII)I" } : Jvm.MethodName)) ∈ xWall := xt4 141 rfl rfl
theorem w_862 : (Jvm.Cond.instanceMethod ({ cls := "ThinRow", name := "gain", desc := "(IIII)I" } : Jvm.MethodName)) ∈ xWall := xt4 142 rfl rfl
theorem w_863 : (Jvm.Cond.selects "ThinRow" ({ cls := "ThinRow", name := "gain", desc := "(IIII)I" } : Jvm.MethodName) ({ cls := "ThinRow", name := "gain", desc := "(IIII)I" } : Jvm.MethodName)) ∈ xWall := xt4 143 rfl rfl
theorem w_864 : (Jvm.Cond.code ({ cls := "ThinRow", name := "gain", desc := "(IIII)I" } : Jvm.MethodName) prog_1_method_29_code (6 : Nat) (Option.some Jvm.ClassFile.FieldType.int)) ∈ xWall := xt4 144 rfl rfl
theorem w_865 : (Jvm.Cond.methodLink "ThinRow" (252 : Nat) ({ cls := "ThinRow$Net", name := "changeOver", desc := "(II)V" } : Jvm.MethodName)) ∈ xWall := xt4 145 rfl rfl
theorem w_866 : (Jvm.Cond.instanceMethod ({ cls := "ThinRow$Net", name := "changeOver", desc := "(II)V" } : Jvm.MethodName)) ∈ xWall := xt4 146 rfl rfl
theorem w_867 : (Jvm.Cond.selects "ThinRow$Net" ({ cls := "ThinRow$Net", name := "changeOver", desc := "(II)V" } : Jvm.MethodName) ({ cls := "ThinRow$Net", name := "changeOver", desc := "(II)V" } : Jvm.MethodName)) ∈ xWall := xt4 147 rfl rfl
theorem w_868 : (Jvm.Cond.code ({ cls := "ThinRow$Net", name := "changeOver", desc := "(II)V" } : Jvm.MethodName) prog_7_method_15_code (4 : Nat) (Option.none : Option Jvm.ClassFile.FieldType)) ∈ xWall := xt4 148 rfl rfl
theorem w_869 : (Jvm.Cond.methodLink "ThinRowLaw" (130 : Nat) ({ cls := "ThinRow", name := "swaps", desc := "(III)I" } : Jvm.MethodName)) ∈ xWall := xt4 149 rfl rfl
theorem w_870 : (Jvm.Cond.instanceMethod ({ cls := "ThinRow", name := "swaps", desc := "(III)I" } : Jvm.MethodName)) ∈ xWall := xt4 150 rfl rfl
theorem w_871 : (Jvm.Cond.selects "ThinRow" ({ cls := "ThinRow", name := "swaps", desc := "(III)I" } : Jvm.MethodName) ({ cls := "ThinRow", name := "swaps", desc := "(III)I" } : Jvm.MethodName)) ∈ xWall := xt4 151 rfl rfl
theorem w_872 : (Jvm.Cond.code ({ cls := "ThinRow", name := "swaps", desc := "(III)I" } : Jvm.MethodName) prog_1_method_30_code (5 : Nat) (Option.some Jvm.ClassFile.FieldType.int)) ∈ xWall := xt4 152 rfl rfl
theorem w_873 : (Jvm.Cond.methodLink "ThinRowLaw" (134 : Nat) ({ cls := "ThinRow", name := "moves", desc := "(III)I" } : Jvm.MethodName)) ∈ xWall := xt4 153 rfl rfl
theorem w_874 : (Jvm.Cond.instanceMethod ({ cls := "ThinRow", name := "moves", desc := "(III)I" } : Jvm.MethodName)) ∈ xWall := xt4 154 rfl rfl
theorem w_875 : (Jvm.Cond.selects "ThinRow" ({ cls := "ThinRow", name := "moves", desc := "(III)I" } : Jvm.MethodName) ({ cls := "ThinRow", name := "moves", desc := "(III)I" } : Jvm.MethodName)) ∈ xWall := xt4 155 rfl rfl
theorem w_876 : (Jvm.Cond.code ({ cls := "ThinRow", name := "moves", desc := "(III)I" } : Jvm.MethodName) prog_1_method_31_code (5 : Nat) (Option.some Jvm.ClassFile.FieldType.int)) ∈ xWall := xt4 156 rfl rfl
theorem w_877 : (Jvm.Cond.methodLink "ThinRow" (256 : Nat) ({ cls := "ThinRow$Net", name := "shift", desc := "(II)V" } : Jvm.MethodName)) ∈ xWall := xt4 157 rfl rfl
theorem w_878 : (Jvm.Cond.instanceMethod ({ cls := "ThinRow$Net", name := "shift", desc := "(II)V" } : Jvm.MethodName)) ∈ xWall := xt4 158 rfl rfl
theorem w_879 : (Jvm.Cond.selects "ThinRow$Net" ({ cls := "ThinRow$Net", name := "shift", desc := "(II)V" } : Jvm.MethodName) ({ cls := "ThinRow$Net", name := "shift", desc := "(II)V" } : Jvm.MethodName)) ∈ xWall := xt4 159 rfl rfl
theorem w_880 : (Jvm.Cond.code ({ cls := "ThinRow$Net", name := "shift", desc := "(II)V" } : Jvm.MethodName) prog_7_method_16_code (4 : Nat) (Option.none : Option Jvm.ClassFile.FieldType)) ∈ xWall := xt4 160 rfl rfl
theorem w_881 : (Jvm.Cond.methodLink "ThinRow$Net" (62 : Nat) ({ cls := "ThinRow$Net", name := "changeOver", desc := "(II)V" } : Jvm.MethodName)) ∈ xWall := xt4 161 rfl rfl
theorem w_882 : (Jvm.Cond.methodLink "ThinRowLaw" (138 : Nat) ({ cls := "ThinRow", name := "reverse", desc := "(I)I" } : Jvm.MethodName)) ∈ xWall := xt4 162 rfl rfl
theorem w_883 : (Jvm.Cond.instanceMethod ({ cls := "ThinRow", name := "reverse", desc := "(I)I" } : Jvm.MethodName)) ∈ xWall := xt4 163 rfl rfl
theorem w_884 : (Jvm.Cond.selects "ThinRow" ({ cls := "ThinRow", name := "reverse", desc := "(I)I" } : Jvm.MethodName) ({ cls := "ThinRow", name := "reverse", desc := "(I)I" } : Jvm.MethodName)) ∈ xWall := xt4 164 rfl rfl
theorem w_885 : (Jvm.Cond.code ({ cls := "ThinRow", name := "reverse", desc := "(I)I" } : Jvm.MethodName) prog_1_method_32_code (3 : Nat) (Option.some Jvm.ClassFile.FieldType.int)) ∈ xWall := xt4 165 rfl rfl
theorem w_886 : (Jvm.Cond.methodLink "ThinRow" (259 : Nat) ({ cls := "ThinRow$Net", name := "turnRound", desc := "()V" } : Jvm.MethodName)) ∈ xWall := xt4 166 rfl rfl
theorem w_887 : (Jvm.Cond.instanceMethod ({ cls := "ThinRow$Net", name := "turnRound", desc := "()V" } : Jvm.MethodName)) ∈ xWall := xt4 167 rfl rfl
theorem w_888 : (Jvm.Cond.selects "ThinRow$Net" ({ cls := "ThinRow$Net", name := "turnRound", desc := "()V" } : Jvm.MethodName) ({ cls := "ThinRow$Net", name := "turnRound", desc := "()V" } : Jvm.MethodName)) ∈ xWall := xt4 168 rfl rfl
theorem w_889 : (Jvm.Cond.code ({ cls := "ThinRow$Net", name := "turnRound", desc := "()V" } : Jvm.MethodName) prog_7_method_17_code (2 : Nat) (Option.none : Option Jvm.ClassFile.FieldType)) ∈ xWall := xt4 169 rfl rfl
theorem w_890 : (Jvm.Cond.methodLink "ThinRowLaw" (142 : Nat) ({ cls := "ThinRow", name := "takes", desc := "(II)I" } : Jvm.MethodName)) ∈ xWall := xt4 170 rfl rfl
theorem w_891 : (Jvm.Cond.instanceMethod ({ cls := "ThinRow", name := "takes", desc := "(II)I" } : Jvm.MethodName)) ∈ xWall := xt4 171 rfl rfl
theorem w_892 : (Jvm.Cond.selects "ThinRow" ({ cls := "ThinRow", name := "takes", desc := "(II)I" } : Jvm.MethodName) ({ cls := "ThinRow", name := "takes", desc := "(II)I" } : Jvm.MethodName)) ∈ xWall := xt4 172 rfl rfl
theorem w_893 : (Jvm.Cond.code ({ cls := "ThinRow", name := "takes", desc := "(II)I" } : Jvm.MethodName) prog_1_method_33_code (5 : Nat) (Option.some Jvm.ClassFile.FieldType.int)) ∈ xWall := xt4 173 rfl rfl
theorem w_894 : (Jvm.Cond.methodLink "ThinRow" (262 : Nat) ({ cls := "java/lang/System", name := "arraycopy", desc := "(Ljava/lang/Object;ILjava/lang/Object;II)V" } : Jvm.MethodName)) ∈ xWall := xt4 174 rfl rfl
theorem w_895 : (Jvm.Cond.methodLink "ThinRow" (268 : Nat) ({ cls := "ThinRow$Net", name := "placesUnlike", desc := "(LThinRow$Net;)I" } : Jvm.MethodName)) ∈ xWall := xt4 175 rfl rfl
theorem w_896 : (Jvm.Cond.methodLink "ThinRowLaw" (146 : Nat) ({ cls := "ThinRow", name := "polish", desc := "(II)I" } : Jvm.MethodName)) ∈ xWall := xt4 176 rfl rfl
theorem w_897 : (Jvm.Cond.instanceMethod ({ cls := "ThinRow", name := "polish", desc := "(II)I" } : Jvm.MethodName)) ∈ xWall := xt4 177 rfl rfl
theorem w_898 : (Jvm.Cond.selects "ThinRow" ({ cls := "ThinRow", name := "polish", desc := "(II)I" } : Jvm.MethodName) ({ cls := "ThinRow", name := "polish", desc := "(II)I" } : Jvm.MethodName)) ∈ xWall := xt4 178 rfl rfl
theorem w_899 : (Jvm.Cond.code ({ cls := "ThinRow", name := "polish", desc := "(II)I" } : Jvm.MethodName) prog_1_method_34_code (5 : Nat) (Option.some Jvm.ClassFile.FieldType.int)) ∈ xWall := xt4 179 rfl rfl
theorem w_900 : (Jvm.Cond.methodLink "ThinRow" (271 : Nat) ({ cls := "ThinRow$Rows", name := "polishRow", desc := "(LThinRow$Net;I)I" } : Jvm.MethodName)) ∈ xWall := xt4 180 rfl rfl
theorem w_901 : (Jvm.Cond.static ({ cls := "ThinRow$Rows", name := "polishRow", desc := "(LThinRow$Net;I)I" } : Jvm.MethodName)) ∈ xWall := xt4 181 rfl rfl
theorem w_902 : (Jvm.Cond.code ({ cls := "ThinRow$Rows", name := "polishRow", desc := "(LThinRow$Net;I)I" } : Jvm.MethodName) prog_10_method_10_code (3 : Nat) (Option.some Jvm.ClassFile.FieldType.int)) ∈ xWall := xt4 182 rfl rfl
theorem w_903 : (Jvm.Cond.methodLink "ThinRow$Rows" (81 : Nat) ({ cls := "ThinRow$Rows", name := "changeBestTwo", desc := "(LThinRow$Net;I)Z" } : Jvm.MethodName)) ∈ xWall := xt4 183 rfl rfl
theorem w_904 : (Jvm.Cond.static ({ cls := "ThinRow$Rows", name := "changeBestTwo", desc := "(LThinRow$Net;I)Z" } : Jvm.MethodName)) ∈ xWall := xt4 184 rfl rfl
theorem w_905 : (Jvm.Cond.code ({ cls := "ThinRow$Rows", name := "changeBestTwo", desc := "(LThinRow$Net;I)Z" } : Jvm.MethodName) prog_10_method_11_code (8 : Nat) (Option.some Jvm.ClassFile.FieldType.boolean)) ∈ xWall := xt4 185 rfl rfl
theorem w_906 : (Jvm.Cond.methodLink "ThinRow$Rows" (85 : Nat) ({ cls := "ThinRow$Rows", name := "measured", desc := "(LThinRow$Net;I)I" } : Jvm.MethodName)) ∈ xWall := xt4 186 rfl rfl
theorem w_907 : (Jvm.Cond.methodLink "ThinRow$Rows" (89 : Nat) ({ cls := "ThinRow$Net", name := "changeOver", desc := "(II)V" } : Jvm.MethodName)) ∈ xWall := xt4 187 rfl rfl
theorem w_908 : (Jvm.Cond.methodLink "ThinRowLaw" (150 : Nat) ({ cls := "ThinRow", name := "polished", desc := "(II)I" } : Jvm.MethodName)) ∈ xWall := xt4 188 rfl rfl
theorem w_909 : (Jvm.Cond.instanceMethod ({ cls := "ThinRow", name := "polished", desc := "(II)I" } : Jvm.MethodName)) ∈ xWall := xt4 189 rfl rfl
theorem w_910 : (Jvm.Cond.selects "ThinRow" ({ cls := "ThinRow", name := "polished", desc := "(II)I" } : Jvm.MethodName) ({ cls := "ThinRow", name := "polished", desc := "(II)I" } : Jvm.MethodName)) ∈ xWall := xt4 190 rfl rfl
theorem w_911 : (Jvm.Cond.code ({ cls := "ThinRow", name := "polished", desc := "(II)I" } : Jvm.MethodName) prog_1_method_35_code (4 : Nat) (Option.some Jvm.ClassFile.FieldType.int)) ∈ xWall := xt4 191 rfl rfl
theorem w_912 : (Jvm.Cond.methodLink "ThinRowLaw" (154 : Nat) ({ cls := "ThinRow", name := "greedy", desc := "(II)I" } : Jvm.MethodName)) ∈ xWall := xt4 192 rfl rfl
theorem w_913 : (Jvm.Cond.instanceMethod ({ cls := "ThinRow", name := "greedy", desc := "(II)I" } : Jvm.MethodName)) ∈ xWall := xt4 193 rfl rfl
theorem w_914 : (Jvm.Cond.selects "ThinRow" ({ cls := "ThinRow", name := "greedy", desc := "(II)I" } : Jvm.MethodName) ({ cls := "ThinRow", name := "greedy", desc := "(II)I" } : Jvm.MethodName)) ∈ xWall := xt4 194 rfl rfl
theorem w_915 : (Jvm.Cond.code ({ cls := "ThinRow", name := "greedy", desc := "(II)I" } : Jvm.MethodName) prog_1_method_36_code (4 : Nat) (Option.some Jvm.ClassFile.FieldType.int)) ∈ xWall := xt4 195 rfl rfl
theorem w_916 : (Jvm.Cond.methodLink "ThinRow" (274 : Nat) ({ cls := "ThinRow$Rows", name := "makeGreedy", desc := "(LThinRow$Net;I)V" } : Jvm.MethodName)) ∈ xWall := xt4 196 rfl rfl
theorem w_917 : (Jvm.Cond.static ({ cls := "ThinRow$Rows", name := "makeGreedy", desc := "(LThinRow$Net;I)V" } : Jvm.MethodName)) ∈ xWall := xt4 197 rfl rfl
theorem w_918 : (Jvm.Cond.code ({ cls := "ThinRow$Rows", name := "makeGreedy", desc := "(LThinRow$Net;I)V" } : Jvm.MethodName) prog_10_method_12_code (9 : Nat) (Option.none : Option Jvm.ClassFile.FieldType)) ∈ xWall := xt4 198 rfl rfl
theorem w_919 : (Jvm.Cond.constant "ThinRow$Rows" (93 : Nat) (1048576 : Int32)) ∈ xWall := xt4 199 rfl rfl
theorem w_920 : (Jvm.Cond.methodLink "ThinRowLaw" (158 : Nat) ({ cls := "ThinRow", name := "layers", desc := "(II)I" } : Jvm.MethodName)) ∈ xWall := xt4 200 rfl rfl
theorem w_921 : (Jvm.Cond.instanceMethod ({ cls := "ThinRow", name := "layers", desc := "(II)I" } : Jvm.MethodName)) ∈ xWall := xt4 201 rfl rfl
theorem w_922 : (Jvm.Cond.selects "ThinRow" ({ cls := "ThinRow", name := "layers", desc := "(II)I" } : Jvm.MethodName) ({ cls := "ThinRow", name := "layers", desc := "(II)I" } : Jvm.MethodName)) ∈ xWall := xt4 202 rfl rfl
theorem w_923 : (Jvm.Cond.code ({ cls := "ThinRow", name := "layers", desc := "(II)I" } : Jvm.MethodName) prog_1_method_37_code (4 : Nat) (Option.some Jvm.ClassFile.FieldType.int)) ∈ xWall := xt4 203 rfl rfl
theorem w_924 : (Jvm.Cond.methodLink "ThinRow" (278 : Nat) ({ cls := "ThinRow$Rows", name := "makeLayers", desc := "(LThinRow$Net;I)V" } : Jvm.MethodName)) ∈ xWall := xt4 204 rfl rfl
theorem w_925 : (Jvm.Cond.static ({ cls := "ThinRow$Rows", name := "makeLayers", desc := "(LThinRow$Net;I)V" } : Jvm.MethodName)) ∈ xWall := xt4 205 rfl rfl
theorem w_926 : (Jvm.Cond.code ({ cls := "ThinRow$Rows", name := "makeLayers", desc := "(LThinRow$Net;I)V" } : Jvm.MethodName) prog_10_method_13_code (6 : Nat) (Option.none : Option Jvm.ClassFile.FieldType)) ∈ xWall := xt4 206 rfl rfl
theorem w_927 : (Jvm.Cond.methodLink "ThinRow$Rows" (94 : Nat) ({ cls := "ThinRow$Rows", name := "putInRow", desc := "(LThinRow$Net;II)I" } : Jvm.MethodName)) ∈ xWall := xt4 207 rfl rfl
theorem w_928 : (Jvm.Cond.static ({ cls := "ThinRow$Rows", name := "putInRow", desc := "(LThinRow$Net;II)I" } : Jvm.MethodName)) ∈ xWall := xt4 208 rfl rfl
theorem w_929 : (Jvm.Cond.code ({ cls := "ThinRow$Rows", name := "putInRow", desc := "(LThinRow$Net;II)I" } : Jvm.MethodName) prog_10_method_14_code (5 : Nat) (Option.some Jvm.ClassFile.FieldType.int)) ∈ xWall := xt4 209 rfl rfl
theorem w_930 : (Jvm.Cond.methodLink "ThinRow$Rows" (97 : Nat) ({ cls := "ThinRow$Shape", name := "grown", desc := "(LThinRow$Net;I)I" } : Jvm.MethodName)) ∈ xWall := xt4 210 rfl rfl
theorem w_931 : (Jvm.Cond.methodLink "ThinRow$Rows" (102 : Nat) ({ cls := "ThinRow$Net", name := "allBits", desc := "()I" } : Jvm.MethodName)) ∈ xWall := xt4 211 rfl rfl
theorem w_932 : (Jvm.Cond.methodLink "ThinRowLaw" (162 : Nat) ({ cls := "ThinRow", name := "adds", desc := "(IIII)I" } : Jvm.MethodName)) ∈ xWall := xt4 212 rfl rfl
theorem w_933 : (Jvm.Cond.instanceMethod ({ cls := "ThinRow", name := "adds", desc := "(IIII)I" } : Jvm.MethodName)) ∈ xWall := xt4 213 rfl rfl
theorem w_934 : (Jvm.Cond.selects "ThinRow" ({ cls := "ThinRow", name := "adds", desc := "(IIII)I" } : Jvm.MethodName) ({ cls := "ThinRow", name := "adds", desc := "(IIII)I" } : Jvm.MethodName)) ∈ xWall := xt4 214 rfl rfl
theorem w_935 : (Jvm.Cond.code ({ cls := "ThinRow", name := "adds", desc := "(IIII)I" } : Jvm.MethodName) prog_1_method_38_code (7 : Nat) (Option.some Jvm.ClassFile.FieldType.int)) ∈ xWall := xt4 215 rfl rfl
theorem w_936 : (Jvm.Cond.methodLink "ThinRow" (281 : Nat) ({ cls := "ThinRow$Net", name := "hasTwo", desc := "(II)Z" } : Jvm.MethodName)) ∈ xWall := xt4 216 rfl rfl
theorem w_937 : (Jvm.Cond.instanceMethod ({ cls := "ThinRow$Net", name := "hasTwo", desc := "(II)Z" } : Jvm.MethodName)) ∈ xWall := xt4 217 rfl rfl
theorem w_938 : (Jvm.Cond.selects "ThinRow$Net" ({ cls := "ThinRow$Net", name := "hasTwo", desc := "(II)Z" } : Jvm.MethodName) ({ cls := "ThinRow$Net", name := "hasTwo", desc := "(II)Z" } : Jvm.MethodName)) ∈ xWall := xt4 218 rfl rfl
theorem w_939 : (Jvm.Cond.code ({ cls := "ThinRow$Net", name := "hasTwo", desc := "(II)Z" } : Jvm.MethodName) prog_7_method_8_code (3 : Nat) (Option.some Jvm.ClassFile.FieldType.boolean)) ∈ xWall := xt4 219 rfl rfl
theorem w_940 : (Jvm.Cond.methodLink "ThinRow$Net" (52 : Nat) ({ cls := "ThinRow$Net", name := "has", desc := "(I)Z" } : Jvm.MethodName)) ∈ xWall := xt4 220 rfl rfl
theorem w_941 : (Jvm.Cond.methodLink "ThinRow" (285 : Nat) ({ cls := "ThinRow$Net", name := "setWeight", desc := "(III)V" } : Jvm.MethodName)) ∈ xWall := xt4 221 rfl rfl
theorem w_942 : (Jvm.Cond.methodLink "ThinRowLaw" (166 : Nat) ({ cls := "ThinRow", name := "cuts", desc := "(III)I" } : Jvm.MethodName)) ∈ xWall := xt4 222 rfl rfl
theorem w_943 : (Jvm.Cond.instanceMethod ({ cls := "ThinRow", name := "cuts", desc := "(III)I" } : Jvm.MethodName)) ∈ xWall := xt4 223 rfl rfl
theorem w_944 : (Jvm.Cond.selects "ThinRow" ({ cls := "ThinRow", name := "cuts", desc := "(III)I" } : Jvm.MethodName) ({ cls := "ThinRow", name := "cuts", desc := "(III)I" } : Jvm.MethodName)) ∈ xWall := xt4 224 rfl rfl
theorem w_945 : (Jvm.Cond.code ({ cls := "ThinRow", name := "cuts", desc := "(III)I" } : Jvm.MethodName) prog_1_method_39_code (6 : Nat) (Option.some Jvm.ClassFile.FieldType.int)) ∈ xWall := xt4 225 rfl rfl
theorem w_946 : (Jvm.Cond.methodLink "ThinRowLaw" (170 : Nat) ({ cls := "ThinRow", name := "merges", desc := "(III)I" } : Jvm.MethodName)) ∈ xWall := xt4 226 rfl rfl
theorem w_947 : (Jvm.Cond.instanceMethod ({ cls := "ThinRow", name := "merges", desc := "(III)I" } : Jvm.MethodName)) ∈ xWall := xt4 227 rfl rfl
theorem w_948 : (Jvm.Cond.selects "ThinRow" ({ cls := "ThinRow", name := "merges", desc := "(III)I" } : Jvm.MethodName) ({ cls := "ThinRow", name := "merges", desc := "(III)I" } : Jvm.MethodName)) ∈ xWall := xt4 228 rfl rfl
theorem w_949 : (Jvm.Cond.code ({ cls := "ThinRow", name := "merges", desc := "(III)I" } : Jvm.MethodName) prog_1_method_40_code (5 : Nat) (Option.some Jvm.ClassFile.FieldType.int)) ∈ xWall := xt4 229 rfl rfl
theorem w_950 : (Jvm.Cond.methodLink "ThinRow" (289 : Nat) ({ cls := "ThinRow$Net", name := "drawTogether", desc := "(II)V" } : Jvm.MethodName)) ∈ xWall := xt4 230 rfl rfl
theorem w_951 : (Jvm.Cond.methodLink "ThinRowLaw" (174 : Nat) ({ cls := "ThinRow", name := "drops", desc := "(I)I" } : Jvm.MethodName)) ∈ xWall := xt4 231 rfl rfl
theorem w_952 : (Jvm.Cond.instanceMethod ({ cls := "ThinRow", name := "drops", desc := "(I)I" } : Jvm.MethodName)) ∈ xWall := xt4 232 rfl rfl
theorem w_953 : (Jvm.Cond.selects "ThinRow" ({ cls := "ThinRow", name := "drops", desc := "(I)I" } : Jvm.MethodName) ({ cls := "ThinRow", name := "drops", desc := "(I)I" } : Jvm.MethodName)) ∈ xWall := xt4 233 rfl rfl
theorem w_954 : (Jvm.Cond.code ({ cls := "ThinRow", name := "drops", desc := "(I)I" } : Jvm.MethodName) prog_1_method_41_code (3 : Nat) (Option.some Jvm.ClassFile.FieldType.int)) ∈ xWall := xt4 234 rfl rfl
theorem w_955 : (Jvm.Cond.methodLink "ThinRow" (292 : Nat) ({ cls := "ThinRow$Net", name := "begin", desc := "(I)V" } : Jvm.MethodName)) ∈ xWall := xt4 235 rfl rfl
theorem w_956 : (Jvm.Cond.methodLink "ThinRowLaw" (178 : Nat) ({ cls := "ThinRow", name := "undo", desc := "()I" } : Jvm.MethodName)) ∈ xWall := xt4 236 rfl rfl
theorem w_957 : (Jvm.Cond.instanceMethod ({ cls := "ThinRow", name := "undo", desc := "()I" } : Jvm.MethodName)) ∈ xWall := xt4 237 rfl rfl
theorem w_958 : (Jvm.Cond.selects "ThinRow" ({ cls := "ThinRow", name := "undo", desc := "()I" } : Jvm.MethodName) ({ cls := "ThinRow", name := "undo", desc := "()I" } : Jvm.MethodName)) ∈ xWall := xt4 238 rfl rfl
theorem w_959 : (Jvm.Cond.code ({ cls := "ThinRow", name := "undo", desc := "()I" } : Jvm.MethodName) prog_1_method_42_code (1 : Nat) (Option.some Jvm.ClassFile.FieldType.int)) ∈ xWall := xt4 239 rfl rfl
theorem w_960 : (Jvm.Cond.methodLink "ThinRow" (295 : Nat) ({ cls := "ThinRow$History", name := "takeBack", desc := "([LThinRow$Net;)V" } : Jvm.MethodName)) ∈ xWall := xt5 0 rfl rfl
theorem w_961 : (Jvm.Cond.instanceMethod ({ cls := "ThinRow$History", name := "takeBack", desc := "([LThinRow$Net;)V" } : Jvm.MethodName)) ∈ xWall := xt5 1 rfl rfl
theorem w_962 : (Jvm.Cond.selects "ThinRow$History" ({ cls := "ThinRow$History", name := "takeBack", desc := "([LThinRow$Net;)V" } : Jvm.MethodName) ({ cls := "ThinRow$History", name := "takeBack", desc := "([LThinRow$Net;)V" } : Jvm.MethodName)) ∈ xWall := xt5 2 rfl rfl
theorem w_963 : (Jvm.Cond.code ({ cls := "ThinRow$History", name := "takeBack", desc := "([LThinRow$Net;)V" } : Jvm.MethodName) prog_6_method_3_code (2 : Nat) (Option.none : Option Jvm.ClassFile.FieldType)) ∈ xWall := xt5 3 rfl rfl
theorem w_964 : (Jvm.Cond.methodLink "ThinRowLaw" (183 : Nat) ({ cls := "ThinRow", name := "tell", desc := "(II)I" } : Jvm.MethodName)) ∈ xWall := xt5 4 rfl rfl
theorem w_965 : (Jvm.Cond.instanceMethod ({ cls := "ThinRow", name := "tell", desc := "(II)I" } : Jvm.MethodName)) ∈ xWall := xt5 5 rfl rfl
theorem w_966 : (Jvm.Cond.selects "ThinRow" ({ cls := "ThinRow", name := "tell", desc := "(II)I" } : Jvm.MethodName) ({ cls := "ThinRow", name := "tell", desc := "(II)I" } : Jvm.MethodName)) ∈ xWall := xt5 6 rfl rfl
theorem w_967 : (Jvm.Cond.code ({ cls := "ThinRow", name := "tell", desc := "(II)I" } : Jvm.MethodName) prog_1_method_43_code (4 : Nat) (Option.some Jvm.ClassFile.FieldType.int)) ∈ xWall := xt5 7 rfl rfl
theorem w_968 : (Jvm.Cond.methodLink "ThinRow" (299 : Nat) ({ cls := "ThinRow", name := "tellNet", desc := "(LThinRow$Net;)V" } : Jvm.MethodName)) ∈ xWall := xt5 8 rfl rfl
theorem w_970 : (Jvm.Cond.instanceMethod ({ cls := "ThinRow", name := "tellNet", desc := "(LThinRow$Net;)V" } : Jvm.MethodName)) ∈ xWall := xt5 10 rfl rfl
theorem w_971 : (Jvm.Cond.code ({ cls := "ThinRow", name := "tellNet", desc := "(LThinRow$Net;)V" } : Jvm.MethodName) prog_1_method_45_code (6 : Nat) (Option.none : Option Jvm.ClassFile.FieldType)) ∈ xWall := xt5 11 rfl rfl
theorem w_973 : (Jvm.Cond.methodLink "ThinRow" (313 : Nat) ({ cls := "ThinRow$Bytes", name := "putText", desc := "(Ljava/lang/String;)V" } : Jvm.MethodName)) ∈ xWall := xt5 13 rfl rfl
theorem w_974 : (Jvm.Cond.instanceMethod ({ cls := "ThinRow$Bytes", name := "putText", desc := "(Ljava/lang/String;)V" } : Jvm.MethodName)) ∈ xWall := xt5 14 rfl rfl
theorem w_975 : (Jvm.Cond.selects "ThinRow$Bytes" ({ cls := "ThinRow$Bytes", name := "putText", desc := "(Ljava/lang/String;)V" } : Jvm.MethodName) ({ cls := "ThinRow$Bytes", name := "putText", desc := "(Ljava/lang/String;)V" } : Jvm.MethodName)) ∈ xWall := xt5 15 rfl rfl
theorem w_976 : (Jvm.Cond.code ({ cls := "ThinRow$Bytes", name := "putText", desc := "(Ljava/lang/String;)V" } : Jvm.MethodName) prog_3_method_5_code (3 : Nat) (Option.none : Option Jvm.ClassFile.FieldType)) ∈ xWall := xt5 16 rfl rfl
theorem w_977 : (Jvm.Cond.methodLink "ThinRow$Bytes" (33 : Nat) ({ cls := "java/lang/String", name := "length", desc := "()I" } : Jvm.MethodName)) ∈ xWall := xt5 17 rfl rfl
theorem w_978 : (Jvm.Cond.methodLink "ThinRow$Bytes" (39 : Nat) ({ cls := "java/lang/String", name := "charAt", desc := "(I)C" } : Jvm.MethodName)) ∈ xWall := xt5 18 rfl rfl
theorem w_979 : (Jvm.Cond.methodLink "ThinRow" (317 : Nat) ({ cls := "ThinRow$Bytes", name := "putNumber", desc := "(I)V" } : Jvm.MethodName)) ∈ xWall := xt5 19 rfl rfl
theorem w_980 : (Jvm.Cond.instanceMethod ({ cls := "ThinRow$Bytes", name := "putNumber", desc := "(I)V" } : Jvm.MethodName)) ∈ xWall := xt5 20 rfl rfl
theorem w_981 : (Jvm.Cond.selects "ThinRow$Bytes" ({ cls := "ThinRow$Bytes", name := "putNumber", desc := "(I)V" } : Jvm.MethodName) ({ cls := "ThinRow$Bytes", name := "putNumber", desc := "(I)V" } : Jvm.MethodName)) ∈ xWall := xt5 21 rfl rfl
theorem w_982 : (Jvm.Cond.code ({ cls := "ThinRow$Bytes", name := "putNumber", desc := "(I)V" } : Jvm.MethodName) prog_3_method_6_code (2 : Nat) (Option.none : Option Jvm.ClassFile.FieldType)) ∈ xWall := xt5 22 rfl rfl
theorem w_983 : (Jvm.Cond.methodLink "ThinRow" (320 : Nat) ({ cls := "ThinRow$Bytes", name := "put", desc := "(I)V" } : Jvm.MethodName)) ∈ xWall := xt5 23 rfl rfl
theorem w_984 : (Jvm.Cond.methodLink "ThinRow" (323 : Nat) ({ cls := "ThinRow", name := "tellLine", desc := "(III)V" } : Jvm.MethodName)) ∈ xWall := xt5 24 rfl rfl
theorem w_986 : (Jvm.Cond.instanceMethod ({ cls := "ThinRow", name := "tellLine", desc := "(III)V" } : Jvm.MethodName)) ∈ xWall := xt5 26 rfl rfl
theorem w_987 : (Jvm.Cond.code ({ cls := "ThinRow", name := "tellLine", desc := "(III)V" } : Jvm.MethodName) prog_1_method_46_code (4 : Nat) (Option.none : Option Jvm.ClassFile.FieldType)) ∈ xWall := xt5 27 rfl rfl
theorem w_988 : (Jvm.Cond.methodLink "ThinRow" (302 : Nat) ({ cls := "ThinRow", name := "tellRow", desc := "(LThinRow$Net;)V" } : Jvm.MethodName)) ∈ xWall := xt5 28 rfl rfl
theorem w_990 : (Jvm.Cond.instanceMethod ({ cls := "ThinRow", name := "tellRow", desc := "(LThinRow$Net;)V" } : Jvm.MethodName)) ∈ xWall := xt5 30 rfl rfl
theorem w_991 : (Jvm.Cond.code ({ cls := "ThinRow", name := "tellRow", desc := "(LThinRow$Net;)V" } : Jvm.MethodName) prog_1_method_47_code (3 : Nat) (Option.none : Option Jvm.ClassFile.FieldType)) ∈ xWall := xt5 31 rfl rfl
theorem w_993 : (Jvm.Cond.methodLink "ThinRow" (305 : Nat) ({ cls := "ThinRow", name := "tellCuts", desc := "(LThinRow$Net;)V" } : Jvm.MethodName)) ∈ xWall := xt5 33 rfl rfl
theorem w_995 : (Jvm.Cond.instanceMethod ({ cls := "ThinRow", name := "tellCuts", desc := "(LThinRow$Net;)V" } : Jvm.MethodName)) ∈ xWall := xt5 35 rfl rfl
theorem w_996 : (Jvm.Cond.code ({ cls := "ThinRow", name := "tellCuts", desc := "(LThinRow$Net;)V" } : Jvm.MethodName) prog_1_method_48_code (3 : Nat) (Option.none : Option Jvm.ClassFile.FieldType)) ∈ xWall := xt5 36 rfl rfl
theorem w_997 : (Jvm.Cond.methodLink "ThinRowLaw" (187 : Nat) ({ cls := "ThinRow", name := "octet", desc := "(I)I" } : Jvm.MethodName)) ∈ xWall := xt5 37 rfl rfl
theorem w_998 : (Jvm.Cond.instanceMethod ({ cls := "ThinRow", name := "octet", desc := "(I)I" } : Jvm.MethodName)) ∈ xWall := xt5 38 rfl rfl
theorem w_999 : (Jvm.Cond.selects "ThinRow" ({ cls := "ThinRow", name := "octet", desc := "(I)I" } : Jvm.MethodName) ({ cls := "ThinRow", name := "octet", desc := "(I)I" } : Jvm.MethodName)) ∈ xWall := xt5 39 rfl rfl
theorem w_1000 : (Jvm.Cond.code ({ cls := "ThinRow", name := "octet", desc := "(I)I" } : Jvm.MethodName) prog_1_method_44_code (2 : Nat) (Option.some Jvm.ClassFile.FieldType.int)) ∈ xWall := xt5 40 rfl rfl
theorem w_1001 : (Jvm.Cond.methodLink "ThinRow" (308 : Nat) ({ cls := "ThinRow$Bytes", name := "at", desc := "(I)I" } : Jvm.MethodName)) ∈ xWall := xt5 41 rfl rfl
theorem w_1002 : (Jvm.Cond.classLink "ThinRowLaw" (10 : Nat) "ThinRowModel") ∈ xWall := xt5 42 rfl rfl
theorem w_1003 : (Jvm.Cond.instantiable "ThinRowModel" (26 : Nat)) ∈ xWall := xt5 43 rfl rfl
theorem w_1004 : (Jvm.Cond.methodLink "ThinRowLaw" (12 : Nat) ({ cls := "ThinRowModel", name := "<init>", desc := "()V" } : Jvm.MethodName)) ∈ xWall := xt5 44 rfl rfl
theorem w_1005 : (Jvm.Cond.instanceMethod ({ cls := "ThinRowModel", name := "<init>", desc := "()V" } : Jvm.MethodName)) ∈ xWall := xt5 45 rfl rfl
theorem w_1006 : (Jvm.Cond.code ({ cls := "ThinRowModel", name := "<init>", desc := "()V" } : Jvm.MethodName) prog_14_method_4_code (1 : Nat) (Option.none : Option Jvm.ClassFile.FieldType)) ∈ xWall := xt5 46 rfl rfl
theorem w_1007 : (Jvm.Cond.methodLink "ThinRowModel" (1 : Nat) ({ cls := "java/lang/Object", name := "<init>", desc := "()V" } : Jvm.MethodName)) ∈ xWall := xt5 47 rfl rfl
theorem w_1008 : (Jvm.Cond.fieldLink "ThinRowModel" (7 : Nat) "ThinRowModel" "state" "[I") ∈ xWall := xt5 48 rfl rfl
theorem w_1009 : (Jvm.Cond.fieldLink "ThinRowModel" (13 : Nat) "ThinRowModel" "was" "[I") ∈ xWall := xt5 49 rfl rfl
theorem w_1010 : (Jvm.Cond.fieldLink "ThinRowModel" (16 : Nat) "ThinRowModel" "kept" "[I") ∈ xWall := xt5 50 rfl rfl
theorem w_1011 : (Jvm.Cond.fieldLink "ThinRowModel" (87 : Nat) "ThinRowModel" "keptMany" "I") ∈ xWall := xt5 51 rfl rfl
theorem w_1012 : (Jvm.Cond.fieldLink "ThinRowModel" (19 : Nat) "ThinRowModel" "tape" "[I") ∈ xWall := xt5 52 rfl rfl
theorem w_1013 : (Jvm.Cond.fieldLink "ThinRowModel" (100 : Nat) "ThinRowModel" "taped" "I") ∈ xWall := xt5 53 rfl rfl
theorem w_1014 : (Jvm.Cond.fieldLink "ThinRowModel" (127 : Nat) "ThinRowModel" "faultKind" "I") ∈ xWall := xt5 54 rfl rfl
theorem w_1015 : (Jvm.Cond.fieldLink "ThinRowModel" (22 : Nat) "ThinRowModel" "faultPlace" "I") ∈ xWall := xt5 55 rfl rfl
theorem w_1016 : (Jvm.Cond.fieldLink "ThinRowModel" (103 : Nat) "ThinRowModel" "spot" "I") ∈ xWall := xt5 56 rfl rfl
theorem w_1017 : (Jvm.Cond.fieldLink "ThinRowModel" (109 : Nat) "ThinRowModel" "begin" "I") ∈ xWall := xt5 57 rfl rfl
theorem w_1018 : (Jvm.Cond.fieldLink "ThinRowModel" (115 : Nat) "ThinRowModel" "token" "I") ∈ xWall := xt5 58 rfl rfl
theorem w_1019 : (Jvm.Cond.fieldLink "ThinRowModel" (112 : Nat) "ThinRowModel" "value" "I") ∈ xWall := xt5 59 rfl rfl
theorem w_1020 : (Jvm.Cond.fieldLink "ThinRowModel" (123 : Nat) "ThinRowModel" "bad" "Z") ∈ xWall := xt5 60 rfl rfl
theorem w_1021 : (Jvm.Cond.fieldLink "ThinRowModel" (26 : Nat) "ThinRowModel" "order" "[I") ∈ xWall := xt5 61 rfl rfl
theorem w_1022 : (Jvm.Cond.fieldLink "ThinRowModel" (29 : Nat) "ThinRowModel" "rest" "[I") ∈ xWall := xt5 62 rfl rfl
theorem w_1023 : (Jvm.Cond.fieldLink "ThinRowModel" (32 : Nat) "ThinRowModel" "ways" "[I") ∈ xWall := xt5 63 rfl rfl
theorem w_1024 : (Jvm.Cond.fieldLink "ThinRowModel" (35 : Nat) "ThinRowModel" "costs" "[I") ∈ xWall := xt5 64 rfl rfl
theorem w_1025 : (Jvm.Cond.fieldLink "ThinRowModel" (266 : Nat) "ThinRowModel" "full" "I") ∈ xWall := xt5 65 rfl rfl
theorem w_1026 : (Jvm.Cond.fieldLink "ThinRowModel" (283 : Nat) "ThinRowModel" "bandRows" "I") ∈ xWall := xt5 66 rfl rfl
theorem w_1027 : (Jvm.Cond.fieldLink "ThinRowModel" (286 : Nat) "ThinRowModel" "bandFirsts" "I") ∈ xWall := xt5 67 rfl rfl
theorem w_1028 : (Jvm.Cond.fieldLink "ThinRowModel" (38 : Nat) "ThinRowModel" "bandBest" "[I") ∈ xWall := xt5 68 rfl rfl
theorem w_1029 : (Jvm.Cond.fieldLink "ThinRowModel" (41 : Nat) "ThinRowModel" "found" "[I") ∈ xWall := xt5 69 rfl rfl
theorem w_1030 : (Jvm.Cond.fieldLink "ThinRowModel" (44 : Nat) "ThinRowModel" "drawn" "[I") ∈ xWall := xt5 70 rfl rfl
theorem w_1031 : (Jvm.Cond.fieldLink "ThinRowModel" (47 : Nat) "ThinRowModel" "joined" "[I") ∈ xWall := xt5 71 rfl rfl
theorem w_1032 : (Jvm.Cond.fieldLink "ThinRowModel" (50 : Nat) "ThinRowModel" "out" "[I") ∈ xWall := xt5 72 rfl rfl
theorem w_1033 : (Jvm.Cond.fieldLink "ThinRowModel" (193 : Nat) "ThinRowModel" "outs" "I") ∈ xWall := xt5 73 rfl rfl
theorem w_1034 : (Jvm.Cond.laysFinal "ThinRowModel" "ThinRowModel" "state" "[I") ∈ xWall := xt5 74 rfl rfl
theorem w_1036 : (Jvm.Cond.laysFinal "ThinRowModel" "ThinRowModel" "was" "[I") ∈ xWall := xt5 76 rfl rfl
theorem w_1038 : (Jvm.Cond.laysFinal "ThinRowModel" "ThinRowModel" "kept" "[I") ∈ xWall := xt5 78 rfl rfl
theorem w_1040 : (Jvm.Cond.lays "ThinRowModel" "ThinRowModel" "keptMany" "I") ∈ xWall := xt5 80 rfl rfl
theorem w_1042 : (Jvm.Cond.laysFinal "ThinRowModel" "ThinRowModel" "tape" "[I") ∈ xWall := xt5 82 rfl rfl
theorem w_1044 : (Jvm.Cond.lays "ThinRowModel" "ThinRowModel" "taped" "I") ∈ xWall := xt5 84 rfl rfl
theorem w_1046 : (Jvm.Cond.lays "ThinRowModel" "ThinRowModel" "faultKind" "I") ∈ xWall := xt5 86 rfl rfl
theorem w_1048 : (Jvm.Cond.lays "ThinRowModel" "ThinRowModel" "faultPlace" "I") ∈ xWall := xt5 88 rfl rfl
theorem w_1050 : (Jvm.Cond.lays "ThinRowModel" "ThinRowModel" "spot" "I") ∈ xWall := xt5 90 rfl rfl
theorem w_1052 : (Jvm.Cond.lays "ThinRowModel" "ThinRowModel" "begin" "I") ∈ xWall := xt5 92 rfl rfl
theorem w_1054 : (Jvm.Cond.lays "ThinRowModel" "ThinRowModel" "token" "I") ∈ xWall := xt5 94 rfl rfl
theorem w_1056 : (Jvm.Cond.lays "ThinRowModel" "ThinRowModel" "value" "I") ∈ xWall := xt5 96 rfl rfl
theorem w_1058 : (Jvm.Cond.lays "ThinRowModel" "ThinRowModel" "bad" "Z") ∈ xWall := xt5 98 rfl rfl
theorem w_1060 : (Jvm.Cond.laysFinal "ThinRowModel" "ThinRowModel" "order" "[I") ∈ xWall := xt5 100 rfl rfl
theorem w_1062 : (Jvm.Cond.laysFinal "ThinRowModel" "ThinRowModel" "rest" "[I") ∈ xWall := xt5 102 rfl rfl
theorem w_1064 : (Jvm.Cond.laysFinal "ThinRowModel" "ThinRowModel" "ways" "[I") ∈ xWall := xt5 104 rfl rfl
theorem w_1066 : (Jvm.Cond.laysFinal "ThinRowModel" "ThinRowModel" "costs" "[I") ∈ xWall := xt5 106 rfl rfl
theorem w_1068 : (Jvm.Cond.lays "ThinRowModel" "ThinRowModel" "full" "I") ∈ xWall := xt5 108 rfl rfl
theorem w_1070 : (Jvm.Cond.lays "ThinRowModel" "ThinRowModel" "bandRows" "I") ∈ xWall := xt5 110 rfl rfl
theorem w_1072 : (Jvm.Cond.lays "ThinRowModel" "ThinRowModel" "bandFirsts" "I") ∈ xWall := xt5 112 rfl rfl
theorem w_1074 : (Jvm.Cond.laysFinal "ThinRowModel" "ThinRowModel" "bandBest" "[I") ∈ xWall := xt5 114 rfl rfl
theorem w_1076 : (Jvm.Cond.laysFinal "ThinRowModel" "ThinRowModel" "found" "[I") ∈ xWall := xt5 116 rfl rfl
theorem w_1078 : (Jvm.Cond.laysFinal "ThinRowModel" "ThinRowModel" "drawn" "[I") ∈ xWall := xt5 118 rfl rfl
theorem w_1080 : (Jvm.Cond.laysFinal "ThinRowModel" "ThinRowModel" "joined" "[I") ∈ xWall := xt5 120 rfl rfl
theorem w_1082 : (Jvm.Cond.laysFinal "ThinRowModel" "ThinRowModel" "out" "[I") ∈ xWall := xt5 122 rfl rfl
theorem w_1084 : (Jvm.Cond.lays "ThinRowModel" "ThinRowModel" "outs" "I") ∈ xWall := xt5 124 rfl rfl
theorem w_1087 : (Jvm.Cond.methodLink "ThinRowLaw" (182 : Nat) ({ cls := "ThinRowModel", name := "undo", desc := "()I" } : Jvm.MethodName)) ∈ xWall := xt5 127 rfl rfl
theorem w_1088 : (Jvm.Cond.instanceMethod ({ cls := "ThinRowModel", name := "undo", desc := "()I" } : Jvm.MethodName)) ∈ xWall := xt5 128 rfl rfl
theorem w_1089 : (Jvm.Cond.selects "ThinRowModel" ({ cls := "ThinRowModel", name := "undo", desc := "()I" } : Jvm.MethodName) ({ cls := "ThinRowModel", name := "undo", desc := "()I" } : Jvm.MethodName)) ∈ xWall := xt5 129 rfl rfl
theorem w_1090 : (Jvm.Cond.code ({ cls := "ThinRowModel", name := "undo", desc := "()I" } : Jvm.MethodName) prog_14_method_20_code (2 : Nat) (Option.some Jvm.ClassFile.FieldType.int)) ∈ xWall := xt5 130 rfl rfl
theorem w_1091 : (Jvm.Cond.methodLink "ThinRowLaw" (177 : Nat) ({ cls := "ThinRowModel", name := "drops", desc := "(I)I" } : Jvm.MethodName)) ∈ xWall := xt5 131 rfl rfl
theorem w_1092 : (Jvm.Cond.instanceMethod ({ cls := "ThinRowModel", name := "drops", desc := "(I)I" } : Jvm.MethodName)) ∈ xWall := xt5 132 rfl rfl
theorem w_1093 : (Jvm.Cond.selects "ThinRowModel" ({ cls := "ThinRowModel", name := "drops", desc := "(I)I" } : Jvm.MethodName) ({ cls := "ThinRowModel", name := "drops", desc := "(I)I" } : Jvm.MethodName)) ∈ xWall := xt5 133 rfl rfl
theorem w_1094 : (Jvm.Cond.code ({ cls := "ThinRowModel", name := "drops", desc := "(I)I" } : Jvm.MethodName) prog_14_method_22_code (2 : Nat) (Option.some Jvm.ClassFile.FieldType.int)) ∈ xWall := xt5 134 rfl rfl
theorem w_1095 : (Jvm.Cond.methodLink "ThinRowModel" (59 : Nat) ({ cls := "ThinRowModel", name := "isSlot", desc := "(I)Z" } : Jvm.MethodName)) ∈ xWall := xt5 135 rfl rfl
theorem w_1096 : (Jvm.Cond.static ({ cls := "ThinRowModel", name := "isSlot", desc := "(I)Z" } : Jvm.MethodName)) ∈ xWall := xt5 136 rfl rfl
theorem w_1097 : (Jvm.Cond.code ({ cls := "ThinRowModel", name := "isSlot", desc := "(I)Z" } : Jvm.MethodName) prog_14_method_5_code (1 : Nat) (Option.some Jvm.ClassFile.FieldType.boolean)) ∈ xWall := xt5 137 rfl rfl
theorem w_1098 : (Jvm.Cond.constantLong "ThinRowModel" (53 : Nat) (2 : Int64)) ∈ xWall := xt5 138 rfl rfl
theorem w_1099 : (Jvm.Cond.methodLink "ThinRowModel" (55 : Nat) ({ cls := "ThinRowModel", name := "in", desc := "(JJJ)Z" } : Jvm.MethodName)) ∈ xWall := xt5 139 rfl rfl
theorem w_1100 : (Jvm.Cond.static ({ cls := "ThinRowModel", name := "in", desc := "(JJJ)Z" } : Jvm.MethodName)) ∈ xWall := xt5 140 rfl rfl
theorem w_1101 : (Jvm.Cond.code ({ cls := "ThinRowModel", name := "in", desc := "(JJJ)Z" } : Jvm.MethodName) prog_14_method_1_code (6 : Nat) (Option.some Jvm.ClassFile.FieldType.boolean)) ∈ xWall := xt5 141 rfl rfl
theorem w_1102 : (Jvm.Cond.methodLink "ThinRowModel" (67 : Nat) ({ cls := "ThinRowModel", name := "isNet", desc := "(I)Z" } : Jvm.MethodName)) ∈ xWall := xt5 142 rfl rfl
theorem w_1104 : (Jvm.Cond.instanceMethod ({ cls := "ThinRowModel", name := "isNet", desc := "(I)Z" } : Jvm.MethodName)) ∈ xWall := xt5 144 rfl rfl
theorem w_1105 : (Jvm.Cond.code ({ cls := "ThinRowModel", name := "isNet", desc := "(I)Z" } : Jvm.MethodName) prog_14_method_7_code (2 : Nat) (Option.some Jvm.ClassFile.FieldType.boolean)) ∈ xWall := xt5 145 rfl rfl
theorem w_1106 : (Jvm.Cond.methodLink "ThinRowModel" (63 : Nat) ({ cls := "ThinRowModel", name := "points", desc := "(I)I" } : Jvm.MethodName)) ∈ xWall := xt5 146 rfl rfl
theorem w_1108 : (Jvm.Cond.instanceMethod ({ cls := "ThinRowModel", name := "points", desc := "(I)I" } : Jvm.MethodName)) ∈ xWall := xt5 148 rfl rfl
theorem w_1109 : (Jvm.Cond.code ({ cls := "ThinRowModel", name := "points", desc := "(I)I" } : Jvm.MethodName) prog_14_method_6_code (2 : Nat) (Option.some Jvm.ClassFile.FieldType.int)) ∈ xWall := xt5 149 rfl rfl
theorem w_1110 : (Jvm.Cond.methodLink "ThinRowModel" (93 : Nat) ({ cls := "ThinRowModel", name := "remembers", desc := "()V" } : Jvm.MethodName)) ∈ xWall := xt5 150 rfl rfl
theorem w_1112 : (Jvm.Cond.instanceMethod ({ cls := "ThinRowModel", name := "remembers", desc := "()V" } : Jvm.MethodName)) ∈ xWall := xt5 152 rfl rfl
theorem w_1113 : (Jvm.Cond.code ({ cls := "ThinRowModel", name := "remembers", desc := "()V" } : Jvm.MethodName) prog_14_method_17_code (2 : Nat) (Option.none : Option Jvm.ClassFile.FieldType)) ∈ xWall := xt5 153 rfl rfl
theorem w_1114 : (Jvm.Cond.methodLink "ThinRowModel" (96 : Nat) ({ cls := "ThinRowModel", name := "empties", desc := "(I)V" } : Jvm.MethodName)) ∈ xWall := xt5 154 rfl rfl
theorem w_1116 : (Jvm.Cond.instanceMethod ({ cls := "ThinRowModel", name := "empties", desc := "(I)V" } : Jvm.MethodName)) ∈ xWall := xt5 156 rfl rfl
theorem w_1117 : (Jvm.Cond.code ({ cls := "ThinRowModel", name := "empties", desc := "(I)V" } : Jvm.MethodName) prog_14_method_21_code (3 : Nat) (Option.none : Option Jvm.ClassFile.FieldType)) ∈ xWall := xt5 157 rfl rfl
theorem w_1118 : (Jvm.Cond.methodLink "ThinRowModel" (90 : Nat) ({ cls := "ThinRowModel", name := "keeps", desc := "(I)I" } : Jvm.MethodName)) ∈ xWall := xt5 158 rfl rfl
theorem w_1120 : (Jvm.Cond.instanceMethod ({ cls := "ThinRowModel", name := "keeps", desc := "(I)I" } : Jvm.MethodName)) ∈ xWall := xt5 160 rfl rfl
theorem w_1121 : (Jvm.Cond.code ({ cls := "ThinRowModel", name := "keeps", desc := "(I)I" } : Jvm.MethodName) prog_14_method_18_code (3 : Nat) (Option.some Jvm.ClassFile.FieldType.int)) ∈ xWall := xt5 161 rfl rfl
theorem w_1122 : (Jvm.Cond.methodLink "ThinRowLaw" (17 : Nat) ({ cls := "ThinRowModel", name := "feed", desc := "(IIIII)I" } : Jvm.MethodName)) ∈ xWall := xt5 162 rfl rfl
theorem w_1123 : (Jvm.Cond.instanceMethod ({ cls := "ThinRowModel", name := "feed", desc := "(IIIII)I" } : Jvm.MethodName)) ∈ xWall := xt5 163 rfl rfl
theorem w_1124 : (Jvm.Cond.selects "ThinRowModel" ({ cls := "ThinRowModel", name := "feed", desc := "(IIIII)I" } : Jvm.MethodName) ({ cls := "ThinRowModel", name := "feed", desc := "(IIIII)I" } : Jvm.MethodName)) ∈ xWall := xt5 164 rfl rfl
theorem w_1125 : (Jvm.Cond.code ({ cls := "ThinRowModel", name := "feed", desc := "(IIIII)I" } : Jvm.MethodName) prog_14_method_23_code (8 : Nat) (Option.some Jvm.ClassFile.FieldType.int)) ∈ xWall := xt5 165 rfl rfl
theorem w_1126 : (Jvm.Cond.methodLink "ThinRowLaw" (22 : Nat) ({ cls := "ThinRowModel", name := "end", desc := "(I)I" } : Jvm.MethodName)) ∈ xWall := xt5 166 rfl rfl
theorem w_1127 : (Jvm.Cond.instanceMethod ({ cls := "ThinRowModel", name := "end", desc := "(I)I" } : Jvm.MethodName)) ∈ xWall := xt5 167 rfl rfl
theorem w_1128 : (Jvm.Cond.selects "ThinRowModel" ({ cls := "ThinRowModel", name := "end", desc := "(I)I" } : Jvm.MethodName) ({ cls := "ThinRowModel", name := "end", desc := "(I)I" } : Jvm.MethodName)) ∈ xWall := xt5 168 rfl rfl
theorem w_1129 : (Jvm.Cond.code ({ cls := "ThinRowModel", name := "end", desc := "(I)I" } : Jvm.MethodName) prog_14_method_24_code (2 : Nat) (Option.some Jvm.ClassFile.FieldType.int)) ∈ xWall := xt5 169 rfl rfl
theorem w_1130 : (Jvm.Cond.methodLink "ThinRowLaw" (26 : Nat) ({ cls := "ThinRowModel", name := "told", desc := "(I)I" } : Jvm.MethodName)) ∈ xWall := xt5 170 rfl rfl
theorem w_1131 : (Jvm.Cond.instanceMethod ({ cls := "ThinRowModel", name := "told", desc := "(I)I" } : Jvm.MethodName)) ∈ xWall := xt5 171 rfl rfl
theorem w_1132 : (Jvm.Cond.selects "ThinRowModel" ({ cls := "ThinRowModel", name := "told", desc := "(I)I" } : Jvm.MethodName) ({ cls := "ThinRowModel", name := "told", desc := "(I)I" } : Jvm.MethodName)) ∈ xWall := xt5 172 rfl rfl
theorem w_1133 : (Jvm.Cond.code ({ cls := "ThinRowModel", name := "told", desc := "(I)I" } : Jvm.MethodName) prog_14_method_36_code (3 : Nat) (Option.some Jvm.ClassFile.FieldType.int)) ∈ xWall := xt5 173 rfl rfl
theorem w_1134 : (Jvm.Cond.methodLink "ThinRowModel" (130 : Nat) ({ cls := "ThinRowModel", name := "next", desc := "()V" } : Jvm.MethodName)) ∈ xWall := xt5 174 rfl rfl
theorem w_1136 : (Jvm.Cond.instanceMethod ({ cls := "ThinRowModel", name := "next", desc := "()V" } : Jvm.MethodName)) ∈ xWall := xt5 176 rfl rfl
theorem w_1137 : (Jvm.Cond.code ({ cls := "ThinRowModel", name := "next", desc := "()V" } : Jvm.MethodName) prog_14_method_26_code (1 : Nat) (Option.none : Option Jvm.ClassFile.FieldType)) ∈ xWall := xt5 177 rfl rfl
theorem w_1138 : (Jvm.Cond.methodLink "ThinRowModel" (106 : Nat) ({ cls := "ThinRowModel", name := "isAt", desc := "(II)Z" } : Jvm.MethodName)) ∈ xWall := xt5 178 rfl rfl
theorem w_1140 : (Jvm.Cond.instanceMethod ({ cls := "ThinRowModel", name := "isAt", desc := "(II)Z" } : Jvm.MethodName)) ∈ xWall := xt5 180 rfl rfl
theorem w_1141 : (Jvm.Cond.code ({ cls := "ThinRowModel", name := "isAt", desc := "(II)Z" } : Jvm.MethodName) prog_14_method_25_code (3 : Nat) (Option.some Jvm.ClassFile.FieldType.boolean)) ∈ xWall := xt5 181 rfl rfl
theorem w_1142 : (Jvm.Cond.methodLink "ThinRowModel" (118 : Nat) ({ cls := "java/lang/Math", name := "min", desc := "(II)I" } : Jvm.MethodName)) ∈ xWall := xt5 182 rfl rfl
theorem w_1143 : (Jvm.Cond.methodLink "ThinRowModel" (187 : Nat) ({ cls := "ThinRowModel", name := "readsNet", desc := "(I)V" } : Jvm.MethodName)) ∈ xWall := xt5 183 rfl rfl
theorem w_1145 : (Jvm.Cond.instanceMethod ({ cls := "ThinRowModel", name := "readsNet", desc := "(I)V" } : Jvm.MethodName)) ∈ xWall := xt5 185 rfl rfl
theorem w_1146 : (Jvm.Cond.code ({ cls := "ThinRowModel", name := "readsNet", desc := "(I)V" } : Jvm.MethodName) prog_14_method_35_code (4 : Nat) (Option.none : Option Jvm.ClassFile.FieldType)) ∈ xWall := xt5 186 rfl rfl
theorem w_1148 : (Jvm.Cond.methodLink "ThinRowModel" (175 : Nat) ({ cls := "ThinRowModel", name := "isWord", desc := "(Ljava/lang/String;)Z" } : Jvm.MethodName)) ∈ xWall := xt5 188 rfl rfl
theorem w_1150 : (Jvm.Cond.instanceMethod ({ cls := "ThinRowModel", name := "isWord", desc := "(Ljava/lang/String;)Z" } : Jvm.MethodName)) ∈ xWall := xt5 190 rfl rfl
theorem w_1151 : (Jvm.Cond.code ({ cls := "ThinRowModel", name := "isWord", desc := "(Ljava/lang/String;)Z" } : Jvm.MethodName) prog_14_method_29_code (4 : Nat) (Option.some Jvm.ClassFile.FieldType.boolean)) ∈ xWall := xt5 191 rfl rfl
theorem w_1152 : (Jvm.Cond.methodLink "ThinRowModel" (133 : Nat) ({ cls := "java/lang/String", name := "length", desc := "()I" } : Jvm.MethodName)) ∈ xWall := xt5 192 rfl rfl
theorem w_1153 : (Jvm.Cond.methodLink "ThinRowModel" (139 : Nat) ({ cls := "java/lang/String", name := "charAt", desc := "(I)C" } : Jvm.MethodName)) ∈ xWall := xt5 193 rfl rfl
theorem w_1154 : (Jvm.Cond.methodLink "ThinRowModel" (158 : Nat) ({ cls := "ThinRowModel", name := "must", desc := "(Z)V" } : Jvm.MethodName)) ∈ xWall := xt5 194 rfl rfl
theorem w_1156 : (Jvm.Cond.instanceMethod ({ cls := "ThinRowModel", name := "must", desc := "(Z)V" } : Jvm.MethodName)) ∈ xWall := xt5 196 rfl rfl
theorem w_1157 : (Jvm.Cond.code ({ cls := "ThinRowModel", name := "must", desc := "(Z)V" } : Jvm.MethodName) prog_14_method_30_code (2 : Nat) (Option.none : Option Jvm.ClassFile.FieldType)) ∈ xWall := xt5 197 rfl rfl
theorem w_1158 : (Jvm.Cond.methodLink "ThinRowModel" (143 : Nat) ({ cls := "ThinRowModel", name := "faults", desc := "(I)V" } : Jvm.MethodName)) ∈ xWall := xt5 198 rfl rfl
theorem w_1160 : (Jvm.Cond.instanceMethod ({ cls := "ThinRowModel", name := "faults", desc := "(I)V" } : Jvm.MethodName)) ∈ xWall := xt5 200 rfl rfl
theorem w_1161 : (Jvm.Cond.code ({ cls := "ThinRowModel", name := "faults", desc := "(I)V" } : Jvm.MethodName) prog_14_method_27_code (2 : Nat) (Option.none : Option Jvm.ClassFile.FieldType)) ∈ xWall := xt5 201 rfl rfl
theorem w_1162 : (Jvm.Cond.methodLink "ThinRowModel" (146 : Nat) ({ cls := "ThinRowModel", name := "passes", desc := "()V" } : Jvm.MethodName)) ∈ xWall := xt5 202 rfl rfl
theorem w_1164 : (Jvm.Cond.instanceMethod ({ cls := "ThinRowModel", name := "passes", desc := "()V" } : Jvm.MethodName)) ∈ xWall := xt5 204 rfl rfl
theorem w_1165 : (Jvm.Cond.code ({ cls := "ThinRowModel", name := "passes", desc := "()V" } : Jvm.MethodName) prog_14_method_28_code (1 : Nat) (Option.none : Option Jvm.ClassFile.FieldType)) ∈ xWall := xt5 205 rfl rfl
theorem w_1166 : (Jvm.Cond.methodLink "ThinRowModel" (149 : Nat) ({ cls := "ThinRowModel", name := "here", desc := "(II)I" } : Jvm.MethodName)) ∈ xWall := xt5 206 rfl rfl
theorem w_1168 : (Jvm.Cond.instanceMethod ({ cls := "ThinRowModel", name := "here", desc := "(II)I" } : Jvm.MethodName)) ∈ xWall := xt5 208 rfl rfl
theorem w_1169 : (Jvm.Cond.code ({ cls := "ThinRowModel", name := "here", desc := "(II)I" } : Jvm.MethodName) prog_14_method_32_code (3 : Nat) (Option.some Jvm.ClassFile.FieldType.int)) ∈ xWall := xt5 209 rfl rfl
theorem w_1170 : (Jvm.Cond.methodLink "ThinRowModel" (169 : Nat) ({ cls := "ThinRowModel", name := "puts", desc := "(III)V" } : Jvm.MethodName)) ∈ xWall := xt5 210 rfl rfl
theorem w_1172 : (Jvm.Cond.instanceMethod ({ cls := "ThinRowModel", name := "puts", desc := "(III)V" } : Jvm.MethodName)) ∈ xWall := xt5 212 rfl rfl
theorem w_1173 : (Jvm.Cond.code ({ cls := "ThinRowModel", name := "puts", desc := "(III)V" } : Jvm.MethodName) prog_14_method_14_code (4 : Nat) (Option.none : Option Jvm.ClassFile.FieldType)) ∈ xWall := xt5 213 rfl rfl
theorem w_1174 : (Jvm.Cond.methodLink "ThinRowModel" (155 : Nat) ({ cls := "ThinRowModel", name := "isSign", desc := "(I)Z" } : Jvm.MethodName)) ∈ xWall := xt5 214 rfl rfl
theorem w_1176 : (Jvm.Cond.instanceMethod ({ cls := "ThinRowModel", name := "isSign", desc := "(I)Z" } : Jvm.MethodName)) ∈ xWall := xt5 216 rfl rfl
theorem w_1177 : (Jvm.Cond.code ({ cls := "ThinRowModel", name := "isSign", desc := "(I)Z" } : Jvm.MethodName) prog_14_method_31_code (2 : Nat) (Option.some Jvm.ClassFile.FieldType.boolean)) ∈ xWall := xt5 217 rfl rfl
theorem w_1178 : (Jvm.Cond.methodLink "ThinRowModel" (179 : Nat) ({ cls := "ThinRowModel", name := "readsLine", desc := "(I)V" } : Jvm.MethodName)) ∈ xWall := xt5 218 rfl rfl
theorem w_1180 : (Jvm.Cond.instanceMethod ({ cls := "ThinRowModel", name := "readsLine", desc := "(I)V" } : Jvm.MethodName)) ∈ xWall := xt5 220 rfl rfl
theorem w_1181 : (Jvm.Cond.code ({ cls := "ThinRowModel", name := "readsLine", desc := "(I)V" } : Jvm.MethodName) prog_14_method_33_code (5 : Nat) (Option.none : Option Jvm.ClassFile.FieldType)) ∈ xWall := xt5 221 rfl rfl
theorem w_1182 : (Jvm.Cond.methodLink "ThinRowModel" (152 : Nat) ({ cls := "ThinRowModel", name := "lines", desc := "(I)I" } : Jvm.MethodName)) ∈ xWall := xt5 222 rfl rfl
theorem w_1184 : (Jvm.Cond.instanceMethod ({ cls := "ThinRowModel", name := "lines", desc := "(I)I" } : Jvm.MethodName)) ∈ xWall := xt5 224 rfl rfl
theorem w_1185 : (Jvm.Cond.code ({ cls := "ThinRowModel", name := "lines", desc := "(I)I" } : Jvm.MethodName) prog_14_method_16_code (4 : Nat) (Option.some Jvm.ClassFile.FieldType.int)) ∈ xWall := xt5 225 rfl rfl
theorem w_1186 : (Jvm.Cond.methodLink "ThinRowModel" (80 : Nat) ({ cls := "ThinRowModel", name := "nearOf", desc := "(II)I" } : Jvm.MethodName)) ∈ xWall := xt5 226 rfl rfl
theorem w_1188 : (Jvm.Cond.instanceMethod ({ cls := "ThinRowModel", name := "nearOf", desc := "(II)I" } : Jvm.MethodName)) ∈ xWall := xt5 228 rfl rfl
theorem w_1189 : (Jvm.Cond.code ({ cls := "ThinRowModel", name := "nearOf", desc := "(II)I" } : Jvm.MethodName) prog_14_method_15_code (5 : Nat) (Option.some Jvm.ClassFile.FieldType.int)) ∈ xWall := xt5 229 rfl rfl
theorem w_1190 : (Jvm.Cond.methodLink "ThinRowModel" (76 : Nat) ({ cls := "ThinRowModel", name := "weight", desc := "(III)I" } : Jvm.MethodName)) ∈ xWall := xt5 230 rfl rfl
theorem w_1192 : (Jvm.Cond.instanceMethod ({ cls := "ThinRowModel", name := "weight", desc := "(III)I" } : Jvm.MethodName)) ∈ xWall := xt5 232 rfl rfl
theorem w_1193 : (Jvm.Cond.code ({ cls := "ThinRowModel", name := "weight", desc := "(III)I" } : Jvm.MethodName) prog_14_method_11_code (4 : Nat) (Option.some Jvm.ClassFile.FieldType.int)) ∈ xWall := xt5 233 rfl rfl
theorem w_1194 : (Jvm.Cond.methodLink "ThinRowModel" (84 : Nat) ({ cls := "ThinRowModel", name := "ones", desc := "(I)I" } : Jvm.MethodName)) ∈ xWall := xt5 234 rfl rfl
theorem w_1195 : (Jvm.Cond.static ({ cls := "ThinRowModel", name := "ones", desc := "(I)I" } : Jvm.MethodName)) ∈ xWall := xt5 235 rfl rfl
theorem w_1196 : (Jvm.Cond.code ({ cls := "ThinRowModel", name := "ones", desc := "(I)I" } : Jvm.MethodName) prog_14_method_3_code (3 : Nat) (Option.some Jvm.ClassFile.FieldType.int)) ∈ xWall := xt5 236 rfl rfl
theorem w_1197 : (Jvm.Cond.methodLink "ThinRowModel" (162 : Nat) ({ cls := "ThinRowModel", name := "weighs", desc := "(IIII)V" } : Jvm.MethodName)) ∈ xWall := xt5 237 rfl rfl
theorem w_1199 : (Jvm.Cond.instanceMethod ({ cls := "ThinRowModel", name := "weighs", desc := "(IIII)V" } : Jvm.MethodName)) ∈ xWall := xt5 239 rfl rfl
theorem w_1200 : (Jvm.Cond.code ({ cls := "ThinRowModel", name := "weighs", desc := "(IIII)V" } : Jvm.MethodName) prog_14_method_12_code (5 : Nat) (Option.none : Option Jvm.ClassFile.FieldType)) ∈ xWall := xt6 0 rfl rfl
theorem w_1202 : (Jvm.Cond.methodLink "ThinRowModel" (184 : Nat) ({ cls := "ThinRowModel", name := "readsRow", desc := "(I)V" } : Jvm.MethodName)) ∈ xWall := xt6 2 rfl rfl
theorem w_1204 : (Jvm.Cond.instanceMethod ({ cls := "ThinRowModel", name := "readsRow", desc := "(I)V" } : Jvm.MethodName)) ∈ xWall := xt6 4 rfl rfl
theorem w_1205 : (Jvm.Cond.code ({ cls := "ThinRowModel", name := "readsRow", desc := "(I)V" } : Jvm.MethodName) prog_14_method_34_code (6 : Nat) (Option.none : Option Jvm.ClassFile.FieldType)) ∈ xWall := xt6 5 rfl rfl
theorem w_1206 : (Jvm.Cond.methodLink "ThinRowModel" (166 : Nat) ({ cls := "ThinRowModel", name := "has", desc := "(II)Z" } : Jvm.MethodName)) ∈ xWall := xt6 6 rfl rfl
theorem w_1207 : (Jvm.Cond.static ({ cls := "ThinRowModel", name := "has", desc := "(II)Z" } : Jvm.MethodName)) ∈ xWall := xt6 7 rfl rfl
theorem w_1208 : (Jvm.Cond.code ({ cls := "ThinRowModel", name := "has", desc := "(II)Z" } : Jvm.MethodName) prog_14_method_2_code (2 : Nat) (Option.some Jvm.ClassFile.FieldType.boolean)) ∈ xWall := xt6 8 rfl rfl
theorem w_1209 : (Jvm.Cond.methodLink "ThinRowModel" (190 : Nat) ({ cls := "ThinRowModel", name := "done", desc := "(I)I" } : Jvm.MethodName)) ∈ xWall := xt6 9 rfl rfl
theorem w_1211 : (Jvm.Cond.instanceMethod ({ cls := "ThinRowModel", name := "done", desc := "(I)I" } : Jvm.MethodName)) ∈ xWall := xt6 11 rfl rfl
theorem w_1212 : (Jvm.Cond.code ({ cls := "ThinRowModel", name := "done", desc := "(I)I" } : Jvm.MethodName) prog_14_method_19_code (3 : Nat) (Option.some Jvm.ClassFile.FieldType.int)) ∈ xWall := xt6 12 rfl rfl
theorem w_1213 : (Jvm.Cond.methodLink "ThinRowLaw" (30 : Nat) ({ cls := "ThinRowModel", name := "fault", desc := "(I)I" } : Jvm.MethodName)) ∈ xWall := xt6 13 rfl rfl
theorem w_1214 : (Jvm.Cond.instanceMethod ({ cls := "ThinRowModel", name := "fault", desc := "(I)I" } : Jvm.MethodName)) ∈ xWall := xt6 14 rfl rfl
theorem w_1215 : (Jvm.Cond.selects "ThinRowModel" ({ cls := "ThinRowModel", name := "fault", desc := "(I)I" } : Jvm.MethodName) ({ cls := "ThinRowModel", name := "fault", desc := "(I)I" } : Jvm.MethodName)) ∈ xWall := xt6 15 rfl rfl
theorem w_1216 : (Jvm.Cond.code ({ cls := "ThinRowModel", name := "fault", desc := "(I)I" } : Jvm.MethodName) prog_14_method_37_code (2 : Nat) (Option.some Jvm.ClassFile.FieldType.int)) ∈ xWall := xt6 16 rfl rfl
theorem w_1217 : (Jvm.Cond.methodLink "ThinRowLaw" (34 : Nat) ({ cls := "ThinRowModel", name := "count", desc := "(I)I" } : Jvm.MethodName)) ∈ xWall := xt6 17 rfl rfl
theorem w_1218 : (Jvm.Cond.instanceMethod ({ cls := "ThinRowModel", name := "count", desc := "(I)I" } : Jvm.MethodName)) ∈ xWall := xt6 18 rfl rfl
theorem w_1219 : (Jvm.Cond.selects "ThinRowModel" ({ cls := "ThinRowModel", name := "count", desc := "(I)I" } : Jvm.MethodName) ({ cls := "ThinRowModel", name := "count", desc := "(I)I" } : Jvm.MethodName)) ∈ xWall := xt6 19 rfl rfl
theorem w_1220 : (Jvm.Cond.code ({ cls := "ThinRowModel", name := "count", desc := "(I)I" } : Jvm.MethodName) prog_14_method_38_code (4 : Nat) (Option.some Jvm.ClassFile.FieldType.int)) ∈ xWall := xt6 20 rfl rfl
theorem w_1221 : (Jvm.Cond.methodLink "ThinRowLaw" (39 : Nat) ({ cls := "ThinRowModel", name := "look", desc := "(II)I" } : Jvm.MethodName)) ∈ xWall := xt6 21 rfl rfl
theorem w_1222 : (Jvm.Cond.instanceMethod ({ cls := "ThinRowModel", name := "look", desc := "(II)I" } : Jvm.MethodName)) ∈ xWall := xt6 22 rfl rfl
theorem w_1223 : (Jvm.Cond.selects "ThinRowModel" ({ cls := "ThinRowModel", name := "look", desc := "(II)I" } : Jvm.MethodName) ({ cls := "ThinRowModel", name := "look", desc := "(II)I" } : Jvm.MethodName)) ∈ xWall := xt6 23 rfl rfl
theorem w_1224 : (Jvm.Cond.code ({ cls := "ThinRowModel", name := "look", desc := "(II)I" } : Jvm.MethodName) prog_14_method_45_code (5 : Nat) (Option.some Jvm.ClassFile.FieldType.int)) ∈ xWall := xt6 24 rfl rfl
theorem w_1225 : (Jvm.Cond.constantLong "ThinRowModel" (74 : Nat) (6 : Int64)) ∈ xWall := xt6 25 rfl rfl
theorem w_1226 : (Jvm.Cond.methodLink "ThinRowModel" (202 : Nat) ({ cls := "ThinRowModel", name := "weightOf", desc := "(II)I" } : Jvm.MethodName)) ∈ xWall := xt6 26 rfl rfl
theorem w_1228 : (Jvm.Cond.instanceMethod ({ cls := "ThinRowModel", name := "weightOf", desc := "(II)I" } : Jvm.MethodName)) ∈ xWall := xt6 28 rfl rfl
theorem w_1229 : (Jvm.Cond.code ({ cls := "ThinRowModel", name := "weightOf", desc := "(II)I" } : Jvm.MethodName) prog_14_method_44_code (5 : Nat) (Option.some Jvm.ClassFile.FieldType.int)) ∈ xWall := xt6 29 rfl rfl
theorem w_1230 : (Jvm.Cond.methodLink "ThinRowModel" (205 : Nat) ({ cls := "ThinRowModel", name := "degree", desc := "(I)I" } : Jvm.MethodName)) ∈ xWall := xt6 30 rfl rfl
theorem w_1232 : (Jvm.Cond.instanceMethod ({ cls := "ThinRowModel", name := "degree", desc := "(I)I" } : Jvm.MethodName)) ∈ xWall := xt6 32 rfl rfl
theorem w_1233 : (Jvm.Cond.code ({ cls := "ThinRowModel", name := "degree", desc := "(I)I" } : Jvm.MethodName) prog_14_method_42_code (4 : Nat) (Option.some Jvm.ClassFile.FieldType.int)) ∈ xWall := xt6 33 rfl rfl
theorem w_1234 : (Jvm.Cond.methodLink "ThinRowModel" (199 : Nat) ({ cls := "java/lang/Math", name := "max", desc := "(II)I" } : Jvm.MethodName)) ∈ xWall := xt6 34 rfl rfl
theorem w_1235 : (Jvm.Cond.methodLink "ThinRowModel" (208 : Nat) ({ cls := "ThinRowModel", name := "parts", desc := "(I)I" } : Jvm.MethodName)) ∈ xWall := xt6 35 rfl rfl
theorem w_1237 : (Jvm.Cond.instanceMethod ({ cls := "ThinRowModel", name := "parts", desc := "(I)I" } : Jvm.MethodName)) ∈ xWall := xt6 37 rfl rfl
theorem w_1238 : (Jvm.Cond.code ({ cls := "ThinRowModel", name := "parts", desc := "(I)I" } : Jvm.MethodName) prog_14_method_40_code (6 : Nat) (Option.some Jvm.ClassFile.FieldType.int)) ∈ xWall := xt6 38 rfl rfl
theorem w_1239 : (Jvm.Cond.methodLink "ThinRowModel" (196 : Nat) ({ cls := "ThinRowModel", name := "farOf", desc := "(III)I" } : Jvm.MethodName)) ∈ xWall := xt6 39 rfl rfl
theorem w_1241 : (Jvm.Cond.instanceMethod ({ cls := "ThinRowModel", name := "farOf", desc := "(III)I" } : Jvm.MethodName)) ∈ xWall := xt6 41 rfl rfl
theorem w_1242 : (Jvm.Cond.code ({ cls := "ThinRowModel", name := "farOf", desc := "(III)I" } : Jvm.MethodName) prog_14_method_39_code (8 : Nat) (Option.some Jvm.ClassFile.FieldType.int)) ∈ xWall := xt6 42 rfl rfl
theorem w_1243 : (Jvm.Cond.methodLink "ThinRowModel" (211 : Nat) ({ cls := "ThinRowModel", name := "diameter", desc := "(I)I" } : Jvm.MethodName)) ∈ xWall := xt6 43 rfl rfl
theorem w_1245 : (Jvm.Cond.instanceMethod ({ cls := "ThinRowModel", name := "diameter", desc := "(I)I" } : Jvm.MethodName)) ∈ xWall := xt6 45 rfl rfl
theorem w_1246 : (Jvm.Cond.code ({ cls := "ThinRowModel", name := "diameter", desc := "(I)I" } : Jvm.MethodName) prog_14_method_41_code (6 : Nat) (Option.some Jvm.ClassFile.FieldType.int)) ∈ xWall := xt6 46 rfl rfl
theorem w_1247 : (Jvm.Cond.methodLink "ThinRowModel" (214 : Nat) ({ cls := "ThinRowModel", name := "core", desc := "(I)I" } : Jvm.MethodName)) ∈ xWall := xt6 47 rfl rfl
theorem w_1249 : (Jvm.Cond.instanceMethod ({ cls := "ThinRowModel", name := "core", desc := "(I)I" } : Jvm.MethodName)) ∈ xWall := xt6 49 rfl rfl
theorem w_1250 : (Jvm.Cond.code ({ cls := "ThinRowModel", name := "core", desc := "(I)I" } : Jvm.MethodName) prog_14_method_43_code (6 : Nat) (Option.some Jvm.ClassFile.FieldType.int)) ∈ xWall := xt6 50 rfl rfl
theorem w_1251 : (Jvm.Cond.methodLink "ThinRowLaw" (43 : Nat) ({ cls := "ThinRowModel", name := "near", desc := "(II)I" } : Jvm.MethodName)) ∈ xWall := xt6 51 rfl rfl
theorem w_1252 : (Jvm.Cond.instanceMethod ({ cls := "ThinRowModel", name := "near", desc := "(II)I" } : Jvm.MethodName)) ∈ xWall := xt6 52 rfl rfl
theorem w_1253 : (Jvm.Cond.selects "ThinRowModel" ({ cls := "ThinRowModel", name := "near", desc := "(II)I" } : Jvm.MethodName) ({ cls := "ThinRowModel", name := "near", desc := "(II)I" } : Jvm.MethodName)) ∈ xWall := xt6 53 rfl rfl
theorem w_1254 : (Jvm.Cond.code ({ cls := "ThinRowModel", name := "near", desc := "(II)I" } : Jvm.MethodName) prog_14_method_46_code (3 : Nat) (Option.some Jvm.ClassFile.FieldType.int)) ∈ xWall := xt6 54 rfl rfl
theorem w_1255 : (Jvm.Cond.methodLink "ThinRowModel" (70 : Nat) ({ cls := "ThinRowModel", name := "isPoint", desc := "(II)Z" } : Jvm.MethodName)) ∈ xWall := xt6 55 rfl rfl
theorem w_1257 : (Jvm.Cond.instanceMethod ({ cls := "ThinRowModel", name := "isPoint", desc := "(II)Z" } : Jvm.MethodName)) ∈ xWall := xt6 57 rfl rfl
theorem w_1258 : (Jvm.Cond.code ({ cls := "ThinRowModel", name := "isPoint", desc := "(II)Z" } : Jvm.MethodName) prog_14_method_8_code (3 : Nat) (Option.some Jvm.ClassFile.FieldType.boolean)) ∈ xWall := xt6 58 rfl rfl
theorem w_1259 : (Jvm.Cond.methodLink "ThinRowLaw" (48 : Nat) ({ cls := "ThinRowModel", name := "line", desc := "(III)I" } : Jvm.MethodName)) ∈ xWall := xt6 59 rfl rfl
theorem w_1260 : (Jvm.Cond.instanceMethod ({ cls := "ThinRowModel", name := "line", desc := "(III)I" } : Jvm.MethodName)) ∈ xWall := xt6 60 rfl rfl
theorem w_1261 : (Jvm.Cond.selects "ThinRowModel" ({ cls := "ThinRowModel", name := "line", desc := "(III)I" } : Jvm.MethodName) ({ cls := "ThinRowModel", name := "line", desc := "(III)I" } : Jvm.MethodName)) ∈ xWall := xt6 61 rfl rfl
theorem w_1262 : (Jvm.Cond.code ({ cls := "ThinRowModel", name := "line", desc := "(III)I" } : Jvm.MethodName) prog_14_method_47_code (4 : Nat) (Option.some Jvm.ClassFile.FieldType.int)) ∈ xWall := xt6 62 rfl rfl
theorem w_1263 : (Jvm.Cond.methodLink "ThinRowLaw" (52 : Nat) ({ cls := "ThinRowModel", name := "far", desc := "(III)I" } : Jvm.MethodName)) ∈ xWall := xt6 63 rfl rfl
theorem w_1264 : (Jvm.Cond.instanceMethod ({ cls := "ThinRowModel", name := "far", desc := "(III)I" } : Jvm.MethodName)) ∈ xWall := xt6 64 rfl rfl
theorem w_1265 : (Jvm.Cond.selects "ThinRowModel" ({ cls := "ThinRowModel", name := "far", desc := "(III)I" } : Jvm.MethodName) ({ cls := "ThinRowModel", name := "far", desc := "(III)I" } : Jvm.MethodName)) ∈ xWall := xt6 65 rfl rfl
theorem w_1266 : (Jvm.Cond.code ({ cls := "ThinRowModel", name := "far", desc := "(III)I" } : Jvm.MethodName) prog_14_method_48_code (4 : Nat) (Option.some Jvm.ClassFile.FieldType.int)) ∈ xWall := xt6 66 rfl rfl
theorem w_1267 : (Jvm.Cond.methodLink "ThinRowLaw" (56 : Nat) ({ cls := "ThinRowModel", name := "row", desc := "(II)I" } : Jvm.MethodName)) ∈ xWall := xt6 67 rfl rfl
theorem w_1268 : (Jvm.Cond.instanceMethod ({ cls := "ThinRowModel", name := "row", desc := "(II)I" } : Jvm.MethodName)) ∈ xWall := xt6 68 rfl rfl
theorem w_1269 : (Jvm.Cond.selects "ThinRowModel" ({ cls := "ThinRowModel", name := "row", desc := "(II)I" } : Jvm.MethodName) ({ cls := "ThinRowModel", name := "row", desc := "(II)I" } : Jvm.MethodName)) ∈ xWall := xt6 69 rfl rfl
theorem w_1270 : (Jvm.Cond.code ({ cls := "ThinRowModel", name := "row", desc := "(II)I" } : Jvm.MethodName) prog_14_method_49_code (3 : Nat) (Option.some Jvm.ClassFile.FieldType.int)) ∈ xWall := xt6 70 rfl rfl
theorem w_1271 : (Jvm.Cond.methodLink "ThinRowModel" (217 : Nat) ({ cls := "ThinRowModel", name := "at", desc := "(II)I" } : Jvm.MethodName)) ∈ xWall := xt6 71 rfl rfl
theorem w_1273 : (Jvm.Cond.instanceMethod ({ cls := "ThinRowModel", name := "at", desc := "(II)I" } : Jvm.MethodName)) ∈ xWall := xt6 73 rfl rfl
theorem w_1274 : (Jvm.Cond.code ({ cls := "ThinRowModel", name := "at", desc := "(II)I" } : Jvm.MethodName) prog_14_method_13_code (3 : Nat) (Option.some Jvm.ClassFile.FieldType.int)) ∈ xWall := xt6 74 rfl rfl
theorem w_1275 : (Jvm.Cond.methodLink "ThinRowLaw" (60 : Nat) ({ cls := "ThinRowModel", name := "place", desc := "(II)I" } : Jvm.MethodName)) ∈ xWall := xt6 75 rfl rfl
theorem w_1276 : (Jvm.Cond.instanceMethod ({ cls := "ThinRowModel", name := "place", desc := "(II)I" } : Jvm.MethodName)) ∈ xWall := xt6 76 rfl rfl
theorem w_1277 : (Jvm.Cond.selects "ThinRowModel" ({ cls := "ThinRowModel", name := "place", desc := "(II)I" } : Jvm.MethodName) ({ cls := "ThinRowModel", name := "place", desc := "(II)I" } : Jvm.MethodName)) ∈ xWall := xt6 77 rfl rfl
theorem w_1278 : (Jvm.Cond.code ({ cls := "ThinRowModel", name := "place", desc := "(II)I" } : Jvm.MethodName) prog_14_method_51_code (3 : Nat) (Option.some Jvm.ClassFile.FieldType.int)) ∈ xWall := xt6 78 rfl rfl
theorem w_1279 : (Jvm.Cond.methodLink "ThinRowModel" (220 : Nat) ({ cls := "ThinRowModel", name := "placeOf", desc := "(II)I" } : Jvm.MethodName)) ∈ xWall := xt6 79 rfl rfl
theorem w_1281 : (Jvm.Cond.instanceMethod ({ cls := "ThinRowModel", name := "placeOf", desc := "(II)I" } : Jvm.MethodName)) ∈ xWall := xt6 81 rfl rfl
theorem w_1282 : (Jvm.Cond.code ({ cls := "ThinRowModel", name := "placeOf", desc := "(II)I" } : Jvm.MethodName) prog_14_method_50_code (4 : Nat) (Option.some Jvm.ClassFile.FieldType.int)) ∈ xWall := xt6 82 rfl rfl
theorem w_1283 : (Jvm.Cond.methodLink "ThinRowLaw" (64 : Nat) ({ cls := "ThinRowModel", name := "value", desc := "(II)I" } : Jvm.MethodName)) ∈ xWall := xt6 83 rfl rfl
theorem w_1284 : (Jvm.Cond.instanceMethod ({ cls := "ThinRowModel", name := "value", desc := "(II)I" } : Jvm.MethodName)) ∈ xWall := xt6 84 rfl rfl
theorem w_1285 : (Jvm.Cond.selects "ThinRowModel" ({ cls := "ThinRowModel", name := "value", desc := "(II)I" } : Jvm.MethodName) ({ cls := "ThinRowModel", name := "value", desc := "(II)I" } : Jvm.MethodName)) ∈ xWall := xt6 85 rfl rfl
theorem w_1286 : (Jvm.Cond.code ({ cls := "ThinRowModel", name := "value", desc := "(II)I" } : Jvm.MethodName) prog_14_method_62_code (3 : Nat) (Option.some Jvm.ClassFile.FieldType.int)) ∈ xWall := xt6 86 rfl rfl
theorem w_1287 : (Jvm.Cond.methodLink "ThinRowModel" (245 : Nat) ({ cls := "ThinRowModel", name := "isMeasure", desc := "(I)Z" } : Jvm.MethodName)) ∈ xWall := xt6 87 rfl rfl
theorem w_1288 : (Jvm.Cond.static ({ cls := "ThinRowModel", name := "isMeasure", desc := "(I)Z" } : Jvm.MethodName)) ∈ xWall := xt6 88 rfl rfl
theorem w_1289 : (Jvm.Cond.code ({ cls := "ThinRowModel", name := "isMeasure", desc := "(I)Z" } : Jvm.MethodName) prog_14_method_10_code (1 : Nat) (Option.some Jvm.ClassFile.FieldType.boolean)) ∈ xWall := xt6 89 rfl rfl
theorem w_1290 : (Jvm.Cond.methodLink "ThinRowModel" (248 : Nat) ({ cls := "ThinRowModel", name := "laysRow", desc := "(I)V" } : Jvm.MethodName)) ∈ xWall := xt6 90 rfl rfl
theorem w_1292 : (Jvm.Cond.instanceMethod ({ cls := "ThinRowModel", name := "laysRow", desc := "(I)V" } : Jvm.MethodName)) ∈ xWall := xt6 92 rfl rfl
theorem w_1293 : (Jvm.Cond.code ({ cls := "ThinRowModel", name := "laysRow", desc := "(I)V" } : Jvm.MethodName) prog_14_method_59_code (3 : Nat) (Option.none : Option Jvm.ClassFile.FieldType)) ∈ xWall := xt6 93 rfl rfl
theorem w_1294 : (Jvm.Cond.methodLink "ThinRowModel" (251 : Nat) ({ cls := "ThinRowModel", name := "valueOf", desc := "(II)I" } : Jvm.MethodName)) ∈ xWall := xt6 94 rfl rfl
theorem w_1296 : (Jvm.Cond.instanceMethod ({ cls := "ThinRowModel", name := "valueOf", desc := "(II)I" } : Jvm.MethodName)) ∈ xWall := xt6 96 rfl rfl
theorem w_1297 : (Jvm.Cond.code ({ cls := "ThinRowModel", name := "valueOf", desc := "(II)I" } : Jvm.MethodName) prog_14_method_61_code (6 : Nat) (Option.some Jvm.ClassFile.FieldType.int)) ∈ xWall := xt6 97 rfl rfl
theorem w_1298 : (Jvm.Cond.methodLink "ThinRowModel" (235 : Nat) ({ cls := "ThinRowModel", name := "bandOf", desc := "(I)I" } : Jvm.MethodName)) ∈ xWall := xt6 98 rfl rfl
theorem w_1300 : (Jvm.Cond.instanceMethod ({ cls := "ThinRowModel", name := "bandOf", desc := "(I)I" } : Jvm.MethodName)) ∈ xWall := xt6 100 rfl rfl
theorem w_1301 : (Jvm.Cond.code ({ cls := "ThinRowModel", name := "bandOf", desc := "(I)I" } : Jvm.MethodName) prog_14_method_60_code (5 : Nat) (Option.some Jvm.ClassFile.FieldType.int)) ∈ xWall := xt6 101 rfl rfl
theorem w_1302 : (Jvm.Cond.methodLink "ThinRowModel" (238 : Nat) ({ cls := "ThinRowModel", name := "cost", desc := "(IIII)I" } : Jvm.MethodName)) ∈ xWall := xt6 102 rfl rfl
theorem w_1304 : (Jvm.Cond.instanceMethod ({ cls := "ThinRowModel", name := "cost", desc := "(IIII)I" } : Jvm.MethodName)) ∈ xWall := xt6 104 rfl rfl
theorem w_1305 : (Jvm.Cond.code ({ cls := "ThinRowModel", name := "cost", desc := "(IIII)I" } : Jvm.MethodName) prog_14_method_57_code (6 : Nat) (Option.some Jvm.ClassFile.FieldType.int)) ∈ xWall := xt6 105 rfl rfl
theorem w_1306 : (Jvm.Cond.methodLink "ThinRowModel" (223 : Nat) ({ cls := "ThinRowModel", name := "neighbours", desc := "(III)I" } : Jvm.MethodName)) ∈ xWall := xt6 106 rfl rfl
theorem w_1308 : (Jvm.Cond.instanceMethod ({ cls := "ThinRowModel", name := "neighbours", desc := "(III)I" } : Jvm.MethodName)) ∈ xWall := xt6 108 rfl rfl
theorem w_1309 : (Jvm.Cond.code ({ cls := "ThinRowModel", name := "neighbours", desc := "(III)I" } : Jvm.MethodName) prog_14_method_53_code (7 : Nat) (Option.some Jvm.ClassFile.FieldType.int)) ∈ xWall := xt6 109 rfl rfl
theorem w_1310 : (Jvm.Cond.methodLink "ThinRowModel" (226 : Nat) ({ cls := "ThinRowModel", name := "fillOf", desc := "(III)I" } : Jvm.MethodName)) ∈ xWall := xt6 110 rfl rfl
theorem w_1312 : (Jvm.Cond.instanceMethod ({ cls := "ThinRowModel", name := "fillOf", desc := "(III)I" } : Jvm.MethodName)) ∈ xWall := xt6 112 rfl rfl
theorem w_1313 : (Jvm.Cond.code ({ cls := "ThinRowModel", name := "fillOf", desc := "(III)I" } : Jvm.MethodName) prog_14_method_54_code (7 : Nat) (Option.some Jvm.ClassFile.FieldType.int)) ∈ xWall := xt6 113 rfl rfl
theorem w_1314 : (Jvm.Cond.methodLink "ThinRowModel" (229 : Nat) ({ cls := "ThinRowModel", name := "splitOf", desc := "(III)I" } : Jvm.MethodName)) ∈ xWall := xt6 114 rfl rfl
theorem w_1316 : (Jvm.Cond.instanceMethod ({ cls := "ThinRowModel", name := "splitOf", desc := "(III)I" } : Jvm.MethodName)) ∈ xWall := xt6 116 rfl rfl
theorem w_1317 : (Jvm.Cond.code ({ cls := "ThinRowModel", name := "splitOf", desc := "(III)I" } : Jvm.MethodName) prog_14_method_52_code (8 : Nat) (Option.some Jvm.ClassFile.FieldType.int)) ∈ xWall := xt6 117 rfl rfl
theorem w_1318 : (Jvm.Cond.methodLink "ThinRowModel" (242 : Nat) ({ cls := "ThinRowModel", name := "both", desc := "(III)I" } : Jvm.MethodName)) ∈ xWall := xt6 118 rfl rfl
theorem w_1319 : (Jvm.Cond.static ({ cls := "ThinRowModel", name := "both", desc := "(III)I" } : Jvm.MethodName)) ∈ xWall := xt6 119 rfl rfl
theorem w_1320 : (Jvm.Cond.code ({ cls := "ThinRowModel", name := "both", desc := "(III)I" } : Jvm.MethodName) prog_14_method_58_code (3 : Nat) (Option.some Jvm.ClassFile.FieldType.int)) ∈ xWall := xt6 120 rfl rfl
theorem w_1321 : (Jvm.Cond.methodLink "ThinRowModel" (232 : Nat) ({ cls := "ThinRowModel", name := "isGreatest", desc := "(I)Z" } : Jvm.MethodName)) ∈ xWall := xt6 121 rfl rfl
theorem w_1322 : (Jvm.Cond.static ({ cls := "ThinRowModel", name := "isGreatest", desc := "(I)Z" } : Jvm.MethodName)) ∈ xWall := xt6 122 rfl rfl
theorem w_1323 : (Jvm.Cond.code ({ cls := "ThinRowModel", name := "isGreatest", desc := "(I)Z" } : Jvm.MethodName) prog_14_method_56_code (1 : Nat) (Option.some Jvm.ClassFile.FieldType.boolean)) ∈ xWall := xt6 123 rfl rfl
theorem w_1324 : (Jvm.Cond.methodLink "ThinRowLaw" (68 : Nat) ({ cls := "ThinRowModel", name := "price", desc := "(III)I" } : Jvm.MethodName)) ∈ xWall := xt6 124 rfl rfl
theorem w_1325 : (Jvm.Cond.instanceMethod ({ cls := "ThinRowModel", name := "price", desc := "(III)I" } : Jvm.MethodName)) ∈ xWall := xt6 125 rfl rfl
theorem w_1326 : (Jvm.Cond.selects "ThinRowModel" ({ cls := "ThinRowModel", name := "price", desc := "(III)I" } : Jvm.MethodName) ({ cls := "ThinRowModel", name := "price", desc := "(III)I" } : Jvm.MethodName)) ∈ xWall := xt6 126 rfl rfl
theorem w_1327 : (Jvm.Cond.code ({ cls := "ThinRowModel", name := "price", desc := "(III)I" } : Jvm.MethodName) prog_14_method_65_code (4 : Nat) (Option.some Jvm.ClassFile.FieldType.int)) ∈ xWall := xt6 127 rfl rfl
theorem w_1328 : (Jvm.Cond.methodLink "ThinRowModel" (254 : Nat) ({ cls := "ThinRowModel", name := "isTakenOut", desc := "(I)Z" } : Jvm.MethodName)) ∈ xWall := xt6 128 rfl rfl
theorem w_1329 : (Jvm.Cond.static ({ cls := "ThinRowModel", name := "isTakenOut", desc := "(I)Z" } : Jvm.MethodName)) ∈ xWall := xt6 129 rfl rfl
theorem w_1330 : (Jvm.Cond.code ({ cls := "ThinRowModel", name := "isTakenOut", desc := "(I)Z" } : Jvm.MethodName) prog_14_method_55_code (1 : Nat) (Option.some Jvm.ClassFile.FieldType.boolean)) ∈ xWall := xt6 130 rfl rfl
theorem w_1331 : (Jvm.Cond.methodLink "ThinRowModel" (260 : Nat) ({ cls := "ThinRowModel", name := "priceOf", desc := "(III)I" } : Jvm.MethodName)) ∈ xWall := xt6 131 rfl rfl
theorem w_1333 : (Jvm.Cond.instanceMethod ({ cls := "ThinRowModel", name := "priceOf", desc := "(III)I" } : Jvm.MethodName)) ∈ xWall := xt6 133 rfl rfl
theorem w_1334 : (Jvm.Cond.code ({ cls := "ThinRowModel", name := "priceOf", desc := "(III)I" } : Jvm.MethodName) prog_14_method_64_code (4 : Nat) (Option.some Jvm.ClassFile.FieldType.int)) ∈ xWall := xt6 134 rfl rfl
theorem w_1335 : (Jvm.Cond.methodLink "ThinRowModel" (257 : Nat) ({ cls := "ThinRowModel", name := "aheadOf", desc := "(II)I" } : Jvm.MethodName)) ∈ xWall := xt6 135 rfl rfl
theorem w_1337 : (Jvm.Cond.instanceMethod ({ cls := "ThinRowModel", name := "aheadOf", desc := "(II)I" } : Jvm.MethodName)) ∈ xWall := xt6 137 rfl rfl
theorem w_1338 : (Jvm.Cond.code ({ cls := "ThinRowModel", name := "aheadOf", desc := "(II)I" } : Jvm.MethodName) prog_14_method_63_code (5 : Nat) (Option.some Jvm.ClassFile.FieldType.int)) ∈ xWall := xt6 138 rfl rfl
theorem w_1339 : (Jvm.Cond.methodLink "ThinRowLaw" (72 : Nat) ({ cls := "ThinRowModel", name := "worst", desc := "(II)I" } : Jvm.MethodName)) ∈ xWall := xt6 139 rfl rfl
theorem w_1340 : (Jvm.Cond.instanceMethod ({ cls := "ThinRowModel", name := "worst", desc := "(II)I" } : Jvm.MethodName)) ∈ xWall := xt6 140 rfl rfl
theorem w_1341 : (Jvm.Cond.selects "ThinRowModel" ({ cls := "ThinRowModel", name := "worst", desc := "(II)I" } : Jvm.MethodName) ({ cls := "ThinRowModel", name := "worst", desc := "(II)I" } : Jvm.MethodName)) ∈ xWall := xt6 141 rfl rfl
theorem w_1342 : (Jvm.Cond.code ({ cls := "ThinRowModel", name := "worst", desc := "(II)I" } : Jvm.MethodName) prog_14_method_66_code (5 : Nat) (Option.some Jvm.ClassFile.FieldType.int)) ∈ xWall := xt6 142 rfl rfl
theorem w_1343 : (Jvm.Cond.methodLink "ThinRowLaw" (76 : Nat) ({ cls := "ThinRowModel", name := "longest", desc := "(I)I" } : Jvm.MethodName)) ∈ xWall := xt6 143 rfl rfl
theorem w_1344 : (Jvm.Cond.instanceMethod ({ cls := "ThinRowModel", name := "longest", desc := "(I)I" } : Jvm.MethodName)) ∈ xWall := xt6 144 rfl rfl
theorem w_1345 : (Jvm.Cond.selects "ThinRowModel" ({ cls := "ThinRowModel", name := "longest", desc := "(I)I" } : Jvm.MethodName) ({ cls := "ThinRowModel", name := "longest", desc := "(I)I" } : Jvm.MethodName)) ∈ xWall := xt6 145 rfl rfl
theorem w_1346 : (Jvm.Cond.code ({ cls := "ThinRowModel", name := "longest", desc := "(I)I" } : Jvm.MethodName) prog_14_method_67_code (7 : Nat) (Option.some Jvm.ClassFile.FieldType.int)) ∈ xWall := xt6 146 rfl rfl
theorem w_1347 : (Jvm.Cond.methodLink "ThinRowModel" (263 : Nat) ({ cls := "java/lang/Math", name := "abs", desc := "(I)I" } : Jvm.MethodName)) ∈ xWall := xt6 147 rfl rfl
theorem w_1348 : (Jvm.Cond.methodLink "ThinRowLaw" (80 : Nat) ({ cls := "ThinRowModel", name := "least", desc := "(II)I" } : Jvm.MethodName)) ∈ xWall := xt6 148 rfl rfl
theorem w_1349 : (Jvm.Cond.instanceMethod ({ cls := "ThinRowModel", name := "least", desc := "(II)I" } : Jvm.MethodName)) ∈ xWall := xt6 149 rfl rfl
theorem w_1350 : (Jvm.Cond.selects "ThinRowModel" ({ cls := "ThinRowModel", name := "least", desc := "(II)I" } : Jvm.MethodName) ({ cls := "ThinRowModel", name := "least", desc := "(II)I" } : Jvm.MethodName)) ∈ xWall := xt6 150 rfl rfl
theorem w_1351 : (Jvm.Cond.code ({ cls := "ThinRowModel", name := "least", desc := "(II)I" } : Jvm.MethodName) prog_14_method_74_code (3 : Nat) (Option.some Jvm.ClassFile.FieldType.int)) ∈ xWall := xt6 151 rfl rfl
theorem w_1352 : (Jvm.Cond.methodLink "ThinRowModel" (277 : Nat) ({ cls := "ThinRowModel", name := "leastBand", desc := "(I)I" } : Jvm.MethodName)) ∈ xWall := xt6 152 rfl rfl
theorem w_1354 : (Jvm.Cond.instanceMethod ({ cls := "ThinRowModel", name := "leastBand", desc := "(I)I" } : Jvm.MethodName)) ∈ xWall := xt6 154 rfl rfl
theorem w_1355 : (Jvm.Cond.code ({ cls := "ThinRowModel", name := "leastBand", desc := "(I)I" } : Jvm.MethodName) prog_14_method_77_code (3 : Nat) (Option.some Jvm.ClassFile.FieldType.int)) ∈ xWall := xt6 155 rfl rfl
theorem w_1356 : (Jvm.Cond.methodLink "ThinRowModel" (293 : Nat) ({ cls := "ThinRowModel", name := "rowsOfBand", desc := "(IIZ)I" } : Jvm.MethodName)) ∈ xWall := xt6 156 rfl rfl
theorem w_1358 : (Jvm.Cond.instanceMethod ({ cls := "ThinRowModel", name := "rowsOfBand", desc := "(IIZ)I" } : Jvm.MethodName)) ∈ xWall := xt6 158 rfl rfl
theorem w_1359 : (Jvm.Cond.code ({ cls := "ThinRowModel", name := "rowsOfBand", desc := "(IIZ)I" } : Jvm.MethodName) prog_14_method_76_code (5 : Nat) (Option.some Jvm.ClassFile.FieldType.int)) ∈ xWall := xt6 159 rfl rfl
theorem w_1360 : (Jvm.Cond.methodLink "ThinRowModel" (289 : Nat) ({ cls := "ThinRowModel", name := "goesBand", desc := "(IIIIZ)Z" } : Jvm.MethodName)) ∈ xWall := xt6 160 rfl rfl
theorem w_1362 : (Jvm.Cond.instanceMethod ({ cls := "ThinRowModel", name := "goesBand", desc := "(IIIIZ)Z" } : Jvm.MethodName)) ∈ xWall := xt6 162 rfl rfl
theorem w_1363 : (Jvm.Cond.code ({ cls := "ThinRowModel", name := "goesBand", desc := "(IIIIZ)Z" } : Jvm.MethodName) prog_14_method_75_code (9 : Nat) (Option.some Jvm.ClassFile.FieldType.boolean)) ∈ xWall := xt6 163 rfl rfl
theorem w_1364 : (Jvm.Cond.methodLink "ThinRowModel" (280 : Nat) ({ cls := "ThinRowModel", name := "laysLeast", desc := "(II)V" } : Jvm.MethodName)) ∈ xWall := xt6 164 rfl rfl
theorem w_1366 : (Jvm.Cond.instanceMethod ({ cls := "ThinRowModel", name := "laysLeast", desc := "(II)V" } : Jvm.MethodName)) ∈ xWall := xt6 166 rfl rfl
theorem w_1367 : (Jvm.Cond.code ({ cls := "ThinRowModel", name := "laysLeast", desc := "(II)V" } : Jvm.MethodName) prog_14_method_70_code (3 : Nat) (Option.none : Option Jvm.ClassFile.FieldType)) ∈ xWall := xt6 167 rfl rfl
theorem w_1368 : (Jvm.Cond.methodLink "ThinRowModel" (270 : Nat) ({ cls := "ThinRowModel", name := "laysCosts", desc := "(II)V" } : Jvm.MethodName)) ∈ xWall := xt6 168 rfl rfl
theorem w_1370 : (Jvm.Cond.instanceMethod ({ cls := "ThinRowModel", name := "laysCosts", desc := "(II)V" } : Jvm.MethodName)) ∈ xWall := xt6 170 rfl rfl
theorem w_1371 : (Jvm.Cond.code ({ cls := "ThinRowModel", name := "laysCosts", desc := "(II)V" } : Jvm.MethodName) prog_14_method_68_code (5 : Nat) (Option.none : Option Jvm.ClassFile.FieldType)) ∈ xWall := xt6 171 rfl rfl
theorem w_1372 : (Jvm.Cond.constant "ThinRowModel" (269 : Nat) (1000000 : Int32)) ∈ xWall := xt6 172 rfl rfl
theorem w_1373 : (Jvm.Cond.methodLink "ThinRowModel" (274 : Nat) ({ cls := "ThinRowModel", name := "laysRest", desc := "(II)V" } : Jvm.MethodName)) ∈ xWall := xt6 173 rfl rfl
theorem w_1375 : (Jvm.Cond.instanceMethod ({ cls := "ThinRowModel", name := "laysRest", desc := "(II)V" } : Jvm.MethodName)) ∈ xWall := xt6 175 rfl rfl
theorem w_1376 : (Jvm.Cond.code ({ cls := "ThinRowModel", name := "laysRest", desc := "(II)V" } : Jvm.MethodName) prog_14_method_69_code (6 : Nat) (Option.none : Option Jvm.ClassFile.FieldType)) ∈ xWall := xt6 176 rfl rfl
theorem w_1377 : (Jvm.Cond.methodLink "ThinRowLaw" (84 : Nat) ({ cls := "ThinRowModel", name := "best", desc := "(III)I" } : Jvm.MethodName)) ∈ xWall := xt6 177 rfl rfl
theorem w_1378 : (Jvm.Cond.instanceMethod ({ cls := "ThinRowModel", name := "best", desc := "(III)I" } : Jvm.MethodName)) ∈ xWall := xt6 178 rfl rfl
theorem w_1379 : (Jvm.Cond.selects "ThinRowModel" ({ cls := "ThinRowModel", name := "best", desc := "(III)I" } : Jvm.MethodName) ({ cls := "ThinRowModel", name := "best", desc := "(III)I" } : Jvm.MethodName)) ∈ xWall := xt6 179 rfl rfl
theorem w_1380 : (Jvm.Cond.code ({ cls := "ThinRowModel", name := "best", desc := "(III)I" } : Jvm.MethodName) prog_14_method_79_code (4 : Nat) (Option.some Jvm.ClassFile.FieldType.int)) ∈ xWall := xt6 180 rfl rfl
theorem w_1381 : (Jvm.Cond.methodLink "ThinRowModel" (301 : Nat) ({ cls := "ThinRowModel", name := "laysBest", desc := "(II)V" } : Jvm.MethodName)) ∈ xWall := xt6 181 rfl rfl
theorem w_1383 : (Jvm.Cond.instanceMethod ({ cls := "ThinRowModel", name := "laysBest", desc := "(II)V" } : Jvm.MethodName)) ∈ xWall := xt6 183 rfl rfl
theorem w_1384 : (Jvm.Cond.code ({ cls := "ThinRowModel", name := "laysBest", desc := "(II)V" } : Jvm.MethodName) prog_14_method_78_code (7 : Nat) (Option.none : Option Jvm.ClassFile.FieldType)) ∈ xWall := xt6 184 rfl rfl
theorem w_1385 : (Jvm.Cond.methodLink "ThinRowModel" (297 : Nat) ({ cls := "ThinRowModel", name := "keepsLeast", desc := "(IIII)Z" } : Jvm.MethodName)) ∈ xWall := xt6 185 rfl rfl
theorem w_1387 : (Jvm.Cond.instanceMethod ({ cls := "ThinRowModel", name := "keepsLeast", desc := "(IIII)Z" } : Jvm.MethodName)) ∈ xWall := xt6 187 rfl rfl
theorem w_1388 : (Jvm.Cond.code ({ cls := "ThinRowModel", name := "keepsLeast", desc := "(IIII)Z" } : Jvm.MethodName) prog_14_method_73_code (5 : Nat) (Option.some Jvm.ClassFile.FieldType.boolean)) ∈ xWall := xt6 188 rfl rfl
theorem w_1389 : (Jvm.Cond.methodLink "ThinRowLaw" (88 : Nat) ({ cls := "ThinRowModel", name := "ways", desc := "(II)I" } : Jvm.MethodName)) ∈ xWall := xt6 189 rfl rfl
theorem w_1390 : (Jvm.Cond.instanceMethod ({ cls := "ThinRowModel", name := "ways", desc := "(II)I" } : Jvm.MethodName)) ∈ xWall := xt6 190 rfl rfl
theorem w_1391 : (Jvm.Cond.selects "ThinRowModel" ({ cls := "ThinRowModel", name := "ways", desc := "(II)I" } : Jvm.MethodName) ({ cls := "ThinRowModel", name := "ways", desc := "(II)I" } : Jvm.MethodName)) ∈ xWall := xt6 191 rfl rfl
theorem w_1392 : (Jvm.Cond.code ({ cls := "ThinRowModel", name := "ways", desc := "(II)I" } : Jvm.MethodName) prog_14_method_80_code (3 : Nat) (Option.some Jvm.ClassFile.FieldType.int)) ∈ xWall := xt6 192 rfl rfl
theorem w_1393 : (Jvm.Cond.methodLink "ThinRowModel" (304 : Nat) ({ cls := "ThinRowModel", name := "rowsWithin", desc := "(II)I" } : Jvm.MethodName)) ∈ xWall := xt6 193 rfl rfl
theorem w_1395 : (Jvm.Cond.instanceMethod ({ cls := "ThinRowModel", name := "rowsWithin", desc := "(II)I" } : Jvm.MethodName)) ∈ xWall := xt6 195 rfl rfl
theorem w_1396 : (Jvm.Cond.code ({ cls := "ThinRowModel", name := "rowsWithin", desc := "(II)I" } : Jvm.MethodName) prog_14_method_71_code (5 : Nat) (Option.some Jvm.ClassFile.FieldType.int)) ∈ xWall := xt6 196 rfl rfl
theorem w_1397 : (Jvm.Cond.methodLink "ThinRowModel" (307 : Nat) ({ cls := "ThinRowModel", name := "rowsOfLeast", desc := "(I)I" } : Jvm.MethodName)) ∈ xWall := xt6 197 rfl rfl
theorem w_1399 : (Jvm.Cond.instanceMethod ({ cls := "ThinRowModel", name := "rowsOfLeast", desc := "(I)I" } : Jvm.MethodName)) ∈ xWall := xt6 199 rfl rfl
theorem w_1400 : (Jvm.Cond.code ({ cls := "ThinRowModel", name := "rowsOfLeast", desc := "(I)I" } : Jvm.MethodName) prog_14_method_72_code (4 : Nat) (Option.some Jvm.ClassFile.FieldType.int)) ∈ xWall := xt6 200 rfl rfl
theorem w_1401 : (Jvm.Cond.methodLink "ThinRowLaw" (92 : Nat) ({ cls := "ThinRowModel", name := "within", desc := "(III)I" } : Jvm.MethodName)) ∈ xWall := xt6 201 rfl rfl
theorem w_1402 : (Jvm.Cond.instanceMethod ({ cls := "ThinRowModel", name := "within", desc := "(III)I" } : Jvm.MethodName)) ∈ xWall := xt6 202 rfl rfl
theorem w_1403 : (Jvm.Cond.selects "ThinRowModel" ({ cls := "ThinRowModel", name := "within", desc := "(III)I" } : Jvm.MethodName) ({ cls := "ThinRowModel", name := "within", desc := "(III)I" } : Jvm.MethodName)) ∈ xWall := xt6 203 rfl rfl
theorem w_1404 : (Jvm.Cond.code ({ cls := "ThinRowModel", name := "within", desc := "(III)I" } : Jvm.MethodName) prog_14_method_81_code (4 : Nat) (Option.some Jvm.ClassFile.FieldType.int)) ∈ xWall := xt6 204 rfl rfl
theorem w_1405 : (Jvm.Cond.constant "ThinRowModel" (310 : Nat) (999999 : Int32)) ∈ xWall := xt6 205 rfl rfl
theorem w_1406 : (Jvm.Cond.methodLink "ThinRowLaw" (96 : Nat) ({ cls := "ThinRowModel", name := "firsts", desc := "(II)I" } : Jvm.MethodName)) ∈ xWall := xt6 206 rfl rfl
theorem w_1407 : (Jvm.Cond.instanceMethod ({ cls := "ThinRowModel", name := "firsts", desc := "(II)I" } : Jvm.MethodName)) ∈ xWall := xt6 207 rfl rfl
theorem w_1408 : (Jvm.Cond.selects "ThinRowModel" ({ cls := "ThinRowModel", name := "firsts", desc := "(II)I" } : Jvm.MethodName) ({ cls := "ThinRowModel", name := "firsts", desc := "(II)I" } : Jvm.MethodName)) ∈ xWall := xt6 208 rfl rfl
theorem w_1409 : (Jvm.Cond.code ({ cls := "ThinRowModel", name := "firsts", desc := "(II)I" } : Jvm.MethodName) prog_14_method_82_code (5 : Nat) (Option.some Jvm.ClassFile.FieldType.int)) ∈ xWall := xt6 209 rfl rfl
theorem w_1410 : (Jvm.Cond.methodLink "ThinRowLaw" (108 : Nat) ({ cls := "ThinRowModel", name := "among", desc := "(III)I" } : Jvm.MethodName)) ∈ xWall := xt6 210 rfl rfl
theorem w_1411 : (Jvm.Cond.instanceMethod ({ cls := "ThinRowModel", name := "among", desc := "(III)I" } : Jvm.MethodName)) ∈ xWall := xt6 211 rfl rfl
theorem w_1412 : (Jvm.Cond.selects "ThinRowModel" ({ cls := "ThinRowModel", name := "among", desc := "(III)I" } : Jvm.MethodName) ({ cls := "ThinRowModel", name := "among", desc := "(III)I" } : Jvm.MethodName)) ∈ xWall := xt6 212 rfl rfl
theorem w_1413 : (Jvm.Cond.code ({ cls := "ThinRowModel", name := "among", desc := "(III)I" } : Jvm.MethodName) prog_14_method_83_code (8 : Nat) (Option.some Jvm.ClassFile.FieldType.int)) ∈ xWall := xt6 213 rfl rfl
theorem w_1414 : (Jvm.Cond.methodLink "ThinRowLaw" (100 : Nat) ({ cls := "ThinRowModel", name := "bound", desc := "(III)I" } : Jvm.MethodName)) ∈ xWall := xt6 214 rfl rfl
theorem w_1415 : (Jvm.Cond.instanceMethod ({ cls := "ThinRowModel", name := "bound", desc := "(III)I" } : Jvm.MethodName)) ∈ xWall := xt6 215 rfl rfl
theorem w_1416 : (Jvm.Cond.selects "ThinRowModel" ({ cls := "ThinRowModel", name := "bound", desc := "(III)I" } : Jvm.MethodName) ({ cls := "ThinRowModel", name := "bound", desc := "(III)I" } : Jvm.MethodName)) ∈ xWall := xt6 216 rfl rfl
theorem w_1417 : (Jvm.Cond.code ({ cls := "ThinRowModel", name := "bound", desc := "(III)I" } : Jvm.MethodName) prog_14_method_85_code (6 : Nat) (Option.some Jvm.ClassFile.FieldType.int)) ∈ xWall := xt6 217 rfl rfl
theorem w_1418 : (Jvm.Cond.methodLink "ThinRowModel" (311 : Nat) ({ cls := "ThinRowModel", name := "balls", desc := "(I)I" } : Jvm.MethodName)) ∈ xWall := xt6 218 rfl rfl
theorem w_1420 : (Jvm.Cond.instanceMethod ({ cls := "ThinRowModel", name := "balls", desc := "(I)I" } : Jvm.MethodName)) ∈ xWall := xt6 220 rfl rfl
theorem w_1421 : (Jvm.Cond.code ({ cls := "ThinRowModel", name := "balls", desc := "(I)I" } : Jvm.MethodName) prog_14_method_84_code (7 : Nat) (Option.some Jvm.ClassFile.FieldType.int)) ∈ xWall := xt6 221 rfl rfl
theorem w_1422 : (Jvm.Cond.methodLink "ThinRowLaw" (104 : Nat) ({ cls := "ThinRowModel", name := "minor", desc := "(I)I" } : Jvm.MethodName)) ∈ xWall := xt6 222 rfl rfl
theorem w_1423 : (Jvm.Cond.instanceMethod ({ cls := "ThinRowModel", name := "minor", desc := "(I)I" } : Jvm.MethodName)) ∈ xWall := xt6 223 rfl rfl
theorem w_1424 : (Jvm.Cond.selects "ThinRowModel" ({ cls := "ThinRowModel", name := "minor", desc := "(I)I" } : Jvm.MethodName) ({ cls := "ThinRowModel", name := "minor", desc := "(I)I" } : Jvm.MethodName)) ∈ xWall := xt6 224 rfl rfl
theorem w_1425 : (Jvm.Cond.code ({ cls := "ThinRowModel", name := "minor", desc := "(I)I" } : Jvm.MethodName) prog_14_method_87_code (8 : Nat) (Option.some Jvm.ClassFile.FieldType.int)) ∈ xWall := xt6 225 rfl rfl
theorem w_1426 : (Jvm.Cond.methodLink "ThinRowModel" (314 : Nat) ({ cls := "ThinRowModel", name := "fewestOf", desc := "(I)I" } : Jvm.MethodName)) ∈ xWall := xt6 226 rfl rfl
theorem w_1428 : (Jvm.Cond.instanceMethod ({ cls := "ThinRowModel", name := "fewestOf", desc := "(I)I" } : Jvm.MethodName)) ∈ xWall := xt6 228 rfl rfl
theorem w_1429 : (Jvm.Cond.code ({ cls := "ThinRowModel", name := "fewestOf", desc := "(I)I" } : Jvm.MethodName) prog_14_method_86_code (4 : Nat) (Option.some Jvm.ClassFile.FieldType.int)) ∈ xWall := xt6 229 rfl rfl
theorem w_1430 : (Jvm.Cond.methodLink "ThinRowLaw" (112 : Nat) ({ cls := "ThinRowModel", name := "split", desc := "(III)I" } : Jvm.MethodName)) ∈ xWall := xt6 230 rfl rfl
theorem w_1431 : (Jvm.Cond.instanceMethod ({ cls := "ThinRowModel", name := "split", desc := "(III)I" } : Jvm.MethodName)) ∈ xWall := xt6 231 rfl rfl
theorem w_1432 : (Jvm.Cond.selects "ThinRowModel" ({ cls := "ThinRowModel", name := "split", desc := "(III)I" } : Jvm.MethodName) ({ cls := "ThinRowModel", name := "split", desc := "(III)I" } : Jvm.MethodName)) ∈ xWall := xt6 232 rfl rfl
theorem w_1433 : (Jvm.Cond.code ({ cls := "ThinRowModel", name := "split", desc := "(III)I" } : Jvm.MethodName) prog_14_method_88_code (4 : Nat) (Option.some Jvm.ClassFile.FieldType.int)) ∈ xWall := xt6 233 rfl rfl
theorem w_1434 : (Jvm.Cond.methodLink "ThinRowLaw" (116 : Nat) ({ cls := "ThinRowModel", name := "halve", desc := "(I)I" } : Jvm.MethodName)) ∈ xWall := xt6 234 rfl rfl
theorem w_1435 : (Jvm.Cond.instanceMethod ({ cls := "ThinRowModel", name := "halve", desc := "(I)I" } : Jvm.MethodName)) ∈ xWall := xt6 235 rfl rfl
theorem w_1436 : (Jvm.Cond.selects "ThinRowModel" ({ cls := "ThinRowModel", name := "halve", desc := "(I)I" } : Jvm.MethodName) ({ cls := "ThinRowModel", name := "halve", desc := "(I)I" } : Jvm.MethodName)) ∈ xWall := xt6 236 rfl rfl
theorem w_1437 : (Jvm.Cond.code ({ cls := "ThinRowModel", name := "halve", desc := "(I)I" } : Jvm.MethodName) prog_14_method_89_code (4 : Nat) (Option.some Jvm.ClassFile.FieldType.int)) ∈ xWall := xt6 237 rfl rfl
theorem w_1438 : (Jvm.Cond.methodLink "ThinRowLaw" (120 : Nat) ({ cls := "ThinRowModel", name := "bag", desc := "(III)I" } : Jvm.MethodName)) ∈ xWall := xt6 238 rfl rfl
theorem w_1439 : (Jvm.Cond.instanceMethod ({ cls := "ThinRowModel", name := "bag", desc := "(III)I" } : Jvm.MethodName)) ∈ xWall := xt6 239 rfl rfl
theorem w_1440 : (Jvm.Cond.selects "ThinRowModel" ({ cls := "ThinRowModel", name := "bag", desc := "(III)I" } : Jvm.MethodName) ({ cls := "ThinRowModel", name := "bag", desc := "(III)I" } : Jvm.MethodName)) ∈ xWall := xt7 0 rfl rfl
theorem w_1441 : (Jvm.Cond.code ({ cls := "ThinRowModel", name := "bag", desc := "(III)I" } : Jvm.MethodName) prog_14_method_90_code (8 : Nat) (Option.some Jvm.ClassFile.FieldType.int)) ∈ xWall := xt7 1 rfl rfl
theorem w_1442 : (Jvm.Cond.methodLink "ThinRowLaw" (124 : Nat) ({ cls := "ThinRowModel", name := "filled", desc := "(II)I" } : Jvm.MethodName)) ∈ xWall := xt7 2 rfl rfl
theorem w_1443 : (Jvm.Cond.instanceMethod ({ cls := "ThinRowModel", name := "filled", desc := "(II)I" } : Jvm.MethodName)) ∈ xWall := xt7 3 rfl rfl
theorem w_1444 : (Jvm.Cond.selects "ThinRowModel" ({ cls := "ThinRowModel", name := "filled", desc := "(II)I" } : Jvm.MethodName) ({ cls := "ThinRowModel", name := "filled", desc := "(II)I" } : Jvm.MethodName)) ∈ xWall := xt7 4 rfl rfl
theorem w_1445 : (Jvm.Cond.code ({ cls := "ThinRowModel", name := "filled", desc := "(II)I" } : Jvm.MethodName) prog_14_method_91_code (9 : Nat) (Option.some Jvm.ClassFile.FieldType.int)) ∈ xWall := xt7 5 rfl rfl
theorem w_1446 : (Jvm.Cond.methodLink "ThinRowLaw" (129 : Nat) ({ cls := "ThinRowModel", name := "gain", desc := "(IIII)I" } : Jvm.MethodName)) ∈ xWall := xt7 6 rfl rfl
theorem w_1447 : (Jvm.Cond.instanceMethod ({ cls := "ThinRowModel", name := "gain", desc := "(IIII)I" } : Jvm.MethodName)) ∈ xWall := xt7 7 rfl rfl
theorem w_1448 : (Jvm.Cond.selects "ThinRowModel" ({ cls := "ThinRowModel", name := "gain", desc := "(IIII)I" } : Jvm.MethodName) ({ cls := "ThinRowModel", name := "gain", desc := "(IIII)I" } : Jvm.MethodName)) ∈ xWall := xt7 8 rfl rfl
theorem w_1449 : (Jvm.Cond.code ({ cls := "ThinRowModel", name := "gain", desc := "(IIII)I" } : Jvm.MethodName) prog_14_method_93_code (6 : Nat) (Option.some Jvm.ClassFile.FieldType.int)) ∈ xWall := xt7 9 rfl rfl
theorem w_1450 : (Jvm.Cond.methodLink "ThinRowModel" (317 : Nat) ({ cls := "ThinRowModel", name := "exchanges", desc := "(II)V" } : Jvm.MethodName)) ∈ xWall := xt7 10 rfl rfl
theorem w_1452 : (Jvm.Cond.instanceMethod ({ cls := "ThinRowModel", name := "exchanges", desc := "(II)V" } : Jvm.MethodName)) ∈ xWall := xt7 12 rfl rfl
theorem w_1453 : (Jvm.Cond.code ({ cls := "ThinRowModel", name := "exchanges", desc := "(II)V" } : Jvm.MethodName) prog_14_method_92_code (4 : Nat) (Option.none : Option Jvm.ClassFile.FieldType)) ∈ xWall := xt7 13 rfl rfl
theorem w_1454 : (Jvm.Cond.methodLink "ThinRowLaw" (133 : Nat) ({ cls := "ThinRowModel", name := "swaps", desc := "(III)I" } : Jvm.MethodName)) ∈ xWall := xt7 14 rfl rfl
theorem w_1455 : (Jvm.Cond.instanceMethod ({ cls := "ThinRowModel", name := "swaps", desc := "(III)I" } : Jvm.MethodName)) ∈ xWall := xt7 15 rfl rfl
theorem w_1456 : (Jvm.Cond.selects "ThinRowModel" ({ cls := "ThinRowModel", name := "swaps", desc := "(III)I" } : Jvm.MethodName) ({ cls := "ThinRowModel", name := "swaps", desc := "(III)I" } : Jvm.MethodName)) ∈ xWall := xt7 16 rfl rfl
theorem w_1457 : (Jvm.Cond.code ({ cls := "ThinRowModel", name := "swaps", desc := "(III)I" } : Jvm.MethodName) prog_14_method_95_code (6 : Nat) (Option.some Jvm.ClassFile.FieldType.int)) ∈ xWall := xt7 17 rfl rfl
theorem w_1458 : (Jvm.Cond.methodLink "ThinRowModel" (320 : Nat) ({ cls := "ThinRowModel", name := "takesRow", desc := "(I)I" } : Jvm.MethodName)) ∈ xWall := xt7 18 rfl rfl
theorem w_1460 : (Jvm.Cond.instanceMethod ({ cls := "ThinRowModel", name := "takesRow", desc := "(I)I" } : Jvm.MethodName)) ∈ xWall := xt7 20 rfl rfl
theorem w_1461 : (Jvm.Cond.code ({ cls := "ThinRowModel", name := "takesRow", desc := "(I)I" } : Jvm.MethodName) prog_14_method_94_code (4 : Nat) (Option.some Jvm.ClassFile.FieldType.int)) ∈ xWall := xt7 21 rfl rfl
theorem w_1462 : (Jvm.Cond.methodLink "ThinRowLaw" (137 : Nat) ({ cls := "ThinRowModel", name := "moves", desc := "(III)I" } : Jvm.MethodName)) ∈ xWall := xt7 22 rfl rfl
theorem w_1463 : (Jvm.Cond.instanceMethod ({ cls := "ThinRowModel", name := "moves", desc := "(III)I" } : Jvm.MethodName)) ∈ xWall := xt7 23 rfl rfl
theorem w_1464 : (Jvm.Cond.selects "ThinRowModel" ({ cls := "ThinRowModel", name := "moves", desc := "(III)I" } : Jvm.MethodName) ({ cls := "ThinRowModel", name := "moves", desc := "(III)I" } : Jvm.MethodName)) ∈ xWall := xt7 24 rfl rfl
theorem w_1465 : (Jvm.Cond.code ({ cls := "ThinRowModel", name := "moves", desc := "(III)I" } : Jvm.MethodName) prog_14_method_96_code (6 : Nat) (Option.some Jvm.ClassFile.FieldType.int)) ∈ xWall := xt7 25 rfl rfl
theorem w_1466 : (Jvm.Cond.methodLink "ThinRowLaw" (141 : Nat) ({ cls := "ThinRowModel", name := "reverse", desc := "(I)I" } : Jvm.MethodName)) ∈ xWall := xt7 26 rfl rfl
theorem w_1467 : (Jvm.Cond.instanceMethod ({ cls := "ThinRowModel", name := "reverse", desc := "(I)I" } : Jvm.MethodName)) ∈ xWall := xt7 27 rfl rfl
theorem w_1468 : (Jvm.Cond.selects "ThinRowModel" ({ cls := "ThinRowModel", name := "reverse", desc := "(I)I" } : Jvm.MethodName) ({ cls := "ThinRowModel", name := "reverse", desc := "(I)I" } : Jvm.MethodName)) ∈ xWall := xt7 28 rfl rfl
theorem w_1469 : (Jvm.Cond.code ({ cls := "ThinRowModel", name := "reverse", desc := "(I)I" } : Jvm.MethodName) prog_14_method_97_code (3 : Nat) (Option.some Jvm.ClassFile.FieldType.int)) ∈ xWall := xt7 29 rfl rfl
theorem w_1470 : (Jvm.Cond.methodLink "ThinRowLaw" (145 : Nat) ({ cls := "ThinRowModel", name := "takes", desc := "(II)I" } : Jvm.MethodName)) ∈ xWall := xt7 30 rfl rfl
theorem w_1471 : (Jvm.Cond.instanceMethod ({ cls := "ThinRowModel", name := "takes", desc := "(II)I" } : Jvm.MethodName)) ∈ xWall := xt7 31 rfl rfl
theorem w_1472 : (Jvm.Cond.selects "ThinRowModel" ({ cls := "ThinRowModel", name := "takes", desc := "(II)I" } : Jvm.MethodName) ({ cls := "ThinRowModel", name := "takes", desc := "(II)I" } : Jvm.MethodName)) ∈ xWall := xt7 32 rfl rfl
theorem w_1473 : (Jvm.Cond.code ({ cls := "ThinRowModel", name := "takes", desc := "(II)I" } : Jvm.MethodName) prog_14_method_98_code (4 : Nat) (Option.some Jvm.ClassFile.FieldType.int)) ∈ xWall := xt7 33 rfl rfl
theorem w_1474 : (Jvm.Cond.methodLink "ThinRowLaw" (149 : Nat) ({ cls := "ThinRowModel", name := "polish", desc := "(II)I" } : Jvm.MethodName)) ∈ xWall := xt7 34 rfl rfl
theorem w_1475 : (Jvm.Cond.instanceMethod ({ cls := "ThinRowModel", name := "polish", desc := "(II)I" } : Jvm.MethodName)) ∈ xWall := xt7 35 rfl rfl
theorem w_1476 : (Jvm.Cond.selects "ThinRowModel" ({ cls := "ThinRowModel", name := "polish", desc := "(II)I" } : Jvm.MethodName) ({ cls := "ThinRowModel", name := "polish", desc := "(II)I" } : Jvm.MethodName)) ∈ xWall := xt7 36 rfl rfl
theorem w_1477 : (Jvm.Cond.code ({ cls := "ThinRowModel", name := "polish", desc := "(II)I" } : Jvm.MethodName) prog_14_method_100_code (5 : Nat) (Option.some Jvm.ClassFile.FieldType.int)) ∈ xWall := xt7 37 rfl rfl
theorem w_1478 : (Jvm.Cond.methodLink "ThinRowModel" (323 : Nat) ({ cls := "ThinRowModel", name := "polishes", desc := "(II)I" } : Jvm.MethodName)) ∈ xWall := xt7 38 rfl rfl
theorem w_1480 : (Jvm.Cond.instanceMethod ({ cls := "ThinRowModel", name := "polishes", desc := "(II)I" } : Jvm.MethodName)) ∈ xWall := xt7 40 rfl rfl
theorem w_1481 : (Jvm.Cond.code ({ cls := "ThinRowModel", name := "polishes", desc := "(II)I" } : Jvm.MethodName) prog_14_method_99_code (12 : Nat) (Option.some Jvm.ClassFile.FieldType.int)) ∈ xWall := xt7 41 rfl rfl
theorem w_1482 : (Jvm.Cond.methodLink "ThinRowLaw" (153 : Nat) ({ cls := "ThinRowModel", name := "polished", desc := "(II)I" } : Jvm.MethodName)) ∈ xWall := xt7 42 rfl rfl
theorem w_1483 : (Jvm.Cond.instanceMethod ({ cls := "ThinRowModel", name := "polished", desc := "(II)I" } : Jvm.MethodName)) ∈ xWall := xt7 43 rfl rfl
theorem w_1484 : (Jvm.Cond.selects "ThinRowModel" ({ cls := "ThinRowModel", name := "polished", desc := "(II)I" } : Jvm.MethodName) ({ cls := "ThinRowModel", name := "polished", desc := "(II)I" } : Jvm.MethodName)) ∈ xWall := xt7 44 rfl rfl
theorem w_1485 : (Jvm.Cond.code ({ cls := "ThinRowModel", name := "polished", desc := "(II)I" } : Jvm.MethodName) prog_14_method_101_code (4 : Nat) (Option.some Jvm.ClassFile.FieldType.int)) ∈ xWall := xt7 45 rfl rfl
theorem w_1486 : (Jvm.Cond.methodLink "ThinRowLaw" (157 : Nat) ({ cls := "ThinRowModel", name := "greedy", desc := "(II)I" } : Jvm.MethodName)) ∈ xWall := xt7 46 rfl rfl
theorem w_1487 : (Jvm.Cond.instanceMethod ({ cls := "ThinRowModel", name := "greedy", desc := "(II)I" } : Jvm.MethodName)) ∈ xWall := xt7 47 rfl rfl
theorem w_1488 : (Jvm.Cond.selects "ThinRowModel" ({ cls := "ThinRowModel", name := "greedy", desc := "(II)I" } : Jvm.MethodName) ({ cls := "ThinRowModel", name := "greedy", desc := "(II)I" } : Jvm.MethodName)) ∈ xWall := xt7 48 rfl rfl
theorem w_1489 : (Jvm.Cond.code ({ cls := "ThinRowModel", name := "greedy", desc := "(II)I" } : Jvm.MethodName) prog_14_method_102_code (7 : Nat) (Option.some Jvm.ClassFile.FieldType.int)) ∈ xWall := xt7 49 rfl rfl
theorem w_1490 : (Jvm.Cond.methodLink "ThinRowLaw" (161 : Nat) ({ cls := "ThinRowModel", name := "layers", desc := "(II)I" } : Jvm.MethodName)) ∈ xWall := xt7 50 rfl rfl
theorem w_1491 : (Jvm.Cond.instanceMethod ({ cls := "ThinRowModel", name := "layers", desc := "(II)I" } : Jvm.MethodName)) ∈ xWall := xt7 51 rfl rfl
theorem w_1492 : (Jvm.Cond.selects "ThinRowModel" ({ cls := "ThinRowModel", name := "layers", desc := "(II)I" } : Jvm.MethodName) ({ cls := "ThinRowModel", name := "layers", desc := "(II)I" } : Jvm.MethodName)) ∈ xWall := xt7 52 rfl rfl
theorem w_1493 : (Jvm.Cond.code ({ cls := "ThinRowModel", name := "layers", desc := "(II)I" } : Jvm.MethodName) prog_14_method_103_code (6 : Nat) (Option.some Jvm.ClassFile.FieldType.int)) ∈ xWall := xt7 53 rfl rfl
theorem w_1494 : (Jvm.Cond.methodLink "ThinRowLaw" (165 : Nat) ({ cls := "ThinRowModel", name := "adds", desc := "(IIII)I" } : Jvm.MethodName)) ∈ xWall := xt7 54 rfl rfl
theorem w_1495 : (Jvm.Cond.instanceMethod ({ cls := "ThinRowModel", name := "adds", desc := "(IIII)I" } : Jvm.MethodName)) ∈ xWall := xt7 55 rfl rfl
theorem w_1496 : (Jvm.Cond.selects "ThinRowModel" ({ cls := "ThinRowModel", name := "adds", desc := "(IIII)I" } : Jvm.MethodName) ({ cls := "ThinRowModel", name := "adds", desc := "(IIII)I" } : Jvm.MethodName)) ∈ xWall := xt7 56 rfl rfl
theorem w_1497 : (Jvm.Cond.code ({ cls := "ThinRowModel", name := "adds", desc := "(IIII)I" } : Jvm.MethodName) prog_14_method_104_code (6 : Nat) (Option.some Jvm.ClassFile.FieldType.int)) ∈ xWall := xt7 57 rfl rfl
theorem w_1498 : (Jvm.Cond.methodLink "ThinRowModel" (326 : Nat) ({ cls := "ThinRowModel", name := "areTwo", desc := "(III)Z" } : Jvm.MethodName)) ∈ xWall := xt7 58 rfl rfl
theorem w_1500 : (Jvm.Cond.instanceMethod ({ cls := "ThinRowModel", name := "areTwo", desc := "(III)Z" } : Jvm.MethodName)) ∈ xWall := xt7 60 rfl rfl
theorem w_1501 : (Jvm.Cond.code ({ cls := "ThinRowModel", name := "areTwo", desc := "(III)Z" } : Jvm.MethodName) prog_14_method_9_code (4 : Nat) (Option.some Jvm.ClassFile.FieldType.boolean)) ∈ xWall := xt7 61 rfl rfl
theorem w_1502 : (Jvm.Cond.constantLong "ThinRowModel" (330 : Nat) (9 : Int64)) ∈ xWall := xt7 62 rfl rfl
theorem w_1503 : (Jvm.Cond.methodLink "ThinRowLaw" (169 : Nat) ({ cls := "ThinRowModel", name := "cuts", desc := "(III)I" } : Jvm.MethodName)) ∈ xWall := xt7 63 rfl rfl
theorem w_1504 : (Jvm.Cond.instanceMethod ({ cls := "ThinRowModel", name := "cuts", desc := "(III)I" } : Jvm.MethodName)) ∈ xWall := xt7 64 rfl rfl
theorem w_1505 : (Jvm.Cond.selects "ThinRowModel" ({ cls := "ThinRowModel", name := "cuts", desc := "(III)I" } : Jvm.MethodName) ({ cls := "ThinRowModel", name := "cuts", desc := "(III)I" } : Jvm.MethodName)) ∈ xWall := xt7 65 rfl rfl
theorem w_1506 : (Jvm.Cond.code ({ cls := "ThinRowModel", name := "cuts", desc := "(III)I" } : Jvm.MethodName) prog_14_method_105_code (5 : Nat) (Option.some Jvm.ClassFile.FieldType.int)) ∈ xWall := xt7 66 rfl rfl
theorem w_1507 : (Jvm.Cond.methodLink "ThinRowLaw" (173 : Nat) ({ cls := "ThinRowModel", name := "merges", desc := "(III)I" } : Jvm.MethodName)) ∈ xWall := xt7 67 rfl rfl
theorem w_1508 : (Jvm.Cond.instanceMethod ({ cls := "ThinRowModel", name := "merges", desc := "(III)I" } : Jvm.MethodName)) ∈ xWall := xt7 68 rfl rfl
theorem w_1509 : (Jvm.Cond.selects "ThinRowModel" ({ cls := "ThinRowModel", name := "merges", desc := "(III)I" } : Jvm.MethodName) ({ cls := "ThinRowModel", name := "merges", desc := "(III)I" } : Jvm.MethodName)) ∈ xWall := xt7 69 rfl rfl
theorem w_1510 : (Jvm.Cond.code ({ cls := "ThinRowModel", name := "merges", desc := "(III)I" } : Jvm.MethodName) prog_14_method_106_code (12 : Nat) (Option.some Jvm.ClassFile.FieldType.int)) ∈ xWall := xt7 70 rfl rfl
theorem w_1511 : (Jvm.Cond.methodLink "ThinRowLaw" (186 : Nat) ({ cls := "ThinRowModel", name := "tell", desc := "(II)I" } : Jvm.MethodName)) ∈ xWall := xt7 71 rfl rfl
theorem w_1512 : (Jvm.Cond.instanceMethod ({ cls := "ThinRowModel", name := "tell", desc := "(II)I" } : Jvm.MethodName)) ∈ xWall := xt7 72 rfl rfl
theorem w_1513 : (Jvm.Cond.selects "ThinRowModel" ({ cls := "ThinRowModel", name := "tell", desc := "(II)I" } : Jvm.MethodName) ({ cls := "ThinRowModel", name := "tell", desc := "(II)I" } : Jvm.MethodName)) ∈ xWall := xt7 73 rfl rfl
theorem w_1514 : (Jvm.Cond.code ({ cls := "ThinRowModel", name := "tell", desc := "(II)I" } : Jvm.MethodName) prog_14_method_110_code (4 : Nat) (Option.some Jvm.ClassFile.FieldType.int)) ∈ xWall := xt7 74 rfl rfl
theorem w_1515 : (Jvm.Cond.methodLink "ThinRowModel" (353 : Nat) ({ cls := "ThinRowModel", name := "saysNet", desc := "(I)V" } : Jvm.MethodName)) ∈ xWall := xt7 75 rfl rfl
theorem w_1517 : (Jvm.Cond.instanceMethod ({ cls := "ThinRowModel", name := "saysNet", desc := "(I)V" } : Jvm.MethodName)) ∈ xWall := xt7 77 rfl rfl
theorem w_1518 : (Jvm.Cond.code ({ cls := "ThinRowModel", name := "saysNet", desc := "(I)V" } : Jvm.MethodName) prog_14_method_109_code (5 : Nat) (Option.none : Option Jvm.ClassFile.FieldType)) ∈ xWall := xt7 78 rfl rfl
theorem w_1520 : (Jvm.Cond.methodLink "ThinRowModel" (337 : Nat) ({ cls := "ThinRowModel", name := "says", desc := "(Ljava/lang/String;)V" } : Jvm.MethodName)) ∈ xWall := xt7 80 rfl rfl
theorem w_1522 : (Jvm.Cond.instanceMethod ({ cls := "ThinRowModel", name := "says", desc := "(Ljava/lang/String;)V" } : Jvm.MethodName)) ∈ xWall := xt7 82 rfl rfl
theorem w_1523 : (Jvm.Cond.code ({ cls := "ThinRowModel", name := "says", desc := "(Ljava/lang/String;)V" } : Jvm.MethodName) prog_14_method_107_code (3 : Nat) (Option.none : Option Jvm.ClassFile.FieldType)) ∈ xWall := xt7 83 rfl rfl
theorem w_1524 : (Jvm.Cond.methodLink "ThinRowModel" (332 : Nat) ({ cls := "ThinRowModel", name := "saysNumber", desc := "(I)V" } : Jvm.MethodName)) ∈ xWall := xt7 84 rfl rfl
theorem w_1526 : (Jvm.Cond.instanceMethod ({ cls := "ThinRowModel", name := "saysNumber", desc := "(I)V" } : Jvm.MethodName)) ∈ xWall := xt7 86 rfl rfl
theorem w_1527 : (Jvm.Cond.code ({ cls := "ThinRowModel", name := "saysNumber", desc := "(I)V" } : Jvm.MethodName) prog_14_method_108_code (2 : Nat) (Option.none : Option Jvm.ClassFile.FieldType)) ∈ xWall := xt7 87 rfl rfl
theorem w_1536 : (Jvm.Cond.methodLink "ThinRowLaw" (190 : Nat) ({ cls := "ThinRowModel", name := "octet", desc := "(I)I" } : Jvm.MethodName)) ∈ xWall := xt7 96 rfl rfl
theorem w_1537 : (Jvm.Cond.instanceMethod ({ cls := "ThinRowModel", name := "octet", desc := "(I)I" } : Jvm.MethodName)) ∈ xWall := xt7 97 rfl rfl
theorem w_1538 : (Jvm.Cond.selects "ThinRowModel" ({ cls := "ThinRowModel", name := "octet", desc := "(I)I" } : Jvm.MethodName) ({ cls := "ThinRowModel", name := "octet", desc := "(I)I" } : Jvm.MethodName)) ∈ xWall := xt7 98 rfl rfl
theorem w_1539 : (Jvm.Cond.code ({ cls := "ThinRowModel", name := "octet", desc := "(I)I" } : Jvm.MethodName) prog_14_method_111_code (2 : Nat) (Option.some Jvm.ClassFile.FieldType.int)) ∈ xWall := xt7 99 rfl rfl
theorem w_1540 : (Jvm.Cond.fieldLink "java/lang/String" (9 : Nat) "java/lang/String" "value" "[B") ∈ xWall := xt7 100 rfl rfl
theorem w_1541 : (Jvm.Cond.fieldLink "java/lang/String" (15 : Nat) "java/lang/String" "coder" "B") ∈ xWall := xt7 101 rfl rfl
theorem ws_0 : Cond.selects "ThinRow$Reader" ⟨"ThinRow$Reader", "step", "()V"⟩ ⟨"ThinRow$Reader", "step", "()V"⟩ ∈ xWall := xw 0 (by decide +kernel) rfl
theorem ws_1 : Cond.selects "ThinRow$Reader" ⟨"ThinRow$Reader", "readHead", "()Z"⟩ ⟨"ThinRow$Reader", "readHead", "()Z"⟩ ∈ xWall := xw 1 (by decide +kernel) rfl
theorem ws_2 : Cond.selects "ThinRow$Reader" ⟨"ThinRow$Reader", "isWord", "(Ljava/lang/String;)Z"⟩ ⟨"ThinRow$Reader", "isWord", "(Ljava/lang/String;)Z"⟩ ∈ xWall := xw 2 (by decide +kernel) rfl
theorem ws_3 : Cond.selects "ThinRow$Reader" ⟨"ThinRow$Reader", "blame", "(I)Z"⟩ ⟨"ThinRow$Reader", "blame", "(I)Z"⟩ ∈ xWall := xw 3 (by decide +kernel) rfl
theorem ws_4 : Cond.selects "ThinRow$Reader" ⟨"ThinRow$Reader", "isNumberFrom", "(II)Z"⟩ ⟨"ThinRow$Reader", "isNumberFrom", "(II)Z"⟩ ∈ xWall := xw 4 (by decide +kernel) rfl
theorem ws_5 : Cond.selects "ThinRow$Reader" ⟨"ThinRow$Reader", "readLines", "()Z"⟩ ⟨"ThinRow$Reader", "readLines", "()Z"⟩ ∈ xWall := xw 5 (by decide +kernel) rfl
theorem ws_6 : Cond.selects "ThinRow$Reader" ⟨"ThinRow$Reader", "isSign", "(C)Z"⟩ ⟨"ThinRow$Reader", "isSign", "(C)Z"⟩ ∈ xWall := xw 6 (by decide +kernel) rfl
theorem ws_7 : Cond.selects "ThinRow$Reader" ⟨"ThinRow$Reader", "readLine", "()Z"⟩ ⟨"ThinRow$Reader", "readLine", "()Z"⟩ ∈ xWall := xw 7 (by decide +kernel) rfl
theorem ws_8 : Cond.selects "ThinRow$Reader" ⟨"ThinRow$Reader", "isPoint", "()Z"⟩ ⟨"ThinRow$Reader", "isPoint", "()Z"⟩ ∈ xWall := xw 8 (by decide +kernel) rfl
theorem ws_9 : Cond.selects "ThinRow$Reader" ⟨"ThinRow$Reader", "takeSign", "(C)Z"⟩ ⟨"ThinRow$Reader", "takeSign", "(C)Z"⟩ ∈ xWall := xw 9 (by decide +kernel) rfl
theorem ws_10 : Cond.selects "ThinRow$Reader" ⟨"ThinRow$Reader", "readWeight", "(II)Z"⟩ ⟨"ThinRow$Reader", "readWeight", "(II)Z"⟩ ∈ xWall := xw 10 (by decide +kernel) rfl
theorem ws_11 : Cond.selects "ThinRow$Reader" ⟨"ThinRow$Reader", "readRow", "()Z"⟩ ⟨"ThinRow$Reader", "readRow", "()Z"⟩ ∈ xWall := xw 11 (by decide +kernel) rfl
theorem ws_12 : Cond.selects "ThinRow$Reader" ⟨"ThinRow$Reader", "readDigits", "()Z"⟩ ⟨"ThinRow$Reader", "readDigits", "()Z"⟩ ∈ xWall := xw 12 (by decide +kernel) rfl
theorem ws_13 : Cond.selects "ThinRow" ⟨"ThinRow", "noteAct", "(I)V"⟩ ⟨"ThinRow", "noteAct", "(I)V"⟩ ∈ xWall := xw 13 (by decide +kernel) rfl
theorem ws_14 : Cond.selects "ThinRow" ⟨"ThinRow", "filledSlots", "()I"⟩ ⟨"ThinRow", "filledSlots", "()I"⟩ ∈ xWall := xw 14 (by decide +kernel) rfl
theorem ws_15 : Cond.selects "ThinRow" ⟨"ThinRow", "netIn", "(I)LThinRow$Net;"⟩ ⟨"ThinRow", "netIn", "(I)LThinRow$Net;"⟩ ∈ xWall := xw 15 (by decide +kernel) rfl
theorem ws_16 : Cond.selects "ThinRow" ⟨"ThinRow", "findingOf", "(II)LThinRow$Finding;"⟩ ⟨"ThinRow", "findingOf", "(II)LThinRow$Finding;"⟩ ∈ xWall := xw 16 (by decide +kernel) rfl
theorem ws_17 : Cond.selects "ThinRow$BandSearch" ⟨"ThinRow$BandSearch", "turnTo", "(LThinRow$Net;)V"⟩ ⟨"ThinRow$BandSearch", "turnTo", "(LThinRow$Net;)V"⟩ ∈ xWall := xw 17 (by decide +kernel) rfl
theorem ws_18 : Cond.selects "ThinRow$BandSearch" ⟨"ThinRow$BandSearch", "leastLimit", "()I"⟩ ⟨"ThinRow$BandSearch", "leastLimit", "()I"⟩ ∈ xWall := xw 18 (by decide +kernel) rfl
theorem ws_19 : Cond.selects "ThinRow$BandSearch" ⟨"ThinRow$BandSearch", "rowsFrom", "(III)I"⟩ ⟨"ThinRow$BandSearch", "rowsFrom", "(III)I"⟩ ∈ xWall := xw 19 (by decide +kernel) rfl
theorem ws_20 : Cond.selects "ThinRow$BandSearch" ⟨"ThinRow$BandSearch", "waiting", "(III)I"⟩ ⟨"ThinRow$BandSearch", "waiting", "(III)I"⟩ ∈ xWall := xw 20 (by decide +kernel) rfl
theorem ws_21 : Cond.selects "ThinRow$BandSearch" ⟨"ThinRow$BandSearch", "leadersFrom", "(III)I"⟩ ⟨"ThinRow$BandSearch", "leadersFrom", "(III)I"⟩ ∈ xWall := xw 21 (by decide +kernel) rfl
theorem ws_22 : Cond.selects "ThinRow$SetSearch" ⟨"ThinRow$SetSearch", "fillSteps", "(LThinRow$Net;I[I)V"⟩ ⟨"ThinRow$SetSearch", "fillSteps", "(LThinRow$Net;I[I)V"⟩ ∈ xWall := xw 22 (by decide +kernel) rfl
theorem ws_23 : Cond.selects "ThinRow$SetSearch" ⟨"ThinRow$SetSearch", "fillTakings", "(LThinRow$Net;I[I)V"⟩ ⟨"ThinRow$SetSearch", "fillTakings", "(LThinRow$Net;I[I)V"⟩ ∈ xWall := xw 23 (by decide +kernel) rfl
theorem ws_24 : Cond.selects "ThinRow$SetSearch" ⟨"ThinRow$SetSearch", "fillAround", "(LThinRow$Net;)V"⟩ ⟨"ThinRow$SetSearch", "fillAround", "(LThinRow$Net;)V"⟩ ∈ xWall := xw 24 (by decide +kernel) rfl
theorem ws_25 : Cond.selects "ThinRow$SetSearch" ⟨"ThinRow$SetSearch", "newLines", "(LThinRow$Net;II)I"⟩ ⟨"ThinRow$SetSearch", "newLines", "(LThinRow$Net;II)I"⟩ ∈ xWall := xw 25 (by decide +kernel) rfl
theorem ws_26 : Cond.selects "ThinRow$SetSearch" ⟨"ThinRow$SetSearch", "fillRest", "(LThinRow$Net;I[II)V"⟩ ⟨"ThinRow$SetSearch", "fillRest", "(LThinRow$Net;I[II)V"⟩ ∈ xWall := xw 26 (by decide +kernel) rfl
theorem ws_27 : Cond.selects "ThinRow$SetSearch" ⟨"ThinRow$SetSearch", "countRows", "(LThinRow$Net;II)V"⟩ ⟨"ThinRow$SetSearch", "countRows", "(LThinRow$Net;II)V"⟩ ∈ xWall := xw 27 (by decide +kernel) rfl
theorem ws_28 : Cond.selects "ThinRow$SetSearch" ⟨"ThinRow$SetSearch", "fits", "(IIII)Z"⟩ ⟨"ThinRow$SetSearch", "fits", "(IIII)Z"⟩ ∈ xWall := xw 28 (by decide +kernel) rfl
theorem ws_29 : Cond.selects "ThinRow$SetSearch" ⟨"ThinRow$SetSearch", "leadersFrom", "(LThinRow$Net;III)I"⟩ ⟨"ThinRow$SetSearch", "leadersFrom", "(LThinRow$Net;III)I"⟩ ∈ xWall := xw 29 (by decide +kernel) rfl
theorem ws_30 : Cond.selects "ThinRow$Net" ⟨"ThinRow$Net", "takeFromRow", "(I)V"⟩ ⟨"ThinRow$Net", "takeFromRow", "(I)V"⟩ ∈ xWall := xw 30 (by decide +kernel) rfl
theorem ws_31 : Cond.selects "ThinRow" ⟨"ThinRow", "tellNet", "(LThinRow$Net;)V"⟩ ⟨"ThinRow", "tellNet", "(LThinRow$Net;)V"⟩ ∈ xWall := xw 31 (by decide +kernel) rfl
theorem ws_32 : Cond.selects "ThinRow" ⟨"ThinRow", "tellLine", "(III)V"⟩ ⟨"ThinRow", "tellLine", "(III)V"⟩ ∈ xWall := xw 32 (by decide +kernel) rfl
theorem ws_33 : Cond.selects "ThinRow" ⟨"ThinRow", "tellRow", "(LThinRow$Net;)V"⟩ ⟨"ThinRow", "tellRow", "(LThinRow$Net;)V"⟩ ∈ xWall := xw 33 (by decide +kernel) rfl
theorem ws_34 : Cond.selects "ThinRow" ⟨"ThinRow", "tellCuts", "(LThinRow$Net;)V"⟩ ⟨"ThinRow", "tellCuts", "(LThinRow$Net;)V"⟩ ∈ xWall := xw 34 (by decide +kernel) rfl
theorem ws_35 : Cond.selects "ThinRowModel" ⟨"ThinRowModel", "isNet", "(I)Z"⟩ ⟨"ThinRowModel", "isNet", "(I)Z"⟩ ∈ xWall := xw 35 (by decide +kernel) rfl
theorem ws_36 : Cond.selects "ThinRowModel" ⟨"ThinRowModel", "points", "(I)I"⟩ ⟨"ThinRowModel", "points", "(I)I"⟩ ∈ xWall := xw 36 (by decide +kernel) rfl
theorem ws_37 : Cond.selects "ThinRowModel" ⟨"ThinRowModel", "remembers", "()V"⟩ ⟨"ThinRowModel", "remembers", "()V"⟩ ∈ xWall := xw 37 (by decide +kernel) rfl
theorem ws_38 : Cond.selects "ThinRowModel" ⟨"ThinRowModel", "empties", "(I)V"⟩ ⟨"ThinRowModel", "empties", "(I)V"⟩ ∈ xWall := xw 38 (by decide +kernel) rfl
theorem ws_39 : Cond.selects "ThinRowModel" ⟨"ThinRowModel", "keeps", "(I)I"⟩ ⟨"ThinRowModel", "keeps", "(I)I"⟩ ∈ xWall := xw 39 (by decide +kernel) rfl
theorem ws_40 : Cond.selects "ThinRowModel" ⟨"ThinRowModel", "next", "()V"⟩ ⟨"ThinRowModel", "next", "()V"⟩ ∈ xWall := xw 40 (by decide +kernel) rfl
theorem ws_41 : Cond.selects "ThinRowModel" ⟨"ThinRowModel", "isAt", "(II)Z"⟩ ⟨"ThinRowModel", "isAt", "(II)Z"⟩ ∈ xWall := xw 41 (by decide +kernel) rfl
theorem ws_42 : Cond.selects "ThinRowModel" ⟨"ThinRowModel", "readsNet", "(I)V"⟩ ⟨"ThinRowModel", "readsNet", "(I)V"⟩ ∈ xWall := xw 42 (by decide +kernel) rfl
theorem ws_43 : Cond.selects "ThinRowModel" ⟨"ThinRowModel", "isWord", "(Ljava/lang/String;)Z"⟩ ⟨"ThinRowModel", "isWord", "(Ljava/lang/String;)Z"⟩ ∈ xWall := xw 43 (by decide +kernel) rfl
theorem ws_44 : Cond.selects "ThinRowModel" ⟨"ThinRowModel", "must", "(Z)V"⟩ ⟨"ThinRowModel", "must", "(Z)V"⟩ ∈ xWall := xw 44 (by decide +kernel) rfl
theorem ws_45 : Cond.selects "ThinRowModel" ⟨"ThinRowModel", "faults", "(I)V"⟩ ⟨"ThinRowModel", "faults", "(I)V"⟩ ∈ xWall := xw 45 (by decide +kernel) rfl
theorem ws_46 : Cond.selects "ThinRowModel" ⟨"ThinRowModel", "passes", "()V"⟩ ⟨"ThinRowModel", "passes", "()V"⟩ ∈ xWall := xw 46 (by decide +kernel) rfl
theorem ws_47 : Cond.selects "ThinRowModel" ⟨"ThinRowModel", "here", "(II)I"⟩ ⟨"ThinRowModel", "here", "(II)I"⟩ ∈ xWall := xw 47 (by decide +kernel) rfl
theorem ws_48 : Cond.selects "ThinRowModel" ⟨"ThinRowModel", "puts", "(III)V"⟩ ⟨"ThinRowModel", "puts", "(III)V"⟩ ∈ xWall := xw 48 (by decide +kernel) rfl
theorem ws_49 : Cond.selects "ThinRowModel" ⟨"ThinRowModel", "isSign", "(I)Z"⟩ ⟨"ThinRowModel", "isSign", "(I)Z"⟩ ∈ xWall := xw 49 (by decide +kernel) rfl
theorem ws_50 : Cond.selects "ThinRowModel" ⟨"ThinRowModel", "readsLine", "(I)V"⟩ ⟨"ThinRowModel", "readsLine", "(I)V"⟩ ∈ xWall := xw 50 (by decide +kernel) rfl
theorem ws_51 : Cond.selects "ThinRowModel" ⟨"ThinRowModel", "lines", "(I)I"⟩ ⟨"ThinRowModel", "lines", "(I)I"⟩ ∈ xWall := xw 51 (by decide +kernel) rfl
theorem ws_52 : Cond.selects "ThinRowModel" ⟨"ThinRowModel", "nearOf", "(II)I"⟩ ⟨"ThinRowModel", "nearOf", "(II)I"⟩ ∈ xWall := xw 52 (by decide +kernel) rfl
theorem ws_53 : Cond.selects "ThinRowModel" ⟨"ThinRowModel", "weight", "(III)I"⟩ ⟨"ThinRowModel", "weight", "(III)I"⟩ ∈ xWall := xw 53 (by decide +kernel) rfl
theorem ws_54 : Cond.selects "ThinRowModel" ⟨"ThinRowModel", "weighs", "(IIII)V"⟩ ⟨"ThinRowModel", "weighs", "(IIII)V"⟩ ∈ xWall := xw 54 (by decide +kernel) rfl
theorem ws_55 : Cond.selects "ThinRowModel" ⟨"ThinRowModel", "readsRow", "(I)V"⟩ ⟨"ThinRowModel", "readsRow", "(I)V"⟩ ∈ xWall := xw 55 (by decide +kernel) rfl
theorem ws_56 : Cond.selects "ThinRowModel" ⟨"ThinRowModel", "done", "(I)I"⟩ ⟨"ThinRowModel", "done", "(I)I"⟩ ∈ xWall := xw 56 (by decide +kernel) rfl
theorem ws_57 : Cond.selects "ThinRowModel" ⟨"ThinRowModel", "weightOf", "(II)I"⟩ ⟨"ThinRowModel", "weightOf", "(II)I"⟩ ∈ xWall := xw 57 (by decide +kernel) rfl
theorem ws_58 : Cond.selects "ThinRowModel" ⟨"ThinRowModel", "degree", "(I)I"⟩ ⟨"ThinRowModel", "degree", "(I)I"⟩ ∈ xWall := xw 58 (by decide +kernel) rfl
theorem ws_59 : Cond.selects "ThinRowModel" ⟨"ThinRowModel", "parts", "(I)I"⟩ ⟨"ThinRowModel", "parts", "(I)I"⟩ ∈ xWall := xw 59 (by decide +kernel) rfl
theorem ws_60 : Cond.selects "ThinRowModel" ⟨"ThinRowModel", "farOf", "(III)I"⟩ ⟨"ThinRowModel", "farOf", "(III)I"⟩ ∈ xWall := xw 60 (by decide +kernel) rfl
theorem ws_61 : Cond.selects "ThinRowModel" ⟨"ThinRowModel", "diameter", "(I)I"⟩ ⟨"ThinRowModel", "diameter", "(I)I"⟩ ∈ xWall := xw 61 (by decide +kernel) rfl
theorem ws_62 : Cond.selects "ThinRowModel" ⟨"ThinRowModel", "core", "(I)I"⟩ ⟨"ThinRowModel", "core", "(I)I"⟩ ∈ xWall := xw 62 (by decide +kernel) rfl
theorem ws_63 : Cond.selects "ThinRowModel" ⟨"ThinRowModel", "isPoint", "(II)Z"⟩ ⟨"ThinRowModel", "isPoint", "(II)Z"⟩ ∈ xWall := xw 63 (by decide +kernel) rfl
theorem ws_64 : Cond.selects "ThinRowModel" ⟨"ThinRowModel", "at", "(II)I"⟩ ⟨"ThinRowModel", "at", "(II)I"⟩ ∈ xWall := xw 64 (by decide +kernel) rfl
theorem ws_65 : Cond.selects "ThinRowModel" ⟨"ThinRowModel", "placeOf", "(II)I"⟩ ⟨"ThinRowModel", "placeOf", "(II)I"⟩ ∈ xWall := xw 65 (by decide +kernel) rfl
theorem ws_66 : Cond.selects "ThinRowModel" ⟨"ThinRowModel", "laysRow", "(I)V"⟩ ⟨"ThinRowModel", "laysRow", "(I)V"⟩ ∈ xWall := xw 66 (by decide +kernel) rfl
theorem ws_67 : Cond.selects "ThinRowModel" ⟨"ThinRowModel", "valueOf", "(II)I"⟩ ⟨"ThinRowModel", "valueOf", "(II)I"⟩ ∈ xWall := xw 67 (by decide +kernel) rfl
theorem ws_68 : Cond.selects "ThinRowModel" ⟨"ThinRowModel", "bandOf", "(I)I"⟩ ⟨"ThinRowModel", "bandOf", "(I)I"⟩ ∈ xWall := xw 68 (by decide +kernel) rfl
theorem ws_69 : Cond.selects "ThinRowModel" ⟨"ThinRowModel", "cost", "(IIII)I"⟩ ⟨"ThinRowModel", "cost", "(IIII)I"⟩ ∈ xWall := xw 69 (by decide +kernel) rfl
theorem ws_70 : Cond.selects "ThinRowModel" ⟨"ThinRowModel", "neighbours", "(III)I"⟩ ⟨"ThinRowModel", "neighbours", "(III)I"⟩ ∈ xWall := xw 70 (by decide +kernel) rfl
theorem ws_71 : Cond.selects "ThinRowModel" ⟨"ThinRowModel", "fillOf", "(III)I"⟩ ⟨"ThinRowModel", "fillOf", "(III)I"⟩ ∈ xWall := xw 71 (by decide +kernel) rfl
theorem ws_72 : Cond.selects "ThinRowModel" ⟨"ThinRowModel", "splitOf", "(III)I"⟩ ⟨"ThinRowModel", "splitOf", "(III)I"⟩ ∈ xWall := xw 72 (by decide +kernel) rfl
theorem ws_73 : Cond.selects "ThinRowModel" ⟨"ThinRowModel", "priceOf", "(III)I"⟩ ⟨"ThinRowModel", "priceOf", "(III)I"⟩ ∈ xWall := xw 73 (by decide +kernel) rfl
theorem ws_74 : Cond.selects "ThinRowModel" ⟨"ThinRowModel", "aheadOf", "(II)I"⟩ ⟨"ThinRowModel", "aheadOf", "(II)I"⟩ ∈ xWall := xw 74 (by decide +kernel) rfl
theorem ws_75 : Cond.selects "ThinRowModel" ⟨"ThinRowModel", "leastBand", "(I)I"⟩ ⟨"ThinRowModel", "leastBand", "(I)I"⟩ ∈ xWall := xw 75 (by decide +kernel) rfl
theorem ws_76 : Cond.selects "ThinRowModel" ⟨"ThinRowModel", "rowsOfBand", "(IIZ)I"⟩ ⟨"ThinRowModel", "rowsOfBand", "(IIZ)I"⟩ ∈ xWall := xw 76 (by decide +kernel) rfl
theorem ws_77 : Cond.selects "ThinRowModel" ⟨"ThinRowModel", "goesBand", "(IIIIZ)Z"⟩ ⟨"ThinRowModel", "goesBand", "(IIIIZ)Z"⟩ ∈ xWall := xw 77 (by decide +kernel) rfl
theorem ws_78 : Cond.selects "ThinRowModel" ⟨"ThinRowModel", "laysLeast", "(II)V"⟩ ⟨"ThinRowModel", "laysLeast", "(II)V"⟩ ∈ xWall := xw 78 (by decide +kernel) rfl
theorem ws_79 : Cond.selects "ThinRowModel" ⟨"ThinRowModel", "laysCosts", "(II)V"⟩ ⟨"ThinRowModel", "laysCosts", "(II)V"⟩ ∈ xWall := xw 79 (by decide +kernel) rfl
theorem ws_80 : Cond.selects "ThinRowModel" ⟨"ThinRowModel", "laysRest", "(II)V"⟩ ⟨"ThinRowModel", "laysRest", "(II)V"⟩ ∈ xWall := xw 80 (by decide +kernel) rfl
theorem ws_81 : Cond.selects "ThinRowModel" ⟨"ThinRowModel", "laysBest", "(II)V"⟩ ⟨"ThinRowModel", "laysBest", "(II)V"⟩ ∈ xWall := xw 81 (by decide +kernel) rfl
theorem ws_82 : Cond.selects "ThinRowModel" ⟨"ThinRowModel", "keepsLeast", "(IIII)Z"⟩ ⟨"ThinRowModel", "keepsLeast", "(IIII)Z"⟩ ∈ xWall := xw 82 (by decide +kernel) rfl
theorem ws_83 : Cond.selects "ThinRowModel" ⟨"ThinRowModel", "rowsWithin", "(II)I"⟩ ⟨"ThinRowModel", "rowsWithin", "(II)I"⟩ ∈ xWall := xw 83 (by decide +kernel) rfl
theorem ws_84 : Cond.selects "ThinRowModel" ⟨"ThinRowModel", "rowsOfLeast", "(I)I"⟩ ⟨"ThinRowModel", "rowsOfLeast", "(I)I"⟩ ∈ xWall := xw 84 (by decide +kernel) rfl
theorem ws_85 : Cond.selects "ThinRowModel" ⟨"ThinRowModel", "balls", "(I)I"⟩ ⟨"ThinRowModel", "balls", "(I)I"⟩ ∈ xWall := xw 85 (by decide +kernel) rfl
theorem ws_86 : Cond.selects "ThinRowModel" ⟨"ThinRowModel", "fewestOf", "(I)I"⟩ ⟨"ThinRowModel", "fewestOf", "(I)I"⟩ ∈ xWall := xw 86 (by decide +kernel) rfl
theorem ws_87 : Cond.selects "ThinRowModel" ⟨"ThinRowModel", "exchanges", "(II)V"⟩ ⟨"ThinRowModel", "exchanges", "(II)V"⟩ ∈ xWall := xw 87 (by decide +kernel) rfl
theorem ws_88 : Cond.selects "ThinRowModel" ⟨"ThinRowModel", "takesRow", "(I)I"⟩ ⟨"ThinRowModel", "takesRow", "(I)I"⟩ ∈ xWall := xw 88 (by decide +kernel) rfl
theorem ws_89 : Cond.selects "ThinRowModel" ⟨"ThinRowModel", "polishes", "(II)I"⟩ ⟨"ThinRowModel", "polishes", "(II)I"⟩ ∈ xWall := xw 89 (by decide +kernel) rfl
theorem ws_90 : Cond.selects "ThinRowModel" ⟨"ThinRowModel", "areTwo", "(III)Z"⟩ ⟨"ThinRowModel", "areTwo", "(III)Z"⟩ ∈ xWall := xw 90 (by decide +kernel) rfl
theorem ws_91 : Cond.selects "ThinRowModel" ⟨"ThinRowModel", "saysNet", "(I)V"⟩ ⟨"ThinRowModel", "saysNet", "(I)V"⟩ ∈ xWall := xw 91 (by decide +kernel) rfl
theorem ws_92 : Cond.selects "ThinRowModel" ⟨"ThinRowModel", "says", "(Ljava/lang/String;)V"⟩ ⟨"ThinRowModel", "says", "(Ljava/lang/String;)V"⟩ ∈ xWall := xw 92 (by decide +kernel) rfl
theorem ws_93 : Cond.selects "ThinRowModel" ⟨"ThinRowModel", "saysNumber", "(I)V"⟩ ⟨"ThinRowModel", "saysNumber", "(I)V"⟩ ∈ xWall := xw 93 (by decide +kernel) rfl
theorem wn_57 : (Jvm.Cond.methodLinkNest "ThinRow$Reader" (11 : Nat) ({ cls := "ThinRow$Net", name := "<init>", desc := "()V" } : Jvm.MethodName) "ThinRow") ∈ xnest := List.mem_filter.mpr ⟨List.mem_of_getElem? (i := 151) (by decide +kernel), rfl⟩
theorem wn_128 : (Jvm.Cond.methodLinkNest "ThinRow" (42 : Nat) ({ cls := "ThinRow$Net", name := "<init>", desc := "()V" } : Jvm.MethodName) "ThinRow") ∈ xnest := List.mem_filter.mpr ⟨List.mem_of_getElem? (i := 222) (by decide +kernel), rfl⟩
theorem wn_137 : (Jvm.Cond.methodLinkNest "ThinRow$Findings" (19 : Nat) ({ cls := "ThinRow$Net", name := "<init>", desc := "()V" } : Jvm.MethodName) "ThinRow") ∈ xnest := List.mem_filter.mpr ⟨List.mem_of_getElem? (i := 231) (by decide +kernel), rfl⟩
theorem wn_139 : (Jvm.Cond.methodLinkNest "ThinRow$Findings" (24 : Nat) ({ cls := "ThinRow$Finding", name := "<init>", desc := "()V" } : Jvm.MethodName) "ThinRow") ∈ xnest := List.mem_filter.mpr ⟨List.mem_of_getElem? (i := 233) (by decide +kernel), rfl⟩
theorem wn_179 : (Jvm.Cond.methodLinkNest "ThinRow" (46 : Nat) ({ cls := "ThinRow$SetSearch", name := "<init>", desc := "()V" } : Jvm.MethodName) "ThinRow") ∈ xnest := List.mem_filter.mpr ⟨List.mem_of_getElem? (i := 273) (by decide +kernel), rfl⟩
theorem wn_201 : (Jvm.Cond.methodLinkNest "ThinRow" (53 : Nat) ({ cls := "ThinRow$BandSearch", name := "<init>", desc := "()V" } : Jvm.MethodName) "ThinRow") ∈ xnest := List.mem_filter.mpr ⟨List.mem_of_getElem? (i := 295) (by decide +kernel), rfl⟩
theorem wn_206 : (Jvm.Cond.methodLinkNest "ThinRow$BandSearch" (13 : Nat) ({ cls := "ThinRow$Net", name := "<init>", desc := "()V" } : Jvm.MethodName) "ThinRow") ∈ xnest := List.mem_filter.mpr ⟨List.mem_of_getElem? (i := 300) (by decide +kernel), rfl⟩
theorem wn_227 : (Jvm.Cond.methodLinkNest "ThinRow$History" (21 : Nat) ({ cls := "ThinRow$Net", name := "<init>", desc := "()V" } : Jvm.MethodName) "ThinRow") ∈ xnest := List.mem_filter.mpr ⟨List.mem_of_getElem? (i := 321) (by decide +kernel), rfl⟩
