/-! facts of the tables and of the bytes (printed by wip/p1/facts.py) -/
theorem w_1 : (Jvm.Cond.initialized "ThinRow") ∈ xWall := xw 95 (by decide +kernel) rfl
theorem w_2 : (Jvm.Cond.initialized "ThinRow$Bytes") ∈ xWall := xw 96 (by decide +kernel) rfl
theorem w_3 : (Jvm.Cond.initialized "java/lang/Math") ∈ xWall := xw 97 (by decide +kernel) rfl
theorem w_4 : (Jvm.Cond.initialized "ThinRow$Reader") ∈ xWall := xw 98 (by decide +kernel) rfl
theorem w_5 : (Jvm.Cond.initialized "ThinRow$Net") ∈ xWall := xw 99 (by decide +kernel) rfl
theorem w_6 : (Jvm.Cond.initialized "ThinRow$Findings") ∈ xWall := xw 100 (by decide +kernel) rfl
theorem w_7 : (Jvm.Cond.initialized "ThinRow$Finding") ∈ xWall := xw 101 (by decide +kernel) rfl
theorem w_8 : (Jvm.Cond.initialized "ThinRow$SetSearch") ∈ xWall := xw 102 (by decide +kernel) rfl
theorem w_9 : (Jvm.Cond.initialized "ThinRow$BandSearch") ∈ xWall := xw 103 (by decide +kernel) rfl
theorem w_10 : (Jvm.Cond.initialized "ThinRow$History") ∈ xWall := xw 104 (by decide +kernel) rfl
theorem w_11 : (Jvm.Cond.initialized "ThinRowModel") ∈ xWall := xw 105 (by decide +kernel) rfl
theorem w_12 : (Jvm.Cond.initialized "java/lang/String") ∈ xWall := xw 106 (by decide +kernel) rfl
theorem w_22 : (Jvm.Cond.classLink "ThinRowLaw" (7 : Nat) "ThinRow") ∈ xWall := xw 116 (by decide +kernel) rfl
theorem w_23 : (Jvm.Cond.instantiable "ThinRow" (10 : Nat)) ∈ xWall := xw 117 (by decide +kernel) rfl
theorem w_24 : (Jvm.Cond.methodLink "ThinRowLaw" (9 : Nat) ({ cls := "ThinRow", name := "<init>", desc := "()V" } : Jvm.MethodName)) ∈ xWall := xw 118 (by decide +kernel) rfl
theorem w_25 : (Jvm.Cond.instanceMethod ({ cls := "ThinRow", name := "<init>", desc := "()V" } : Jvm.MethodName)) ∈ xWall := xw 119 (by decide +kernel) rfl
theorem w_26 : (Jvm.Cond.code ({ cls := "ThinRow", name := "<init>", desc := "()V" } : Jvm.MethodName) prog_1_method_1_code (2 : Nat) (Option.none : Option Jvm.ClassFile.FieldType)) ∈ xWall := xw 120 (by decide +kernel) rfl
theorem w_27 : (Jvm.Cond.methodLink "ThinRow" (1 : Nat) ({ cls := "java/lang/Object", name := "<init>", desc := "()V" } : Jvm.MethodName)) ∈ xWall := xw 121 (by decide +kernel) rfl
theorem w_28 : (Jvm.Cond.instanceMethod ({ cls := "java/lang/Object", name := "<init>", desc := "()V" } : Jvm.MethodName)) ∈ xWall := xw 122 (by decide +kernel) rfl
theorem w_30 : (Jvm.Cond.classLink "ThinRow" (7 : Nat) "ThinRow$Bytes") ∈ xWall := xw 124 (by decide +kernel) rfl
theorem w_31 : (Jvm.Cond.instantiable "ThinRow$Bytes" (2 : Nat)) ∈ xWall := xw 125 (by decide +kernel) rfl
theorem w_32 : (Jvm.Cond.methodLink "ThinRow" (11 : Nat) ({ cls := "ThinRow$Bytes", name := "<init>", desc := "(I)V" } : Jvm.MethodName)) ∈ xWall := xw 126 (by decide +kernel) rfl
theorem w_33 : (Jvm.Cond.instanceMethod ({ cls := "ThinRow$Bytes", name := "<init>", desc := "(I)V" } : Jvm.MethodName)) ∈ xWall := xw 127 (by decide +kernel) rfl
theorem w_34 : (Jvm.Cond.code ({ cls := "ThinRow$Bytes", name := "<init>", desc := "(I)V" } : Jvm.MethodName) prog_3_method_1_code (2 : Nat) (Option.none : Option Jvm.ClassFile.FieldType)) ∈ xWall := xw 128 (by decide +kernel) rfl
theorem w_35 : (Jvm.Cond.methodLink "ThinRow$Bytes" (3 : Nat) ({ cls := "java/lang/Object", name := "<init>", desc := "()V" } : Jvm.MethodName)) ∈ xWall := xw 129 (by decide +kernel) rfl
theorem w_36 : (Jvm.Cond.methodLink "ThinRow$Bytes" (9 : Nat) ({ cls := "java/lang/Math", name := "max", desc := "(II)I" } : Jvm.MethodName)) ∈ xWall := xw 130 (by decide +kernel) rfl
theorem w_37 : (Jvm.Cond.static ({ cls := "java/lang/Math", name := "max", desc := "(II)I" } : Jvm.MethodName)) ∈ xWall := xw 131 (by decide +kernel) rfl
theorem w_39 : (Jvm.Cond.fieldLink "ThinRow$Bytes" (15 : Nat) "ThinRow$Bytes" "held" "[B") ∈ xWall := xw 133 (by decide +kernel) rfl
theorem w_40 : (Jvm.Cond.fieldLink "ThinRow$Bytes" (21 : Nat) "ThinRow$Bytes" "size" "I") ∈ xWall := xw 134 (by decide +kernel) rfl
theorem w_41 : (Jvm.Cond.fieldLink "ThinRow" (79 : Nat) "ThinRow$Bytes" "size" "I") ∈ xWall := xw 135 (by decide +kernel) rfl
theorem w_42 : (Jvm.Cond.fieldLink "ThinRow$Reader" (138 : Nat) "ThinRow$Bytes" "size" "I") ∈ xWall := xw 136 (by decide +kernel) rfl
theorem w_43 : (Jvm.Cond.laysFinal "ThinRow$Bytes" "ThinRow$Bytes" "held" "[B") ∈ xWall := xw 137 (by decide +kernel) rfl
theorem w_45 : (Jvm.Cond.lays "ThinRow$Bytes" "ThinRow$Bytes" "size" "I") ∈ xWall := xw 139 (by decide +kernel) rfl
theorem w_48 : (Jvm.Cond.arrayClass Jvm.ClassFile.FieldType.byte) ∈ xWall := xw 142 (by decide +kernel) rfl
theorem w_49 : (Jvm.Cond.classLink "ThinRow" (21 : Nat) "ThinRow$Reader") ∈ xWall := xw 143 (by decide +kernel) rfl
theorem w_50 : (Jvm.Cond.instantiable "ThinRow$Reader" (8 : Nat)) ∈ xWall := xw 144 (by decide +kernel) rfl
theorem w_51 : (Jvm.Cond.methodLink "ThinRow" (23 : Nat) ({ cls := "ThinRow$Reader", name := "<init>", desc := "(LThinRow$Bytes;)V" } : Jvm.MethodName)) ∈ xWall := xw 145 (by decide +kernel) rfl
theorem w_52 : (Jvm.Cond.instanceMethod ({ cls := "ThinRow$Reader", name := "<init>", desc := "(LThinRow$Bytes;)V" } : Jvm.MethodName)) ∈ xWall := xw 146 (by decide +kernel) rfl
theorem w_53 : (Jvm.Cond.code ({ cls := "ThinRow$Reader", name := "<init>", desc := "(LThinRow$Bytes;)V" } : Jvm.MethodName) prog_9_method_1_code (2 : Nat) (Option.none : Option Jvm.ClassFile.FieldType)) ∈ xWall := xw 147 (by decide +kernel) rfl
theorem w_54 : (Jvm.Cond.methodLink "ThinRow$Reader" (3 : Nat) ({ cls := "java/lang/Object", name := "<init>", desc := "()V" } : Jvm.MethodName)) ∈ xWall := xw 148 (by decide +kernel) rfl
theorem w_55 : (Jvm.Cond.classLink "ThinRow$Reader" (9 : Nat) "ThinRow$Net") ∈ xWall := xw 149 (by decide +kernel) rfl
theorem w_56 : (Jvm.Cond.instantiable "ThinRow$Net" (5 : Nat)) ∈ xWall := xw 150 (by decide +kernel) rfl
theorem w_58 : (Jvm.Cond.instanceMethod ({ cls := "ThinRow$Net", name := "<init>", desc := "()V" } : Jvm.MethodName)) ∈ xWall := xw 152 (by decide +kernel) rfl
theorem w_59 : (Jvm.Cond.code ({ cls := "ThinRow$Net", name := "<init>", desc := "()V" } : Jvm.MethodName) prog_7_method_1_code (1 : Nat) (Option.none : Option Jvm.ClassFile.FieldType)) ∈ xWall := xw 153 (by decide +kernel) rfl
theorem w_60 : (Jvm.Cond.methodLink "ThinRow$Net" (3 : Nat) ({ cls := "java/lang/Object", name := "<init>", desc := "()V" } : Jvm.MethodName)) ∈ xWall := xw 154 (by decide +kernel) rfl
theorem w_66 : (Jvm.Cond.fieldLink "ThinRow" (120 : Nat) "ThinRow$Net" "points" "I") ∈ xWall := xw 160 (by decide +kernel) rfl
theorem w_72 : (Jvm.Cond.fieldLink "ThinRow$Net" (9 : Nat) "ThinRow$Net" "nearBits" "[I") ∈ xWall := xw 166 (by decide +kernel) rfl
theorem w_78 : (Jvm.Cond.fieldLink "ThinRow$Net" (15 : Nat) "ThinRow$Net" "order" "[I") ∈ xWall := xw 172 (by decide +kernel) rfl
theorem w_83 : (Jvm.Cond.fieldLink "ThinRow$Net" (18 : Nat) "ThinRow$Net" "weights" "[I") ∈ xWall := xw 177 (by decide +kernel) rfl
theorem w_84 : (Jvm.Cond.lays "ThinRow$Net" "ThinRow$Net" "points" "I") ∈ xWall := xw 178 (by decide +kernel) rfl
theorem w_86 : (Jvm.Cond.lays "ThinRow$Net" "ThinRow$Net" "lines" "I") ∈ xWall := xw 180 (by decide +kernel) rfl
theorem w_88 : (Jvm.Cond.laysFinal "ThinRow$Net" "ThinRow$Net" "nearBits" "[I") ∈ xWall := xw 182 (by decide +kernel) rfl
theorem w_90 : (Jvm.Cond.laysFinal "ThinRow$Net" "ThinRow$Net" "order" "[I") ∈ xWall := xw 184 (by decide +kernel) rfl
theorem w_92 : (Jvm.Cond.laysFinal "ThinRow$Net" "ThinRow$Net" "weights" "[I") ∈ xWall := xw 186 (by decide +kernel) rfl
theorem w_95 : (Jvm.Cond.arrayClass Jvm.ClassFile.FieldType.int) ∈ xWall := xw 189 (by decide +kernel) rfl
theorem w_96 : (Jvm.Cond.fieldLink "ThinRow$Reader" (12 : Nat) "ThinRow$Reader" "draft" "LThinRow$Net;") ∈ xWall := xw 190 (by decide +kernel) rfl
theorem w_98 : (Jvm.Cond.fieldLink "ThinRow$Reader" (26 : Nat) "ThinRow$Reader" "faultNumber" "I") ∈ xWall := xw 192 (by decide +kernel) rfl
theorem w_99 : (Jvm.Cond.fieldLink "ThinRow" (103 : Nat) "ThinRow$Reader" "faultNumber" "I") ∈ xWall := xw 193 (by decide +kernel) rfl
theorem w_100 : (Jvm.Cond.fieldLink "ThinRow$Reader" (18 : Nat) "ThinRow$Reader" "faultPlace" "I") ∈ xWall := xw 194 (by decide +kernel) rfl
theorem w_101 : (Jvm.Cond.fieldLink "ThinRow" (106 : Nat) "ThinRow$Reader" "faultPlace" "I") ∈ xWall := xw 195 (by decide +kernel) rfl
theorem w_102 : (Jvm.Cond.fieldLink "ThinRow$Reader" (22 : Nat) "ThinRow$Reader" "source" "LThinRow$Bytes;") ∈ xWall := xw 196 (by decide +kernel) rfl
theorem w_103 : (Jvm.Cond.fieldLink "ThinRow$Reader" (93 : Nat) "ThinRow$Reader" "kind" "I") ∈ xWall := xw 197 (by decide +kernel) rfl
theorem w_104 : (Jvm.Cond.fieldLink "ThinRow$Reader" (101 : Nat) "ThinRow$Reader" "start" "I") ∈ xWall := xw 198 (by decide +kernel) rfl
theorem w_105 : (Jvm.Cond.fieldLink "ThinRow$Reader" (29 : Nat) "ThinRow$Reader" "behind" "I") ∈ xWall := xw 199 (by decide +kernel) rfl
theorem w_107 : (Jvm.Cond.laysFinal "ThinRow$Reader" "ThinRow$Reader" "draft" "LThinRow$Net;") ∈ xWall := xw 201 (by decide +kernel) rfl
theorem w_109 : (Jvm.Cond.lays "ThinRow$Reader" "ThinRow$Reader" "faultNumber" "I") ∈ xWall := xw 203 (by decide +kernel) rfl
theorem w_111 : (Jvm.Cond.lays "ThinRow$Reader" "ThinRow$Reader" "faultPlace" "I") ∈ xWall := xw 205 (by decide +kernel) rfl
theorem w_113 : (Jvm.Cond.laysFinal "ThinRow$Reader" "ThinRow$Reader" "source" "LThinRow$Bytes;") ∈ xWall := xw 207 (by decide +kernel) rfl
theorem w_115 : (Jvm.Cond.lays "ThinRow$Reader" "ThinRow$Reader" "kind" "I") ∈ xWall := xw 209 (by decide +kernel) rfl
theorem w_117 : (Jvm.Cond.lays "ThinRow$Reader" "ThinRow$Reader" "start" "I") ∈ xWall := xw 211 (by decide +kernel) rfl
theorem w_119 : (Jvm.Cond.lays "ThinRow$Reader" "ThinRow$Reader" "behind" "I") ∈ xWall := xw 213 (by decide +kernel) rfl
theorem w_121 : (Jvm.Cond.lays "ThinRow$Reader" "ThinRow$Reader" "number" "I") ∈ xWall := xw 215 (by decide +kernel) rfl
theorem w_124 : (Jvm.Cond.classLink "ThinRow" (30 : Nat) "ThinRow$Net") ∈ xWall := xw 218 (by decide +kernel) rfl
theorem w_126 : (Jvm.Cond.classLink "ThinRow" (36 : Nat) "ThinRow$Findings") ∈ xWall := xw 220 (by decide +kernel) rfl
theorem w_129 : (Jvm.Cond.instantiable "ThinRow$Findings" (2 : Nat)) ∈ xWall := xw 223 (by decide +kernel) rfl
theorem w_130 : (Jvm.Cond.methodLink "ThinRow" (43 : Nat) ({ cls := "ThinRow$Findings", name := "<init>", desc := "()V" } : Jvm.MethodName)) ∈ xWall := xw 224 (by decide +kernel) rfl
theorem w_131 : (Jvm.Cond.instanceMethod ({ cls := "ThinRow$Findings", name := "<init>", desc := "()V" } : Jvm.MethodName)) ∈ xWall := xw 225 (by decide +kernel) rfl
theorem w_132 : (Jvm.Cond.code ({ cls := "ThinRow$Findings", name := "<init>", desc := "()V" } : Jvm.MethodName) prog_5_method_1_code (2 : Nat) (Option.none : Option Jvm.ClassFile.FieldType)) ∈ xWall := xw 226 (by decide +kernel) rfl
theorem w_133 : (Jvm.Cond.methodLink "ThinRow$Findings" (3 : Nat) ({ cls := "java/lang/Object", name := "<init>", desc := "()V" } : Jvm.MethodName)) ∈ xWall := xw 227 (by decide +kernel) rfl
theorem w_134 : (Jvm.Cond.classLink "ThinRow$Findings" (9 : Nat) "ThinRow$Finding") ∈ xWall := xw 228 (by decide +kernel) rfl
theorem w_136 : (Jvm.Cond.classLink "ThinRow$Findings" (17 : Nat) "ThinRow$Net") ∈ xWall := xw 230 (by decide +kernel) rfl
theorem w_138 : (Jvm.Cond.instantiable "ThinRow$Finding" (5 : Nat)) ∈ xWall := xw 232 (by decide +kernel) rfl
theorem w_140 : (Jvm.Cond.instanceMethod ({ cls := "ThinRow$Finding", name := "<init>", desc := "()V" } : Jvm.MethodName)) ∈ xWall := xw 234 (by decide +kernel) rfl
theorem w_141 : (Jvm.Cond.code ({ cls := "ThinRow$Finding", name := "<init>", desc := "()V" } : Jvm.MethodName) prog_4_method_1_code (1 : Nat) (Option.none : Option Jvm.ClassFile.FieldType)) ∈ xWall := xw 235 (by decide +kernel) rfl
theorem w_142 : (Jvm.Cond.methodLink "ThinRow$Finding" (3 : Nat) ({ cls := "java/lang/Object", name := "<init>", desc := "()V" } : Jvm.MethodName)) ∈ xWall := xw 236 (by decide +kernel) rfl
theorem w_154 : (Jvm.Cond.fieldLink "ThinRow$Finding" (9 : Nat) "ThinRow$Finding" "firstRow" "[I") ∈ xWall := xw 248 (by decide +kernel) rfl
theorem w_158 : (Jvm.Cond.lays "ThinRow$Finding" "ThinRow$Finding" "known" "Z") ∈ xWall := xw 252 (by decide +kernel) rfl
theorem w_160 : (Jvm.Cond.lays "ThinRow$Finding" "ThinRow$Finding" "leastValue" "I") ∈ xWall := xw 254 (by decide +kernel) rfl
theorem w_162 : (Jvm.Cond.lays "ThinRow$Finding" "ThinRow$Finding" "rowCount" "I") ∈ xWall := xw 256 (by decide +kernel) rfl
theorem w_164 : (Jvm.Cond.lays "ThinRow$Finding" "ThinRow$Finding" "firstPoints" "I") ∈ xWall := xw 258 (by decide +kernel) rfl
theorem w_166 : (Jvm.Cond.laysFinal "ThinRow$Finding" "ThinRow$Finding" "firstRow" "[I") ∈ xWall := xw 260 (by decide +kernel) rfl
theorem w_169 : (Jvm.Cond.fieldLink "ThinRow$Findings" (11 : Nat) "ThinRow$Findings" "ofMeasure" "[LThinRow$Finding;") ∈ xWall := xw 263 (by decide +kernel) rfl
theorem w_171 : (Jvm.Cond.fieldLink "ThinRow$Findings" (20 : Nat) "ThinRow$Findings" "about" "LThinRow$Net;") ∈ xWall := xw 265 (by decide +kernel) rfl
theorem w_172 : (Jvm.Cond.laysFinal "ThinRow$Findings" "ThinRow$Findings" "ofMeasure" "[LThinRow$Finding;") ∈ xWall := xw 266 (by decide +kernel) rfl
theorem w_174 : (Jvm.Cond.laysFinal "ThinRow$Findings" "ThinRow$Findings" "about" "LThinRow$Net;") ∈ xWall := xw 268 (by decide +kernel) rfl
theorem w_177 : (Jvm.Cond.classLink "ThinRow" (44 : Nat) "ThinRow$SetSearch") ∈ xWall := xw 271 (by decide +kernel) rfl
theorem w_178 : (Jvm.Cond.instantiable "ThinRow$SetSearch" (5 : Nat)) ∈ xWall := xw 272 (by decide +kernel) rfl
theorem w_180 : (Jvm.Cond.instanceMethod ({ cls := "ThinRow$SetSearch", name := "<init>", desc := "()V" } : Jvm.MethodName)) ∈ xWall := xw 274 (by decide +kernel) rfl
theorem w_181 : (Jvm.Cond.code ({ cls := "ThinRow$SetSearch", name := "<init>", desc := "()V" } : Jvm.MethodName) prog_11_method_1_code (1 : Nat) (Option.none : Option Jvm.ClassFile.FieldType)) ∈ xWall := xw 275 (by decide +kernel) rfl
theorem w_182 : (Jvm.Cond.methodLink "ThinRow$SetSearch" (3 : Nat) ({ cls := "java/lang/Object", name := "<init>", desc := "()V" } : Jvm.MethodName)) ∈ xWall := xw 276 (by decide +kernel) rfl
theorem w_183 : (Jvm.Cond.fieldLink "ThinRow$SetSearch" (11 : Nat) "ThinRow$SetSearch" "steps" "[I") ∈ xWall := xw 277 (by decide +kernel) rfl
theorem w_184 : (Jvm.Cond.fieldLink "ThinRow$SetSearch" (15 : Nat) "ThinRow$SetSearch" "guards" "[I") ∈ xWall := xw 278 (by decide +kernel) rfl
theorem w_185 : (Jvm.Cond.fieldLink "ThinRow$SetSearch" (18 : Nat) "ThinRow$SetSearch" "around" "[I") ∈ xWall := xw 279 (by decide +kernel) rfl
theorem w_186 : (Jvm.Cond.fieldLink "ThinRow$SetSearch" (21 : Nat) "ThinRow$SetSearch" "rest" "[I") ∈ xWall := xw 280 (by decide +kernel) rfl
theorem w_187 : (Jvm.Cond.fieldLink "ThinRow$SetSearch" (24 : Nat) "ThinRow$SetSearch" "rows" "[I") ∈ xWall := xw 281 (by decide +kernel) rfl
theorem w_188 : (Jvm.Cond.laysFinal "ThinRow$SetSearch" "ThinRow$SetSearch" "steps" "[I") ∈ xWall := xw 282 (by decide +kernel) rfl
theorem w_190 : (Jvm.Cond.laysFinal "ThinRow$SetSearch" "ThinRow$SetSearch" "guards" "[I") ∈ xWall := xw 284 (by decide +kernel) rfl
theorem w_192 : (Jvm.Cond.laysFinal "ThinRow$SetSearch" "ThinRow$SetSearch" "around" "[I") ∈ xWall := xw 286 (by decide +kernel) rfl
theorem w_194 : (Jvm.Cond.laysFinal "ThinRow$SetSearch" "ThinRow$SetSearch" "rest" "[I") ∈ xWall := xw 288 (by decide +kernel) rfl
theorem w_196 : (Jvm.Cond.laysFinal "ThinRow$SetSearch" "ThinRow$SetSearch" "rows" "[I") ∈ xWall := xw 290 (by decide +kernel) rfl
theorem w_199 : (Jvm.Cond.classLink "ThinRow" (51 : Nat) "ThinRow$BandSearch") ∈ xWall := xw 293 (by decide +kernel) rfl
theorem w_200 : (Jvm.Cond.instantiable "ThinRow$BandSearch" (4 : Nat)) ∈ xWall := xw 294 (by decide +kernel) rfl
theorem w_202 : (Jvm.Cond.instanceMethod ({ cls := "ThinRow$BandSearch", name := "<init>", desc := "()V" } : Jvm.MethodName)) ∈ xWall := xw 296 (by decide +kernel) rfl
theorem w_203 : (Jvm.Cond.code ({ cls := "ThinRow$BandSearch", name := "<init>", desc := "()V" } : Jvm.MethodName) prog_2_method_1_code (1 : Nat) (Option.none : Option Jvm.ClassFile.FieldType)) ∈ xWall := xw 297 (by decide +kernel) rfl
theorem w_204 : (Jvm.Cond.methodLink "ThinRow$BandSearch" (5 : Nat) ({ cls := "java/lang/Object", name := "<init>", desc := "()V" } : Jvm.MethodName)) ∈ xWall := xw 298 (by decide +kernel) rfl
theorem w_205 : (Jvm.Cond.classLink "ThinRow$BandSearch" (11 : Nat) "ThinRow$Net") ∈ xWall := xw 299 (by decide +kernel) rfl
theorem w_207 : (Jvm.Cond.fieldLink "ThinRow$BandSearch" (14 : Nat) "ThinRow$BandSearch" "net" "LThinRow$Net;") ∈ xWall := xw 301 (by decide +kernel) rfl
theorem w_208 : (Jvm.Cond.fieldLink "ThinRow$BandSearch" (18 : Nat) "ThinRow$BandSearch" "places" "[I") ∈ xWall := xw 302 (by decide +kernel) rfl
theorem w_209 : (Jvm.Cond.fieldLink "ThinRow$BandSearch" (22 : Nat) "ThinRow$BandSearch" "keys" "[I") ∈ xWall := xw 303 (by decide +kernel) rfl
theorem w_210 : (Jvm.Cond.fieldLink "ThinRow$BandSearch" (25 : Nat) "ThinRow$BandSearch" "counts" "[I") ∈ xWall := xw 304 (by decide +kernel) rfl
theorem w_211 : (Jvm.Cond.laysFinal "ThinRow$BandSearch" "ThinRow$BandSearch" "net" "LThinRow$Net;") ∈ xWall := xw 305 (by decide +kernel) rfl
theorem w_213 : (Jvm.Cond.laysFinal "ThinRow$BandSearch" "ThinRow$BandSearch" "places" "[I") ∈ xWall := xw 307 (by decide +kernel) rfl
theorem w_215 : (Jvm.Cond.laysFinal "ThinRow$BandSearch" "ThinRow$BandSearch" "keys" "[I") ∈ xWall := xw 309 (by decide +kernel) rfl
theorem w_217 : (Jvm.Cond.laysFinal "ThinRow$BandSearch" "ThinRow$BandSearch" "counts" "[I") ∈ xWall := xw 311 (by decide +kernel) rfl
theorem w_220 : (Jvm.Cond.classLink "ThinRow" (58 : Nat) "ThinRow$History") ∈ xWall := xw 314 (by decide +kernel) rfl
theorem w_221 : (Jvm.Cond.instantiable "ThinRow$History" (4 : Nat)) ∈ xWall := xw 315 (by decide +kernel) rfl
theorem w_222 : (Jvm.Cond.methodLink "ThinRow" (60 : Nat) ({ cls := "ThinRow$History", name := "<init>", desc := "()V" } : Jvm.MethodName)) ∈ xWall := xw 316 (by decide +kernel) rfl
theorem w_223 : (Jvm.Cond.instanceMethod ({ cls := "ThinRow$History", name := "<init>", desc := "()V" } : Jvm.MethodName)) ∈ xWall := xw 317 (by decide +kernel) rfl
theorem w_224 : (Jvm.Cond.code ({ cls := "ThinRow$History", name := "<init>", desc := "()V" } : Jvm.MethodName) prog_6_method_1_code (2 : Nat) (Option.none : Option Jvm.ClassFile.FieldType)) ∈ xWall := xw 318 (by decide +kernel) rfl
theorem w_225 : (Jvm.Cond.methodLink "ThinRow$History" (3 : Nat) ({ cls := "java/lang/Object", name := "<init>", desc := "()V" } : Jvm.MethodName)) ∈ xWall := xw 319 (by decide +kernel) rfl
theorem w_226 : (Jvm.Cond.classLink "ThinRow$History" (15 : Nat) "ThinRow$Net") ∈ xWall := xw 320 (by decide +kernel) rfl
theorem w_229 : (Jvm.Cond.fieldLink "ThinRow" (113 : Nat) "ThinRow$History" "held" "I") ∈ xWall := xw 323 (by decide +kernel) rfl
theorem w_231 : (Jvm.Cond.fieldLink "ThinRow$History" (9 : Nat) "ThinRow$History" "slots" "[I") ∈ xWall := xw 325 (by decide +kernel) rfl
theorem w_232 : (Jvm.Cond.fieldLink "ThinRow$History" (17 : Nat) "ThinRow$History" "nets" "[LThinRow$Net;") ∈ xWall := xw 326 (by decide +kernel) rfl
theorem w_233 : (Jvm.Cond.lays "ThinRow$History" "ThinRow$History" "held" "I") ∈ xWall := xw 327 (by decide +kernel) rfl
theorem w_235 : (Jvm.Cond.lays "ThinRow$History" "ThinRow$History" "next" "I") ∈ xWall := xw 329 (by decide +kernel) rfl
theorem w_237 : (Jvm.Cond.laysFinal "ThinRow$History" "ThinRow$History" "slots" "[I") ∈ xWall := xw 331 (by decide +kernel) rfl
theorem w_239 : (Jvm.Cond.laysFinal "ThinRow$History" "ThinRow$History" "nets" "[LThinRow$Net;") ∈ xWall := xw 333 (by decide +kernel) rfl
theorem w_242 : (Jvm.Cond.fieldLink "ThinRow" (14 : Nat) "ThinRow" "tape" "LThinRow$Bytes;") ∈ xWall := xw 336 (by decide +kernel) rfl
theorem w_243 : (Jvm.Cond.fieldLink "ThinRow" (18 : Nat) "ThinRow" "out" "LThinRow$Bytes;") ∈ xWall := xw 337 (by decide +kernel) rfl
theorem w_244 : (Jvm.Cond.fieldLink "ThinRow" (26 : Nat) "ThinRow" "reader" "LThinRow$Reader;") ∈ xWall := xw 338 (by decide +kernel) rfl
theorem w_245 : (Jvm.Cond.fieldLink "ThinRow" (32 : Nat) "ThinRow" "nets" "[LThinRow$Net;") ∈ xWall := xw 339 (by decide +kernel) rfl
theorem w_246 : (Jvm.Cond.fieldLink "ThinRow" (38 : Nat) "ThinRow" "findings" "[LThinRow$Findings;") ∈ xWall := xw 340 (by decide +kernel) rfl
theorem w_247 : (Jvm.Cond.fieldLink "ThinRow" (47 : Nat) "ThinRow" "setSearch" "LThinRow$SetSearch;") ∈ xWall := xw 341 (by decide +kernel) rfl
theorem w_248 : (Jvm.Cond.fieldLink "ThinRow" (54 : Nat) "ThinRow" "bandSearch" "LThinRow$BandSearch;") ∈ xWall := xw 342 (by decide +kernel) rfl
theorem w_249 : (Jvm.Cond.fieldLink "ThinRow" (61 : Nat) "ThinRow" "history" "LThinRow$History;") ∈ xWall := xw 343 (by decide +kernel) rfl
theorem w_250 : (Jvm.Cond.fieldLink "ThinRow" (65 : Nat) "ThinRow" "kept" "LThinRow$Net;") ∈ xWall := xw 344 (by decide +kernel) rfl
theorem w_251 : (Jvm.Cond.fieldLink "ThinRow" (69 : Nat) "ThinRow" "trial" "LThinRow$Net;") ∈ xWall := xw 345 (by decide +kernel) rfl
theorem w_252 : (Jvm.Cond.laysFinal "ThinRow" "ThinRow" "tape" "LThinRow$Bytes;") ∈ xWall := xw 346 (by decide +kernel) rfl
theorem w_254 : (Jvm.Cond.laysFinal "ThinRow" "ThinRow" "out" "LThinRow$Bytes;") ∈ xWall := xw 348 (by decide +kernel) rfl
theorem w_256 : (Jvm.Cond.laysFinal "ThinRow" "ThinRow" "reader" "LThinRow$Reader;") ∈ xWall := xw 350 (by decide +kernel) rfl
theorem w_258 : (Jvm.Cond.laysFinal "ThinRow" "ThinRow" "nets" "[LThinRow$Net;") ∈ xWall := xw 352 (by decide +kernel) rfl
theorem w_260 : (Jvm.Cond.laysFinal "ThinRow" "ThinRow" "findings" "[LThinRow$Findings;") ∈ xWall := xw 354 (by decide +kernel) rfl
theorem w_262 : (Jvm.Cond.laysFinal "ThinRow" "ThinRow" "setSearch" "LThinRow$SetSearch;") ∈ xWall := xw 356 (by decide +kernel) rfl
theorem w_264 : (Jvm.Cond.laysFinal "ThinRow" "ThinRow" "bandSearch" "LThinRow$BandSearch;") ∈ xWall := xw 358 (by decide +kernel) rfl
theorem w_266 : (Jvm.Cond.laysFinal "ThinRow" "ThinRow" "history" "LThinRow$History;") ∈ xWall := xw 360 (by decide +kernel) rfl
theorem w_268 : (Jvm.Cond.laysFinal "ThinRow" "ThinRow" "kept" "LThinRow$Net;") ∈ xWall := xw 362 (by decide +kernel) rfl
theorem w_270 : (Jvm.Cond.laysFinal "ThinRow" "ThinRow" "trial" "LThinRow$Net;") ∈ xWall := xw 364 (by decide +kernel) rfl
theorem w_273 : (Jvm.Cond.methodLink "ThinRowLaw" (13 : Nat) ({ cls := "ThinRow", name := "feed", desc := "(IIIII)I" } : Jvm.MethodName)) ∈ xWall := xw 367 (by decide +kernel) rfl
theorem w_274 : (Jvm.Cond.instanceMethod ({ cls := "ThinRow", name := "feed", desc := "(IIIII)I" } : Jvm.MethodName)) ∈ xWall := xw 368 (by decide +kernel) rfl
theorem w_275 : (Jvm.Cond.selects "ThinRow" ({ cls := "ThinRow", name := "feed", desc := "(IIIII)I" } : Jvm.MethodName) ({ cls := "ThinRow", name := "feed", desc := "(IIIII)I" } : Jvm.MethodName)) ∈ xWall := xw 369 (by decide +kernel) rfl
theorem w_276 : (Jvm.Cond.code ({ cls := "ThinRow", name := "feed", desc := "(IIIII)I" } : Jvm.MethodName) prog_1_method_2_code (6 : Nat) (Option.some Jvm.ClassFile.FieldType.int)) ∈ xWall := xw 370 (by decide +kernel) rfl
theorem w_277 : (Jvm.Cond.methodLink "ThinRow" (72 : Nat) ({ cls := "ThinRow$Bytes", name := "hasRoom", desc := "(I)Z" } : Jvm.MethodName)) ∈ xWall := xw 371 (by decide +kernel) rfl
theorem w_278 : (Jvm.Cond.instanceMethod ({ cls := "ThinRow$Bytes", name := "hasRoom", desc := "(I)Z" } : Jvm.MethodName)) ∈ xWall := xw 372 (by decide +kernel) rfl
theorem w_279 : (Jvm.Cond.selects "ThinRow$Bytes" ({ cls := "ThinRow$Bytes", name := "hasRoom", desc := "(I)Z" } : Jvm.MethodName) ({ cls := "ThinRow$Bytes", name := "hasRoom", desc := "(I)Z" } : Jvm.MethodName)) ∈ xWall := xw 373 (by decide +kernel) rfl
theorem w_280 : (Jvm.Cond.code ({ cls := "ThinRow$Bytes", name := "hasRoom", desc := "(I)Z" } : Jvm.MethodName) prog_3_method_2_code (2 : Nat) (Option.some Jvm.ClassFile.FieldType.boolean)) ∈ xWall := xw 374 (by decide +kernel) rfl
theorem w_281 : (Jvm.Cond.methodLink "ThinRow" (76 : Nat) ({ cls := "ThinRow$Bytes", name := "putFour", desc := "(I)V" } : Jvm.MethodName)) ∈ xWall := xw 375 (by decide +kernel) rfl
theorem w_282 : (Jvm.Cond.instanceMethod ({ cls := "ThinRow$Bytes", name := "putFour", desc := "(I)V" } : Jvm.MethodName)) ∈ xWall := xw 376 (by decide +kernel) rfl
theorem w_283 : (Jvm.Cond.selects "ThinRow$Bytes" ({ cls := "ThinRow$Bytes", name := "putFour", desc := "(I)V" } : Jvm.MethodName) ({ cls := "ThinRow$Bytes", name := "putFour", desc := "(I)V" } : Jvm.MethodName)) ∈ xWall := xw 377 (by decide +kernel) rfl
theorem w_284 : (Jvm.Cond.code ({ cls := "ThinRow$Bytes", name := "putFour", desc := "(I)V" } : Jvm.MethodName) prog_3_method_4_code (2 : Nat) (Option.none : Option Jvm.ClassFile.FieldType)) ∈ xWall := xw 378 (by decide +kernel) rfl
theorem w_285 : (Jvm.Cond.methodLink "ThinRow$Bytes" (29 : Nat) ({ cls := "ThinRow$Bytes", name := "put", desc := "(I)V" } : Jvm.MethodName)) ∈ xWall := xw 379 (by decide +kernel) rfl
theorem w_286 : (Jvm.Cond.instanceMethod ({ cls := "ThinRow$Bytes", name := "put", desc := "(I)V" } : Jvm.MethodName)) ∈ xWall := xw 380 (by decide +kernel) rfl
theorem w_287 : (Jvm.Cond.selects "ThinRow$Bytes" ({ cls := "ThinRow$Bytes", name := "put", desc := "(I)V" } : Jvm.MethodName) ({ cls := "ThinRow$Bytes", name := "put", desc := "(I)V" } : Jvm.MethodName)) ∈ xWall := xw 381 (by decide +kernel) rfl
theorem w_288 : (Jvm.Cond.code ({ cls := "ThinRow$Bytes", name := "put", desc := "(I)V" } : Jvm.MethodName) prog_3_method_3_code (2 : Nat) (Option.none : Option Jvm.ClassFile.FieldType)) ∈ xWall := xw 382 (by decide +kernel) rfl
theorem w_289 : (Jvm.Cond.methodLink "ThinRow$Bytes" (25 : Nat) ({ cls := "ThinRow$Bytes", name := "hasRoom", desc := "(I)Z" } : Jvm.MethodName)) ∈ xWall := xw 383 (by decide +kernel) rfl
theorem w_290 : (Jvm.Cond.methodLink "ThinRowLaw" (18 : Nat) ({ cls := "ThinRow", name := "end", desc := "(I)I" } : Jvm.MethodName)) ∈ xWall := xw 384 (by decide +kernel) rfl
theorem w_291 : (Jvm.Cond.instanceMethod ({ cls := "ThinRow", name := "end", desc := "(I)I" } : Jvm.MethodName)) ∈ xWall := xw 385 (by decide +kernel) rfl
theorem w_292 : (Jvm.Cond.selects "ThinRow" ({ cls := "ThinRow", name := "end", desc := "(I)I" } : Jvm.MethodName) ({ cls := "ThinRow", name := "end", desc := "(I)I" } : Jvm.MethodName)) ∈ xWall := xw 386 (by decide +kernel) rfl
theorem w_293 : (Jvm.Cond.code ({ cls := "ThinRow", name := "end", desc := "(I)I" } : Jvm.MethodName) prog_1_method_3_code (2 : Nat) (Option.some Jvm.ClassFile.FieldType.int)) ∈ xWall := xw 387 (by decide +kernel) rfl
theorem w_294 : (Jvm.Cond.methodLink "ThinRowLaw" (23 : Nat) ({ cls := "ThinRow", name := "told", desc := "(I)I" } : Jvm.MethodName)) ∈ xWall := xw 388 (by decide +kernel) rfl
theorem w_295 : (Jvm.Cond.instanceMethod ({ cls := "ThinRow", name := "told", desc := "(I)I" } : Jvm.MethodName)) ∈ xWall := xw 389 (by decide +kernel) rfl
theorem w_296 : (Jvm.Cond.selects "ThinRow" ({ cls := "ThinRow", name := "told", desc := "(I)I" } : Jvm.MethodName) ({ cls := "ThinRow", name := "told", desc := "(I)I" } : Jvm.MethodName)) ∈ xWall := xw 390 (by decide +kernel) rfl
theorem w_297 : (Jvm.Cond.code ({ cls := "ThinRow", name := "told", desc := "(I)I" } : Jvm.MethodName) prog_1_method_4_code (4 : Nat) (Option.some Jvm.ClassFile.FieldType.int)) ∈ xWall := xw 391 (by decide +kernel) rfl
theorem w_298 : (Jvm.Cond.methodLink "ThinRow" (83 : Nat) ({ cls := "ThinRow", name := "isSlot", desc := "(I)Z" } : Jvm.MethodName)) ∈ xWall := xw 392 (by decide +kernel) rfl
theorem w_299 : (Jvm.Cond.static ({ cls := "ThinRow", name := "isSlot", desc := "(I)Z" } : Jvm.MethodName)) ∈ xWall := xw 393 (by decide +kernel) rfl
theorem w_300 : (Jvm.Cond.code ({ cls := "ThinRow", name := "isSlot", desc := "(I)Z" } : Jvm.MethodName) prog_1_method_49_code (1 : Nat) (Option.some Jvm.ClassFile.FieldType.boolean)) ∈ xWall := xw 394 (by decide +kernel) rfl
theorem w_301 : (Jvm.Cond.methodLink "ThinRow" (86 : Nat) ({ cls := "ThinRow$Reader", name := "readAll", desc := "()Z" } : Jvm.MethodName)) ∈ xWall := xw 395 (by decide +kernel) rfl
theorem w_302 : (Jvm.Cond.instanceMethod ({ cls := "ThinRow$Reader", name := "readAll", desc := "()Z" } : Jvm.MethodName)) ∈ xWall := xw 396 (by decide +kernel) rfl
theorem w_303 : (Jvm.Cond.selects "ThinRow$Reader" ({ cls := "ThinRow$Reader", name := "readAll", desc := "()Z" } : Jvm.MethodName) ({ cls := "ThinRow$Reader", name := "readAll", desc := "()Z" } : Jvm.MethodName)) ∈ xWall := xw 397 (by decide +kernel) rfl
theorem w_304 : (Jvm.Cond.code ({ cls := "ThinRow$Reader", name := "readAll", desc := "()Z" } : Jvm.MethodName) prog_9_method_2_code (1 : Nat) (Option.some Jvm.ClassFile.FieldType.boolean)) ∈ xWall := xw 398 (by decide +kernel) rfl
theorem w_305 : (Jvm.Cond.methodLink "ThinRow$Reader" (32 : Nat) ({ cls := "ThinRow$Reader", name := "step", desc := "()V" } : Jvm.MethodName)) ∈ xWall := xw 399 (by decide +kernel) rfl
theorem w_307 : (Jvm.Cond.instanceMethod ({ cls := "ThinRow$Reader", name := "step", desc := "()V" } : Jvm.MethodName)) ∈ xWall := xw 401 (by decide +kernel) rfl
theorem w_308 : (Jvm.Cond.code ({ cls := "ThinRow$Reader", name := "step", desc := "()V" } : Jvm.MethodName) prog_9_method_15_code (1 : Nat) (Option.none : Option Jvm.ClassFile.FieldType)) ∈ xWall := xw 402 (by decide +kernel) rfl
theorem w_309 : (Jvm.Cond.methodLink "ThinRow$Reader" (107 : Nat) ({ cls := "ThinRow$Bytes", name := "at", desc := "(I)I" } : Jvm.MethodName)) ∈ xWall := xw 403 (by decide +kernel) rfl
theorem w_310 : (Jvm.Cond.instanceMethod ({ cls := "ThinRow$Bytes", name := "at", desc := "(I)I" } : Jvm.MethodName)) ∈ xWall := xw 404 (by decide +kernel) rfl
theorem w_311 : (Jvm.Cond.selects "ThinRow$Bytes" ({ cls := "ThinRow$Bytes", name := "at", desc := "(I)I" } : Jvm.MethodName) ({ cls := "ThinRow$Bytes", name := "at", desc := "(I)I" } : Jvm.MethodName)) ∈ xWall := xw 405 (by decide +kernel) rfl
theorem w_312 : (Jvm.Cond.code ({ cls := "ThinRow$Bytes", name := "at", desc := "(I)I" } : Jvm.MethodName) prog_3_method_7_code (2 : Nat) (Option.some Jvm.ClassFile.FieldType.int)) ∈ xWall := xw 406 (by decide +kernel) rfl
theorem w_316 : (Jvm.Cond.methodLink "ThinRow$Reader" (144 : Nat) ({ cls := "ThinRow$Reader", name := "kindOf", desc := "(I)I" } : Jvm.MethodName)) ∈ xWall := xw 410 (by decide +kernel) rfl
theorem w_317 : (Jvm.Cond.static ({ cls := "ThinRow$Reader", name := "kindOf", desc := "(I)I" } : Jvm.MethodName)) ∈ xWall := xw 411 (by decide +kernel) rfl
theorem w_318 : (Jvm.Cond.code ({ cls := "ThinRow$Reader", name := "kindOf", desc := "(I)I" } : Jvm.MethodName) prog_9_method_16_code (1 : Nat) (Option.some Jvm.ClassFile.FieldType.int)) ∈ xWall := xw 412 (by decide +kernel) rfl
theorem w_319 : (Jvm.Cond.methodLink "ThinRow$Reader" (35 : Nat) ({ cls := "ThinRow$Reader", name := "readHead", desc := "()Z" } : Jvm.MethodName)) ∈ xWall := xw 413 (by decide +kernel) rfl
theorem w_321 : (Jvm.Cond.instanceMethod ({ cls := "ThinRow$Reader", name := "readHead", desc := "()Z" } : Jvm.MethodName)) ∈ xWall := xw 415 (by decide +kernel) rfl
theorem w_322 : (Jvm.Cond.code ({ cls := "ThinRow$Reader", name := "readHead", desc := "()Z" } : Jvm.MethodName) prog_9_method_3_code (1 : Nat) (Option.some Jvm.ClassFile.FieldType.boolean)) ∈ xWall := xw 416 (by decide +kernel) rfl
theorem w_324 : (Jvm.Cond.methodLink "ThinRow$Reader" (47 : Nat) ({ cls := "ThinRow$Reader", name := "isWord", desc := "(Ljava/lang/String;)Z" } : Jvm.MethodName)) ∈ xWall := xw 418 (by decide +kernel) rfl
theorem w_326 : (Jvm.Cond.instanceMethod ({ cls := "ThinRow$Reader", name := "isWord", desc := "(Ljava/lang/String;)Z" } : Jvm.MethodName)) ∈ xWall := xw 420 (by decide +kernel) rfl
theorem w_327 : (Jvm.Cond.code ({ cls := "ThinRow$Reader", name := "isWord", desc := "(Ljava/lang/String;)Z" } : Jvm.MethodName) prog_9_method_13_code (3 : Nat) (Option.some Jvm.ClassFile.FieldType.boolean)) ∈ xWall := xw 421 (by decide +kernel) rfl
theorem w_329 : (Jvm.Cond.instanceMethod ({ cls := "java/lang/String", name := "length", desc := "()I" } : Jvm.MethodName)) ∈ xWall := xw 423 (by decide +kernel) rfl
theorem w_330 : (Jvm.Cond.selects "java/lang/String" ({ cls := "java/lang/String", name := "length", desc := "()I" } : Jvm.MethodName) ({ cls := "java/lang/String", name := "length", desc := "()I" } : Jvm.MethodName)) ∈ xWall := xw 424 (by decide +kernel) rfl
theorem w_331 : (Jvm.Cond.code ({ cls := "java/lang/String", name := "length", desc := "()I" } : Jvm.MethodName) prog_17_method_54_code (1 : Nat) (Option.some Jvm.ClassFile.FieldType.int)) ∈ xWall := xw 425 (by decide +kernel) rfl
theorem w_332 : (Jvm.Cond.methodLink "java/lang/String" (335 : Nat) ({ cls := "java/lang/String", name := "coder", desc := "()B" } : Jvm.MethodName)) ∈ xWall := xw 426 (by decide +kernel) rfl
theorem w_333 : (Jvm.Cond.instanceMethod ({ cls := "java/lang/String", name := "coder", desc := "()B" } : Jvm.MethodName)) ∈ xWall := xw 427 (by decide +kernel) rfl
theorem w_334 : (Jvm.Cond.selects "java/lang/String" ({ cls := "java/lang/String", name := "coder", desc := "()B" } : Jvm.MethodName) ({ cls := "java/lang/String", name := "coder", desc := "()B" } : Jvm.MethodName)) ∈ xWall := xw 428 (by decide +kernel) rfl
theorem w_335 : (Jvm.Cond.code ({ cls := "java/lang/String", name := "coder", desc := "()B" } : Jvm.MethodName) prog_17_method_152_code (1 : Nat) (Option.some Jvm.ClassFile.FieldType.byte)) ∈ xWall := xw 429 (by decide +kernel) rfl
theorem w_336 : (Jvm.Cond.fieldLink "java/lang/String" (38 : Nat) "java/lang/String" "COMPACT_STRINGS" "Z") ∈ xWall := xw 430 (by decide +kernel) rfl
theorem w_376 : (Jvm.Cond.methodLink "ThinRow$Reader" (51 : Nat) ({ cls := "ThinRow$Reader", name := "blame", desc := "(I)Z" } : Jvm.MethodName)) ∈ xWall := xw 470 (by decide +kernel) rfl
theorem w_378 : (Jvm.Cond.instanceMethod ({ cls := "ThinRow$Reader", name := "blame", desc := "(I)Z" } : Jvm.MethodName)) ∈ xWall := xw 472 (by decide +kernel) rfl
theorem w_379 : (Jvm.Cond.code ({ cls := "ThinRow$Reader", name := "blame", desc := "(I)Z" } : Jvm.MethodName) prog_9_method_14_code (2 : Nat) (Option.some Jvm.ClassFile.FieldType.boolean)) ∈ xWall := xw 473 (by decide +kernel) rfl
theorem w_473 : (Jvm.Cond.methodLink "ThinRowLaw" (27 : Nat) ({ cls := "ThinRow", name := "fault", desc := "(I)I" } : Jvm.MethodName)) ∈ xWall := xw 567 (by decide +kernel) rfl
theorem w_474 : (Jvm.Cond.instanceMethod ({ cls := "ThinRow", name := "fault", desc := "(I)I" } : Jvm.MethodName)) ∈ xWall := xw 568 (by decide +kernel) rfl
theorem w_475 : (Jvm.Cond.selects "ThinRow" ({ cls := "ThinRow", name := "fault", desc := "(I)I" } : Jvm.MethodName) ({ cls := "ThinRow", name := "fault", desc := "(I)I" } : Jvm.MethodName)) ∈ xWall := xw 569 (by decide +kernel) rfl
theorem w_476 : (Jvm.Cond.code ({ cls := "ThinRow", name := "fault", desc := "(I)I" } : Jvm.MethodName) prog_1_method_5_code (2 : Nat) (Option.some Jvm.ClassFile.FieldType.int)) ∈ xWall := xw 570 (by decide +kernel) rfl
theorem w_477 : (Jvm.Cond.methodLink "ThinRowLaw" (31 : Nat) ({ cls := "ThinRow", name := "count", desc := "(I)I" } : Jvm.MethodName)) ∈ xWall := xw 571 (by decide +kernel) rfl
theorem w_478 : (Jvm.Cond.instanceMethod ({ cls := "ThinRow", name := "count", desc := "(I)I" } : Jvm.MethodName)) ∈ xWall := xw 572 (by decide +kernel) rfl
theorem w_479 : (Jvm.Cond.selects "ThinRow" ({ cls := "ThinRow", name := "count", desc := "(I)I" } : Jvm.MethodName) ({ cls := "ThinRow", name := "count", desc := "(I)I" } : Jvm.MethodName)) ∈ xWall := xw 573 (by decide +kernel) rfl
theorem w_480 : (Jvm.Cond.code ({ cls := "ThinRow", name := "count", desc := "(I)I" } : Jvm.MethodName) prog_1_method_6_code (2 : Nat) (Option.some Jvm.ClassFile.FieldType.int)) ∈ xWall := xw 574 (by decide +kernel) rfl
theorem w_481 : (Jvm.Cond.methodLink "ThinRow" (109 : Nat) ({ cls := "ThinRow", name := "filledSlots", desc := "()I" } : Jvm.MethodName)) ∈ xWall := xw 575 (by decide +kernel) rfl
theorem w_483 : (Jvm.Cond.instanceMethod ({ cls := "ThinRow", name := "filledSlots", desc := "()I" } : Jvm.MethodName)) ∈ xWall := xw 577 (by decide +kernel) rfl
theorem w_484 : (Jvm.Cond.code ({ cls := "ThinRow", name := "filledSlots", desc := "()I" } : Jvm.MethodName) prog_1_method_54_code (3 : Nat) (Option.some Jvm.ClassFile.FieldType.int)) ∈ xWall := xw 578 (by decide +kernel) rfl
theorem w_485 : (Jvm.Cond.methodLink "ThinRowLaw" (35 : Nat) ({ cls := "ThinRow", name := "look", desc := "(II)I" } : Jvm.MethodName)) ∈ xWall := xw 579 (by decide +kernel) rfl
theorem w_486 : (Jvm.Cond.instanceMethod ({ cls := "ThinRow", name := "look", desc := "(II)I" } : Jvm.MethodName)) ∈ xWall := xw 580 (by decide +kernel) rfl
theorem w_487 : (Jvm.Cond.selects "ThinRow" ({ cls := "ThinRow", name := "look", desc := "(II)I" } : Jvm.MethodName) ({ cls := "ThinRow", name := "look", desc := "(II)I" } : Jvm.MethodName)) ∈ xWall := xw 581 (by decide +kernel) rfl
theorem w_488 : (Jvm.Cond.code ({ cls := "ThinRow", name := "look", desc := "(II)I" } : Jvm.MethodName) prog_1_method_7_code (4 : Nat) (Option.some Jvm.ClassFile.FieldType.int)) ∈ xWall := xw 582 (by decide +kernel) rfl
theorem w_489 : (Jvm.Cond.methodLink "ThinRow" (116 : Nat) ({ cls := "ThinRow", name := "netIn", desc := "(I)LThinRow$Net;" } : Jvm.MethodName)) ∈ xWall := xw 583 (by decide +kernel) rfl
theorem w_491 : (Jvm.Cond.instanceMethod ({ cls := "ThinRow", name := "netIn", desc := "(I)LThinRow$Net;" } : Jvm.MethodName)) ∈ xWall := xw 585 (by decide +kernel) rfl
theorem w_492 : (Jvm.Cond.code ({ cls := "ThinRow", name := "netIn", desc := "(I)LThinRow$Net;" } : Jvm.MethodName) prog_1_method_53_code (2 : Nat) (Option.some (Jvm.ClassFile.FieldType.object "ThinRow$Net"))) ∈ xWall := xw 586 (by decide +kernel) rfl
theorem w_537 : (Jvm.Cond.methodLink "ThinRowLaw" (40 : Nat) ({ cls := "ThinRow", name := "near", desc := "(II)I" } : Jvm.MethodName)) ∈ xWall := xw 631 (by decide +kernel) rfl
theorem w_538 : (Jvm.Cond.instanceMethod ({ cls := "ThinRow", name := "near", desc := "(II)I" } : Jvm.MethodName)) ∈ xWall := xw 632 (by decide +kernel) rfl
theorem w_539 : (Jvm.Cond.selects "ThinRow" ({ cls := "ThinRow", name := "near", desc := "(II)I" } : Jvm.MethodName) ({ cls := "ThinRow", name := "near", desc := "(II)I" } : Jvm.MethodName)) ∈ xWall := xw 633 (by decide +kernel) rfl
theorem w_540 : (Jvm.Cond.code ({ cls := "ThinRow", name := "near", desc := "(II)I" } : Jvm.MethodName) prog_1_method_8_code (4 : Nat) (Option.some Jvm.ClassFile.FieldType.int)) ∈ xWall := xw 634 (by decide +kernel) rfl
theorem w_542 : (Jvm.Cond.methodLink "ThinRowLaw" (44 : Nat) ({ cls := "ThinRow", name := "line", desc := "(III)I" } : Jvm.MethodName)) ∈ xWall := xw 636 (by decide +kernel) rfl
theorem w_543 : (Jvm.Cond.instanceMethod ({ cls := "ThinRow", name := "line", desc := "(III)I" } : Jvm.MethodName)) ∈ xWall := xw 637 (by decide +kernel) rfl
theorem w_544 : (Jvm.Cond.selects "ThinRow" ({ cls := "ThinRow", name := "line", desc := "(III)I" } : Jvm.MethodName) ({ cls := "ThinRow", name := "line", desc := "(III)I" } : Jvm.MethodName)) ∈ xWall := xw 638 (by decide +kernel) rfl
theorem w_545 : (Jvm.Cond.code ({ cls := "ThinRow", name := "line", desc := "(III)I" } : Jvm.MethodName) prog_1_method_9_code (5 : Nat) (Option.some Jvm.ClassFile.FieldType.int)) ∈ xWall := xw 639 (by decide +kernel) rfl
theorem w_547 : (Jvm.Cond.methodLink "ThinRowLaw" (49 : Nat) ({ cls := "ThinRow", name := "far", desc := "(III)I" } : Jvm.MethodName)) ∈ xWall := xw 641 (by decide +kernel) rfl
theorem w_548 : (Jvm.Cond.instanceMethod ({ cls := "ThinRow", name := "far", desc := "(III)I" } : Jvm.MethodName)) ∈ xWall := xw 642 (by decide +kernel) rfl
theorem w_549 : (Jvm.Cond.selects "ThinRow" ({ cls := "ThinRow", name := "far", desc := "(III)I" } : Jvm.MethodName) ({ cls := "ThinRow", name := "far", desc := "(III)I" } : Jvm.MethodName)) ∈ xWall := xw 643 (by decide +kernel) rfl
theorem w_550 : (Jvm.Cond.code ({ cls := "ThinRow", name := "far", desc := "(III)I" } : Jvm.MethodName) prog_1_method_10_code (5 : Nat) (Option.some Jvm.ClassFile.FieldType.int)) ∈ xWall := xw 644 (by decide +kernel) rfl
theorem w_552 : (Jvm.Cond.methodLink "ThinRowLaw" (53 : Nat) ({ cls := "ThinRow", name := "row", desc := "(II)I" } : Jvm.MethodName)) ∈ xWall := xw 646 (by decide +kernel) rfl
theorem w_553 : (Jvm.Cond.instanceMethod ({ cls := "ThinRow", name := "row", desc := "(II)I" } : Jvm.MethodName)) ∈ xWall := xw 647 (by decide +kernel) rfl
theorem w_554 : (Jvm.Cond.selects "ThinRow" ({ cls := "ThinRow", name := "row", desc := "(II)I" } : Jvm.MethodName) ({ cls := "ThinRow", name := "row", desc := "(II)I" } : Jvm.MethodName)) ∈ xWall := xw 648 (by decide +kernel) rfl
theorem w_555 : (Jvm.Cond.code ({ cls := "ThinRow", name := "row", desc := "(II)I" } : Jvm.MethodName) prog_1_method_11_code (4 : Nat) (Option.some Jvm.ClassFile.FieldType.int)) ∈ xWall := xw 649 (by decide +kernel) rfl
theorem w_556 : (Jvm.Cond.methodLink "ThinRowLaw" (57 : Nat) ({ cls := "ThinRow", name := "place", desc := "(II)I" } : Jvm.MethodName)) ∈ xWall := xw 650 (by decide +kernel) rfl
theorem w_557 : (Jvm.Cond.instanceMethod ({ cls := "ThinRow", name := "place", desc := "(II)I" } : Jvm.MethodName)) ∈ xWall := xw 651 (by decide +kernel) rfl
theorem w_558 : (Jvm.Cond.selects "ThinRow" ({ cls := "ThinRow", name := "place", desc := "(II)I" } : Jvm.MethodName) ({ cls := "ThinRow", name := "place", desc := "(II)I" } : Jvm.MethodName)) ∈ xWall := xw 652 (by decide +kernel) rfl
theorem w_559 : (Jvm.Cond.code ({ cls := "ThinRow", name := "place", desc := "(II)I" } : Jvm.MethodName) prog_1_method_12_code (4 : Nat) (Option.some Jvm.ClassFile.FieldType.int)) ∈ xWall := xw 653 (by decide +kernel) rfl
theorem w_564 : (Jvm.Cond.methodLink "ThinRowLaw" (61 : Nat) ({ cls := "ThinRow", name := "value", desc := "(II)I" } : Jvm.MethodName)) ∈ xWall := xw 658 (by decide +kernel) rfl
theorem w_565 : (Jvm.Cond.instanceMethod ({ cls := "ThinRow", name := "value", desc := "(II)I" } : Jvm.MethodName)) ∈ xWall := xw 659 (by decide +kernel) rfl
theorem w_566 : (Jvm.Cond.selects "ThinRow" ({ cls := "ThinRow", name := "value", desc := "(II)I" } : Jvm.MethodName) ({ cls := "ThinRow", name := "value", desc := "(II)I" } : Jvm.MethodName)) ∈ xWall := xw 660 (by decide +kernel) rfl
theorem w_567 : (Jvm.Cond.code ({ cls := "ThinRow", name := "value", desc := "(II)I" } : Jvm.MethodName) prog_1_method_13_code (4 : Nat) (Option.some Jvm.ClassFile.FieldType.int)) ∈ xWall := xw 661 (by decide +kernel) rfl
theorem w_615 : (Jvm.Cond.methodLink "ThinRowLaw" (65 : Nat) ({ cls := "ThinRow", name := "price", desc := "(III)I" } : Jvm.MethodName)) ∈ xWall := xw 709 (by decide +kernel) rfl
theorem w_616 : (Jvm.Cond.instanceMethod ({ cls := "ThinRow", name := "price", desc := "(III)I" } : Jvm.MethodName)) ∈ xWall := xw 710 (by decide +kernel) rfl
theorem w_617 : (Jvm.Cond.selects "ThinRow" ({ cls := "ThinRow", name := "price", desc := "(III)I" } : Jvm.MethodName) ({ cls := "ThinRow", name := "price", desc := "(III)I" } : Jvm.MethodName)) ∈ xWall := xw 711 (by decide +kernel) rfl
theorem w_618 : (Jvm.Cond.code ({ cls := "ThinRow", name := "price", desc := "(III)I" } : Jvm.MethodName) prog_1_method_14_code (5 : Nat) (Option.some Jvm.ClassFile.FieldType.int)) ∈ xWall := xw 712 (by decide +kernel) rfl
theorem w_633 : (Jvm.Cond.methodLink "ThinRowLaw" (69 : Nat) ({ cls := "ThinRow", name := "worst", desc := "(II)I" } : Jvm.MethodName)) ∈ xWall := xw 727 (by decide +kernel) rfl
theorem w_634 : (Jvm.Cond.instanceMethod ({ cls := "ThinRow", name := "worst", desc := "(II)I" } : Jvm.MethodName)) ∈ xWall := xw 728 (by decide +kernel) rfl
theorem w_635 : (Jvm.Cond.selects "ThinRow" ({ cls := "ThinRow", name := "worst", desc := "(II)I" } : Jvm.MethodName) ({ cls := "ThinRow", name := "worst", desc := "(II)I" } : Jvm.MethodName)) ∈ xWall := xw 729 (by decide +kernel) rfl
theorem w_636 : (Jvm.Cond.code ({ cls := "ThinRow", name := "worst", desc := "(II)I" } : Jvm.MethodName) prog_1_method_15_code (4 : Nat) (Option.some Jvm.ClassFile.FieldType.int)) ∈ xWall := xw 730 (by decide +kernel) rfl
theorem w_642 : (Jvm.Cond.methodLink "ThinRowLaw" (73 : Nat) ({ cls := "ThinRow", name := "longest", desc := "(I)I" } : Jvm.MethodName)) ∈ xWall := xw 736 (by decide +kernel) rfl
theorem w_643 : (Jvm.Cond.instanceMethod ({ cls := "ThinRow", name := "longest", desc := "(I)I" } : Jvm.MethodName)) ∈ xWall := xw 737 (by decide +kernel) rfl
theorem w_644 : (Jvm.Cond.selects "ThinRow" ({ cls := "ThinRow", name := "longest", desc := "(I)I" } : Jvm.MethodName) ({ cls := "ThinRow", name := "longest", desc := "(I)I" } : Jvm.MethodName)) ∈ xWall := xw 738 (by decide +kernel) rfl
theorem w_645 : (Jvm.Cond.code ({ cls := "ThinRow", name := "longest", desc := "(I)I" } : Jvm.MethodName) prog_1_method_16_code (3 : Nat) (Option.some Jvm.ClassFile.FieldType.int)) ∈ xWall := xw 739 (by decide +kernel) rfl
theorem w_653 : (Jvm.Cond.methodLink "ThinRowLaw" (77 : Nat) ({ cls := "ThinRow", name := "least", desc := "(II)I" } : Jvm.MethodName)) ∈ xWall := xw 747 (by decide +kernel) rfl
theorem w_654 : (Jvm.Cond.instanceMethod ({ cls := "ThinRow", name := "least", desc := "(II)I" } : Jvm.MethodName)) ∈ xWall := xw 748 (by decide +kernel) rfl
theorem w_655 : (Jvm.Cond.selects "ThinRow" ({ cls := "ThinRow", name := "least", desc := "(II)I" } : Jvm.MethodName) ({ cls := "ThinRow", name := "least", desc := "(II)I" } : Jvm.MethodName)) ∈ xWall := xw 749 (by decide +kernel) rfl
theorem w_656 : (Jvm.Cond.code ({ cls := "ThinRow", name := "least", desc := "(II)I" } : Jvm.MethodName) prog_1_method_17_code (4 : Nat) (Option.some Jvm.ClassFile.FieldType.int)) ∈ xWall := xw 750 (by decide +kernel) rfl
theorem w_657 : (Jvm.Cond.methodLink "ThinRow" (189 : Nat) ({ cls := "ThinRow", name := "findingOf", desc := "(II)LThinRow$Finding;" } : Jvm.MethodName)) ∈ xWall := xw 751 (by decide +kernel) rfl
theorem w_659 : (Jvm.Cond.instanceMethod ({ cls := "ThinRow", name := "findingOf", desc := "(II)LThinRow$Finding;" } : Jvm.MethodName)) ∈ xWall := xw 753 (by decide +kernel) rfl
theorem w_660 : (Jvm.Cond.code ({ cls := "ThinRow", name := "findingOf", desc := "(II)LThinRow$Finding;" } : Jvm.MethodName) prog_1_method_56_code (5 : Nat) (Option.some (Jvm.ClassFile.FieldType.object "ThinRow$Finding"))) ∈ xWall := xw 754 (by decide +kernel) rfl
theorem w_746 : (Jvm.Cond.methodLink "ThinRowLaw" (81 : Nat) ({ cls := "ThinRow", name := "best", desc := "(III)I" } : Jvm.MethodName)) ∈ xWall := xw 840 (by decide +kernel) rfl
theorem w_747 : (Jvm.Cond.instanceMethod ({ cls := "ThinRow", name := "best", desc := "(III)I" } : Jvm.MethodName)) ∈ xWall := xw 841 (by decide +kernel) rfl
theorem w_748 : (Jvm.Cond.selects "ThinRow" ({ cls := "ThinRow", name := "best", desc := "(III)I" } : Jvm.MethodName) ({ cls := "ThinRow", name := "best", desc := "(III)I" } : Jvm.MethodName)) ∈ xWall := xw 842 (by decide +kernel) rfl
theorem w_749 : (Jvm.Cond.code ({ cls := "ThinRow", name := "best", desc := "(III)I" } : Jvm.MethodName) prog_1_method_18_code (5 : Nat) (Option.some Jvm.ClassFile.FieldType.int)) ∈ xWall := xw 843 (by decide +kernel) rfl
theorem w_750 : (Jvm.Cond.methodLink "ThinRowLaw" (85 : Nat) ({ cls := "ThinRow", name := "ways", desc := "(II)I" } : Jvm.MethodName)) ∈ xWall := xw 844 (by decide +kernel) rfl
theorem w_751 : (Jvm.Cond.instanceMethod ({ cls := "ThinRow", name := "ways", desc := "(II)I" } : Jvm.MethodName)) ∈ xWall := xw 845 (by decide +kernel) rfl
theorem w_752 : (Jvm.Cond.selects "ThinRow" ({ cls := "ThinRow", name := "ways", desc := "(II)I" } : Jvm.MethodName) ({ cls := "ThinRow", name := "ways", desc := "(II)I" } : Jvm.MethodName)) ∈ xWall := xw 846 (by decide +kernel) rfl
theorem w_753 : (Jvm.Cond.code ({ cls := "ThinRow", name := "ways", desc := "(II)I" } : Jvm.MethodName) prog_1_method_19_code (4 : Nat) (Option.some Jvm.ClassFile.FieldType.int)) ∈ xWall := xw 847 (by decide +kernel) rfl
theorem w_754 : (Jvm.Cond.methodLink "ThinRowLaw" (89 : Nat) ({ cls := "ThinRow", name := "within", desc := "(III)I" } : Jvm.MethodName)) ∈ xWall := xw 848 (by decide +kernel) rfl
theorem w_755 : (Jvm.Cond.instanceMethod ({ cls := "ThinRow", name := "within", desc := "(III)I" } : Jvm.MethodName)) ∈ xWall := xw 849 (by decide +kernel) rfl
theorem w_756 : (Jvm.Cond.selects "ThinRow" ({ cls := "ThinRow", name := "within", desc := "(III)I" } : Jvm.MethodName) ({ cls := "ThinRow", name := "within", desc := "(III)I" } : Jvm.MethodName)) ∈ xWall := xw 850 (by decide +kernel) rfl
theorem w_757 : (Jvm.Cond.code ({ cls := "ThinRow", name := "within", desc := "(III)I" } : Jvm.MethodName) prog_1_method_20_code (5 : Nat) (Option.some Jvm.ClassFile.FieldType.int)) ∈ xWall := xw 851 (by decide +kernel) rfl
theorem w_769 : (Jvm.Cond.methodLink "ThinRowLaw" (93 : Nat) ({ cls := "ThinRow", name := "firsts", desc := "(II)I" } : Jvm.MethodName)) ∈ xWall := xw 863 (by decide +kernel) rfl
theorem w_770 : (Jvm.Cond.instanceMethod ({ cls := "ThinRow", name := "firsts", desc := "(II)I" } : Jvm.MethodName)) ∈ xWall := xw 864 (by decide +kernel) rfl
theorem w_771 : (Jvm.Cond.selects "ThinRow" ({ cls := "ThinRow", name := "firsts", desc := "(II)I" } : Jvm.MethodName) ({ cls := "ThinRow", name := "firsts", desc := "(II)I" } : Jvm.MethodName)) ∈ xWall := xw 865 (by decide +kernel) rfl
theorem w_772 : (Jvm.Cond.code ({ cls := "ThinRow", name := "firsts", desc := "(II)I" } : Jvm.MethodName) prog_1_method_21_code (4 : Nat) (Option.some Jvm.ClassFile.FieldType.int)) ∈ xWall := xw 866 (by decide +kernel) rfl
theorem w_773 : (Jvm.Cond.methodLink "ThinRowLaw" (97 : Nat) ({ cls := "ThinRow", name := "bound", desc := "(III)I" } : Jvm.MethodName)) ∈ xWall := xw 867 (by decide +kernel) rfl
theorem w_774 : (Jvm.Cond.instanceMethod ({ cls := "ThinRow", name := "bound", desc := "(III)I" } : Jvm.MethodName)) ∈ xWall := xw 868 (by decide +kernel) rfl
theorem w_775 : (Jvm.Cond.selects "ThinRow" ({ cls := "ThinRow", name := "bound", desc := "(III)I" } : Jvm.MethodName) ({ cls := "ThinRow", name := "bound", desc := "(III)I" } : Jvm.MethodName)) ∈ xWall := xw 869 (by decide +kernel) rfl
theorem w_776 : (Jvm.Cond.code ({ cls := "ThinRow", name := "bound", desc := "(III)I" } : Jvm.MethodName) prog_1_method_22_code (5 : Nat) (Option.some Jvm.ClassFile.FieldType.int)) ∈ xWall := xw 870 (by decide +kernel) rfl
theorem w_788 : (Jvm.Cond.methodLink "ThinRowLaw" (101 : Nat) ({ cls := "ThinRow", name := "minor", desc := "(I)I" } : Jvm.MethodName)) ∈ xWall := xw 882 (by decide +kernel) rfl
theorem w_789 : (Jvm.Cond.instanceMethod ({ cls := "ThinRow", name := "minor", desc := "(I)I" } : Jvm.MethodName)) ∈ xWall := xw 883 (by decide +kernel) rfl
theorem w_790 : (Jvm.Cond.selects "ThinRow" ({ cls := "ThinRow", name := "minor", desc := "(I)I" } : Jvm.MethodName) ({ cls := "ThinRow", name := "minor", desc := "(I)I" } : Jvm.MethodName)) ∈ xWall := xw 884 (by decide +kernel) rfl
theorem w_791 : (Jvm.Cond.code ({ cls := "ThinRow", name := "minor", desc := "(I)I" } : Jvm.MethodName) prog_1_method_23_code (3 : Nat) (Option.some Jvm.ClassFile.FieldType.int)) ∈ xWall := xw 885 (by decide +kernel) rfl
theorem w_811 : (Jvm.Cond.methodLink "ThinRowLaw" (105 : Nat) ({ cls := "ThinRow", name := "among", desc := "(III)I" } : Jvm.MethodName)) ∈ xWall := xw 905 (by decide +kernel) rfl
theorem w_812 : (Jvm.Cond.instanceMethod ({ cls := "ThinRow", name := "among", desc := "(III)I" } : Jvm.MethodName)) ∈ xWall := xw 906 (by decide +kernel) rfl
theorem w_813 : (Jvm.Cond.selects "ThinRow" ({ cls := "ThinRow", name := "among", desc := "(III)I" } : Jvm.MethodName) ({ cls := "ThinRow", name := "among", desc := "(III)I" } : Jvm.MethodName)) ∈ xWall := xw 907 (by decide +kernel) rfl
theorem w_814 : (Jvm.Cond.code ({ cls := "ThinRow", name := "among", desc := "(III)I" } : Jvm.MethodName) prog_1_method_24_code (5 : Nat) (Option.some Jvm.ClassFile.FieldType.int)) ∈ xWall := xw 908 (by decide +kernel) rfl
theorem w_819 : (Jvm.Cond.methodLink "ThinRowLaw" (109 : Nat) ({ cls := "ThinRow", name := "split", desc := "(III)I" } : Jvm.MethodName)) ∈ xWall := xw 913 (by decide +kernel) rfl
theorem w_820 : (Jvm.Cond.instanceMethod ({ cls := "ThinRow", name := "split", desc := "(III)I" } : Jvm.MethodName)) ∈ xWall := xw 914 (by decide +kernel) rfl
theorem w_821 : (Jvm.Cond.selects "ThinRow" ({ cls := "ThinRow", name := "split", desc := "(III)I" } : Jvm.MethodName) ({ cls := "ThinRow", name := "split", desc := "(III)I" } : Jvm.MethodName)) ∈ xWall := xw 915 (by decide +kernel) rfl
theorem w_822 : (Jvm.Cond.code ({ cls := "ThinRow", name := "split", desc := "(III)I" } : Jvm.MethodName) prog_1_method_25_code (5 : Nat) (Option.some Jvm.ClassFile.FieldType.int)) ∈ xWall := xw 916 (by decide +kernel) rfl
theorem w_827 : (Jvm.Cond.methodLink "ThinRowLaw" (113 : Nat) ({ cls := "ThinRow", name := "halve", desc := "(I)I" } : Jvm.MethodName)) ∈ xWall := xw 921 (by decide +kernel) rfl
theorem w_828 : (Jvm.Cond.instanceMethod ({ cls := "ThinRow", name := "halve", desc := "(I)I" } : Jvm.MethodName)) ∈ xWall := xw 922 (by decide +kernel) rfl
theorem w_829 : (Jvm.Cond.selects "ThinRow" ({ cls := "ThinRow", name := "halve", desc := "(I)I" } : Jvm.MethodName) ({ cls := "ThinRow", name := "halve", desc := "(I)I" } : Jvm.MethodName)) ∈ xWall := xw 923 (by decide +kernel) rfl
theorem w_830 : (Jvm.Cond.code ({ cls := "ThinRow", name := "halve", desc := "(I)I" } : Jvm.MethodName) prog_1_method_26_code (3 : Nat) (Option.some Jvm.ClassFile.FieldType.int)) ∈ xWall := xw 924 (by decide +kernel) rfl
theorem w_836 : (Jvm.Cond.methodLink "ThinRowLaw" (117 : Nat) ({ cls := "ThinRow", name := "bag", desc := "(III)I" } : Jvm.MethodName)) ∈ xWall := xw 930 (by decide +kernel) rfl
theorem w_837 : (Jvm.Cond.instanceMethod ({ cls := "ThinRow", name := "bag", desc := "(III)I" } : Jvm.MethodName)) ∈ xWall := xw 931 (by decide +kernel) rfl
theorem w_838 : (Jvm.Cond.selects "ThinRow" ({ cls := "ThinRow", name := "bag", desc := "(III)I" } : Jvm.MethodName) ({ cls := "ThinRow", name := "bag", desc := "(III)I" } : Jvm.MethodName)) ∈ xWall := xw 932 (by decide +kernel) rfl
theorem w_839 : (Jvm.Cond.code ({ cls := "ThinRow", name := "bag", desc := "(III)I" } : Jvm.MethodName) prog_1_method_27_code (5 : Nat) (Option.some Jvm.ClassFile.FieldType.int)) ∈ xWall := xw 933 (by decide +kernel) rfl
theorem w_849 : (Jvm.Cond.methodLink "ThinRowLaw" (121 : Nat) ({ cls := "ThinRow", name := "filled", desc := "(II)I" } : Jvm.MethodName)) ∈ xWall := xw 943 (by decide +kernel) rfl
theorem w_850 : (Jvm.Cond.instanceMethod ({ cls := "ThinRow", name := "filled", desc := "(II)I" } : Jvm.MethodName)) ∈ xWall := xw 944 (by decide +kernel) rfl
theorem w_851 : (Jvm.Cond.selects "ThinRow" ({ cls := "ThinRow", name := "filled", desc := "(II)I" } : Jvm.MethodName) ({ cls := "ThinRow", name := "filled", desc := "(II)I" } : Jvm.MethodName)) ∈ xWall := xw 945 (by decide +kernel) rfl
theorem w_852 : (Jvm.Cond.code ({ cls := "ThinRow", name := "filled", desc := "(II)I" } : Jvm.MethodName) prog_1_method_28_code (4 : Nat) (Option.some Jvm.ClassFile.FieldType.int)) ∈ xWall := xw 946 (by decide +kernel) rfl
theorem w_861 : (Jvm.Cond.methodLink "ThinRowLaw" (125 : Nat) ({ cls := "ThinRow", name := "gain", desc := "(IIII)I" } : Jvm.MethodName)) ∈ xWall := xw 955 (by decide +kernel) rfl
theorem w_862 : (Jvm.Cond.instanceMethod ({ cls := "ThinRow", name := "gain", desc := "(IIII)I" } : Jvm.MethodName)) ∈ xWall := xw 956 (by decide +kernel) rfl
theorem w_863 : (Jvm.Cond.selects "ThinRow" ({ cls := "ThinRow", name := "gain", desc := "(IIII)I" } : Jvm.MethodName) ({ cls := "ThinRow", name := "gain", desc := "(IIII)I" } : Jvm.MethodName)) ∈ xWall := xw 957 (by decide +kernel) rfl
theorem w_864 : (Jvm.Cond.code ({ cls := "ThinRow", name := "gain", desc := "(IIII)I" } : Jvm.MethodName) prog_1_method_29_code (6 : Nat) (Option.some Jvm.ClassFile.FieldType.int)) ∈ xWall := xw 958 (by decide +kernel) rfl
theorem w_869 : (Jvm.Cond.methodLink "ThinRowLaw" (130 : Nat) ({ cls := "ThinRow", name := "swaps", desc := "(III)I" } : Jvm.MethodName)) ∈ xWall := xw 963 (by decide +kernel) rfl
theorem w_870 : (Jvm.Cond.instanceMethod ({ cls := "ThinRow", name := "swaps", desc := "(III)I" } : Jvm.MethodName)) ∈ xWall := xw 964 (by decide +kernel) rfl
theorem w_871 : (Jvm.Cond.selects "ThinRow" ({ cls := "ThinRow", name := "swaps", desc := "(III)I" } : Jvm.MethodName) ({ cls := "ThinRow", name := "swaps", desc := "(III)I" } : Jvm.MethodName)) ∈ xWall := xw 965 (by decide +kernel) rfl
theorem w_872 : (Jvm.Cond.code ({ cls := "ThinRow", name := "swaps", desc := "(III)I" } : Jvm.MethodName) prog_1_method_30_code (5 : Nat) (Option.some Jvm.ClassFile.FieldType.int)) ∈ xWall := xw 966 (by decide +kernel) rfl
theorem w_873 : (Jvm.Cond.methodLink "ThinRowLaw" (134 : Nat) ({ cls := "ThinRow", name := "moves", desc := "(III)I" } : Jvm.MethodName)) ∈ xWall := xw 967 (by decide +kernel) rfl
theorem w_874 : (Jvm.Cond.instanceMethod ({ cls := "ThinRow", name := "moves", desc := "(III)I" } : Jvm.MethodName)) ∈ xWall := xw 968 (by decide +kernel) rfl
theorem w_875 : (Jvm.Cond.selects "ThinRow" ({ cls := "ThinRow", name := "moves", desc := "(III)I" } : Jvm.MethodName) ({ cls := "ThinRow", name := "moves", desc := "(III)I" } : Jvm.MethodName)) ∈ xWall := xw 969 (by decide +kernel) rfl
theorem w_876 : (Jvm.Cond.code ({ cls := "ThinRow", name := "moves", desc := "(III)I" } : Jvm.MethodName) prog_1_method_31_code (5 : Nat) (Option.some Jvm.ClassFile.FieldType.int)) ∈ xWall := xw 970 (by decide +kernel) rfl
theorem w_882 : (Jvm.Cond.methodLink "ThinRowLaw" (138 : Nat) ({ cls := "ThinRow", name := "reverse", desc := "(I)I" } : Jvm.MethodName)) ∈ xWall := xw 976 (by decide +kernel) rfl
theorem w_883 : (Jvm.Cond.instanceMethod ({ cls := "ThinRow", name := "reverse", desc := "(I)I" } : Jvm.MethodName)) ∈ xWall := xw 977 (by decide +kernel) rfl
theorem w_884 : (Jvm.Cond.selects "ThinRow" ({ cls := "ThinRow", name := "reverse", desc := "(I)I" } : Jvm.MethodName) ({ cls := "ThinRow", name := "reverse", desc := "(I)I" } : Jvm.MethodName)) ∈ xWall := xw 978 (by decide +kernel) rfl
theorem w_885 : (Jvm.Cond.code ({ cls := "ThinRow", name := "reverse", desc := "(I)I" } : Jvm.MethodName) prog_1_method_32_code (3 : Nat) (Option.some Jvm.ClassFile.FieldType.int)) ∈ xWall := xw 979 (by decide +kernel) rfl
theorem w_890 : (Jvm.Cond.methodLink "ThinRowLaw" (142 : Nat) ({ cls := "ThinRow", name := "takes", desc := "(II)I" } : Jvm.MethodName)) ∈ xWall := xw 984 (by decide +kernel) rfl
theorem w_891 : (Jvm.Cond.instanceMethod ({ cls := "ThinRow", name := "takes", desc := "(II)I" } : Jvm.MethodName)) ∈ xWall := xw 985 (by decide +kernel) rfl
theorem w_892 : (Jvm.Cond.selects "ThinRow" ({ cls := "ThinRow", name := "takes", desc := "(II)I" } : Jvm.MethodName) ({ cls := "ThinRow", name := "takes", desc := "(II)I" } : Jvm.MethodName)) ∈ xWall := xw 986 (by decide +kernel) rfl
theorem w_893 : (Jvm.Cond.code ({ cls := "ThinRow", name := "takes", desc := "(II)I" } : Jvm.MethodName) prog_1_method_33_code (5 : Nat) (Option.some Jvm.ClassFile.FieldType.int)) ∈ xWall := xw 987 (by decide +kernel) rfl
theorem w_896 : (Jvm.Cond.methodLink "ThinRowLaw" (146 : Nat) ({ cls := "ThinRow", name := "polish", desc := "(II)I" } : Jvm.MethodName)) ∈ xWall := xw 990 (by decide +kernel) rfl
theorem w_897 : (Jvm.Cond.instanceMethod ({ cls := "ThinRow", name := "polish", desc := "(II)I" } : Jvm.MethodName)) ∈ xWall := xw 991 (by decide +kernel) rfl
theorem w_898 : (Jvm.Cond.selects "ThinRow" ({ cls := "ThinRow", name := "polish", desc := "(II)I" } : Jvm.MethodName) ({ cls := "ThinRow", name := "polish", desc := "(II)I" } : Jvm.MethodName)) ∈ xWall := xw 992 (by decide +kernel) rfl
theorem w_899 : (Jvm.Cond.code ({ cls := "ThinRow", name := "polish", desc := "(II)I" } : Jvm.MethodName) prog_1_method_34_code (5 : Nat) (Option.some Jvm.ClassFile.FieldType.int)) ∈ xWall := xw 993 (by decide +kernel) rfl
theorem w_908 : (Jvm.Cond.methodLink "ThinRowLaw" (150 : Nat) ({ cls := "ThinRow", name := "polished", desc := "(II)I" } : Jvm.MethodName)) ∈ xWall := xw 1002 (by decide +kernel) rfl
theorem w_909 : (Jvm.Cond.instanceMethod ({ cls := "ThinRow", name := "polished", desc := "(II)I" } : Jvm.MethodName)) ∈ xWall := xw 1003 (by decide +kernel) rfl
theorem w_910 : (Jvm.Cond.selects "ThinRow" ({ cls := "ThinRow", name := "polished", desc := "(II)I" } : Jvm.MethodName) ({ cls := "ThinRow", name := "polished", desc := "(II)I" } : Jvm.MethodName)) ∈ xWall := xw 1004 (by decide +kernel) rfl
theorem w_911 : (Jvm.Cond.code ({ cls := "ThinRow", name := "polished", desc := "(II)I" } : Jvm.MethodName) prog_1_method_35_code (4 : Nat) (Option.some Jvm.ClassFile.FieldType.int)) ∈ xWall := xw 1005 (by decide +kernel) rfl
theorem w_912 : (Jvm.Cond.methodLink "ThinRowLaw" (154 : Nat) ({ cls := "ThinRow", name := "greedy", desc := "(II)I" } : Jvm.MethodName)) ∈ xWall := xw 1006 (by decide +kernel) rfl
theorem w_913 : (Jvm.Cond.instanceMethod ({ cls := "ThinRow", name := "greedy", desc := "(II)I" } : Jvm.MethodName)) ∈ xWall := xw 1007 (by decide +kernel) rfl
theorem w_914 : (Jvm.Cond.selects "ThinRow" ({ cls := "ThinRow", name := "greedy", desc := "(II)I" } : Jvm.MethodName) ({ cls := "ThinRow", name := "greedy", desc := "(II)I" } : Jvm.MethodName)) ∈ xWall := xw 1008 (by decide +kernel) rfl
theorem w_915 : (Jvm.Cond.code ({ cls := "ThinRow", name := "greedy", desc := "(II)I" } : Jvm.MethodName) prog_1_method_36_code (4 : Nat) (Option.some Jvm.ClassFile.FieldType.int)) ∈ xWall := xw 1009 (by decide +kernel) rfl
theorem w_920 : (Jvm.Cond.methodLink "ThinRowLaw" (158 : Nat) ({ cls := "ThinRow", name := "layers", desc := "(II)I" } : Jvm.MethodName)) ∈ xWall := xw 1014 (by decide +kernel) rfl
theorem w_921 : (Jvm.Cond.instanceMethod ({ cls := "ThinRow", name := "layers", desc := "(II)I" } : Jvm.MethodName)) ∈ xWall := xw 1015 (by decide +kernel) rfl
theorem w_922 : (Jvm.Cond.selects "ThinRow" ({ cls := "ThinRow", name := "layers", desc := "(II)I" } : Jvm.MethodName) ({ cls := "ThinRow", name := "layers", desc := "(II)I" } : Jvm.MethodName)) ∈ xWall := xw 1016 (by decide +kernel) rfl
theorem w_923 : (Jvm.Cond.code ({ cls := "ThinRow", name := "layers", desc := "(II)I" } : Jvm.MethodName) prog_1_method_37_code (4 : Nat) (Option.some Jvm.ClassFile.FieldType.int)) ∈ xWall := xw 1017 (by decide +kernel) rfl
theorem w_932 : (Jvm.Cond.methodLink "ThinRowLaw" (162 : Nat) ({ cls := "ThinRow", name := "adds", desc := "(IIII)I" } : Jvm.MethodName)) ∈ xWall := xw 1026 (by decide +kernel) rfl
theorem w_933 : (Jvm.Cond.instanceMethod ({ cls := "ThinRow", name := "adds", desc := "(IIII)I" } : Jvm.MethodName)) ∈ xWall := xw 1027 (by decide +kernel) rfl
theorem w_934 : (Jvm.Cond.selects "ThinRow" ({ cls := "ThinRow", name := "adds", desc := "(IIII)I" } : Jvm.MethodName) ({ cls := "ThinRow", name := "adds", desc := "(IIII)I" } : Jvm.MethodName)) ∈ xWall := xw 1028 (by decide +kernel) rfl
theorem w_935 : (Jvm.Cond.code ({ cls := "ThinRow", name := "adds", desc := "(IIII)I" } : Jvm.MethodName) prog_1_method_38_code (7 : Nat) (Option.some Jvm.ClassFile.FieldType.int)) ∈ xWall := xw 1029 (by decide +kernel) rfl
theorem w_942 : (Jvm.Cond.methodLink "ThinRowLaw" (166 : Nat) ({ cls := "ThinRow", name := "cuts", desc := "(III)I" } : Jvm.MethodName)) ∈ xWall := xw 1036 (by decide +kernel) rfl
theorem w_943 : (Jvm.Cond.instanceMethod ({ cls := "ThinRow", name := "cuts", desc := "(III)I" } : Jvm.MethodName)) ∈ xWall := xw 1037 (by decide +kernel) rfl
theorem w_944 : (Jvm.Cond.selects "ThinRow" ({ cls := "ThinRow", name := "cuts", desc := "(III)I" } : Jvm.MethodName) ({ cls := "ThinRow", name := "cuts", desc := "(III)I" } : Jvm.MethodName)) ∈ xWall := xw 1038 (by decide +kernel) rfl
theorem w_945 : (Jvm.Cond.code ({ cls := "ThinRow", name := "cuts", desc := "(III)I" } : Jvm.MethodName) prog_1_method_39_code (6 : Nat) (Option.some Jvm.ClassFile.FieldType.int)) ∈ xWall := xw 1039 (by decide +kernel) rfl
theorem w_946 : (Jvm.Cond.methodLink "ThinRowLaw" (170 : Nat) ({ cls := "ThinRow", name := "merges", desc := "(III)I" } : Jvm.MethodName)) ∈ xWall := xw 1040 (by decide +kernel) rfl
theorem w_947 : (Jvm.Cond.instanceMethod ({ cls := "ThinRow", name := "merges", desc := "(III)I" } : Jvm.MethodName)) ∈ xWall := xw 1041 (by decide +kernel) rfl
theorem w_948 : (Jvm.Cond.selects "ThinRow" ({ cls := "ThinRow", name := "merges", desc := "(III)I" } : Jvm.MethodName) ({ cls := "ThinRow", name := "merges", desc := "(III)I" } : Jvm.MethodName)) ∈ xWall := xw 1042 (by decide +kernel) rfl
theorem w_949 : (Jvm.Cond.code ({ cls := "ThinRow", name := "merges", desc := "(III)I" } : Jvm.MethodName) prog_1_method_40_code (5 : Nat) (Option.some Jvm.ClassFile.FieldType.int)) ∈ xWall := xw 1043 (by decide +kernel) rfl
theorem w_951 : (Jvm.Cond.methodLink "ThinRowLaw" (174 : Nat) ({ cls := "ThinRow", name := "drops", desc := "(I)I" } : Jvm.MethodName)) ∈ xWall := xw 1045 (by decide +kernel) rfl
theorem w_952 : (Jvm.Cond.instanceMethod ({ cls := "ThinRow", name := "drops", desc := "(I)I" } : Jvm.MethodName)) ∈ xWall := xw 1046 (by decide +kernel) rfl
theorem w_953 : (Jvm.Cond.selects "ThinRow" ({ cls := "ThinRow", name := "drops", desc := "(I)I" } : Jvm.MethodName) ({ cls := "ThinRow", name := "drops", desc := "(I)I" } : Jvm.MethodName)) ∈ xWall := xw 1047 (by decide +kernel) rfl
theorem w_954 : (Jvm.Cond.code ({ cls := "ThinRow", name := "drops", desc := "(I)I" } : Jvm.MethodName) prog_1_method_41_code (3 : Nat) (Option.some Jvm.ClassFile.FieldType.int)) ∈ xWall := xw 1048 (by decide +kernel) rfl
theorem w_956 : (Jvm.Cond.methodLink "ThinRowLaw" (178 : Nat) ({ cls := "ThinRow", name := "undo", desc := "()I" } : Jvm.MethodName)) ∈ xWall := xw 1050 (by decide +kernel) rfl
theorem w_957 : (Jvm.Cond.instanceMethod ({ cls := "ThinRow", name := "undo", desc := "()I" } : Jvm.MethodName)) ∈ xWall := xw 1051 (by decide +kernel) rfl
theorem w_958 : (Jvm.Cond.selects "ThinRow" ({ cls := "ThinRow", name := "undo", desc := "()I" } : Jvm.MethodName) ({ cls := "ThinRow", name := "undo", desc := "()I" } : Jvm.MethodName)) ∈ xWall := xw 1052 (by decide +kernel) rfl
theorem w_959 : (Jvm.Cond.code ({ cls := "ThinRow", name := "undo", desc := "()I" } : Jvm.MethodName) prog_1_method_42_code (1 : Nat) (Option.some Jvm.ClassFile.FieldType.int)) ∈ xWall := xw 1053 (by decide +kernel) rfl
theorem w_964 : (Jvm.Cond.methodLink "ThinRowLaw" (183 : Nat) ({ cls := "ThinRow", name := "tell", desc := "(II)I" } : Jvm.MethodName)) ∈ xWall := xw 1058 (by decide +kernel) rfl
theorem w_965 : (Jvm.Cond.instanceMethod ({ cls := "ThinRow", name := "tell", desc := "(II)I" } : Jvm.MethodName)) ∈ xWall := xw 1059 (by decide +kernel) rfl
theorem w_966 : (Jvm.Cond.selects "ThinRow" ({ cls := "ThinRow", name := "tell", desc := "(II)I" } : Jvm.MethodName) ({ cls := "ThinRow", name := "tell", desc := "(II)I" } : Jvm.MethodName)) ∈ xWall := xw 1060 (by decide +kernel) rfl
theorem w_967 : (Jvm.Cond.code ({ cls := "ThinRow", name := "tell", desc := "(II)I" } : Jvm.MethodName) prog_1_method_43_code (4 : Nat) (Option.some Jvm.ClassFile.FieldType.int)) ∈ xWall := xw 1061 (by decide +kernel) rfl
theorem w_997 : (Jvm.Cond.methodLink "ThinRowLaw" (187 : Nat) ({ cls := "ThinRow", name := "octet", desc := "(I)I" } : Jvm.MethodName)) ∈ xWall := xw 1091 (by decide +kernel) rfl
theorem w_998 : (Jvm.Cond.instanceMethod ({ cls := "ThinRow", name := "octet", desc := "(I)I" } : Jvm.MethodName)) ∈ xWall := xw 1092 (by decide +kernel) rfl
theorem w_999 : (Jvm.Cond.selects "ThinRow" ({ cls := "ThinRow", name := "octet", desc := "(I)I" } : Jvm.MethodName) ({ cls := "ThinRow", name := "octet", desc := "(I)I" } : Jvm.MethodName)) ∈ xWall := xw 1093 (by decide +kernel) rfl
theorem w_1000 : (Jvm.Cond.code ({ cls := "ThinRow", name := "octet", desc := "(I)I" } : Jvm.MethodName) prog_1_method_44_code (2 : Nat) (Option.some Jvm.ClassFile.FieldType.int)) ∈ xWall := xw 1094 (by decide +kernel) rfl
theorem w_1001 : (Jvm.Cond.methodLink "ThinRow" (308 : Nat) ({ cls := "ThinRow$Bytes", name := "at", desc := "(I)I" } : Jvm.MethodName)) ∈ xWall := xw 1095 (by decide +kernel) rfl
theorem w_1002 : (Jvm.Cond.classLink "ThinRowLaw" (10 : Nat) "ThinRowModel") ∈ xWall := xw 1096 (by decide +kernel) rfl
theorem w_1003 : (Jvm.Cond.instantiable "ThinRowModel" (26 : Nat)) ∈ xWall := xw 1097 (by decide +kernel) rfl
theorem w_1004 : (Jvm.Cond.methodLink "ThinRowLaw" (12 : Nat) ({ cls := "ThinRowModel", name := "<init>", desc := "()V" } : Jvm.MethodName)) ∈ xWall := xw 1098 (by decide +kernel) rfl
theorem w_1005 : (Jvm.Cond.instanceMethod ({ cls := "ThinRowModel", name := "<init>", desc := "()V" } : Jvm.MethodName)) ∈ xWall := xw 1099 (by decide +kernel) rfl
theorem w_1006 : (Jvm.Cond.code ({ cls := "ThinRowModel", name := "<init>", desc := "()V" } : Jvm.MethodName) prog_14_method_4_code (1 : Nat) (Option.none : Option Jvm.ClassFile.FieldType)) ∈ xWall := xw 1100 (by decide +kernel) rfl
theorem w_1007 : (Jvm.Cond.methodLink "ThinRowModel" (1 : Nat) ({ cls := "java/lang/Object", name := "<init>", desc := "()V" } : Jvm.MethodName)) ∈ xWall := xw 1101 (by decide +kernel) rfl
theorem w_1008 : (Jvm.Cond.fieldLink "ThinRowModel" (7 : Nat) "ThinRowModel" "state" "[I") ∈ xWall := xw 1102 (by decide +kernel) rfl
theorem w_1009 : (Jvm.Cond.fieldLink "ThinRowModel" (13 : Nat) "ThinRowModel" "was" "[I") ∈ xWall := xw 1103 (by decide +kernel) rfl
theorem w_1010 : (Jvm.Cond.fieldLink "ThinRowModel" (16 : Nat) "ThinRowModel" "kept" "[I") ∈ xWall := xw 1104 (by decide +kernel) rfl
theorem w_1011 : (Jvm.Cond.fieldLink "ThinRowModel" (87 : Nat) "ThinRowModel" "keptMany" "I") ∈ xWall := xw 1105 (by decide +kernel) rfl
theorem w_1012 : (Jvm.Cond.fieldLink "ThinRowModel" (19 : Nat) "ThinRowModel" "tape" "[I") ∈ xWall := xw 1106 (by decide +kernel) rfl
theorem w_1013 : (Jvm.Cond.fieldLink "ThinRowModel" (100 : Nat) "ThinRowModel" "taped" "I") ∈ xWall := xw 1107 (by decide +kernel) rfl
theorem w_1014 : (Jvm.Cond.fieldLink "ThinRowModel" (127 : Nat) "ThinRowModel" "faultKind" "I") ∈ xWall := xw 1108 (by decide +kernel) rfl
theorem w_1015 : (Jvm.Cond.fieldLink "ThinRowModel" (22 : Nat) "ThinRowModel" "faultPlace" "I") ∈ xWall := xw 1109 (by decide +kernel) rfl
theorem w_1016 : (Jvm.Cond.fieldLink "ThinRowModel" (103 : Nat) "ThinRowModel" "spot" "I") ∈ xWall := xw 1110 (by decide +kernel) rfl
theorem w_1017 : (Jvm.Cond.fieldLink "ThinRowModel" (109 : Nat) "ThinRowModel" "begin" "I") ∈ xWall := xw 1111 (by decide +kernel) rfl
theorem w_1018 : (Jvm.Cond.fieldLink "ThinRowModel" (115 : Nat) "ThinRowModel" "token" "I") ∈ xWall := xw 1112 (by decide +kernel) rfl
theorem w_1019 : (Jvm.Cond.fieldLink "ThinRowModel" (112 : Nat) "ThinRowModel" "value" "I") ∈ xWall := xw 1113 (by decide +kernel) rfl
theorem w_1020 : (Jvm.Cond.fieldLink "ThinRowModel" (123 : Nat) "ThinRowModel" "bad" "Z") ∈ xWall := xw 1114 (by decide +kernel) rfl
theorem w_1021 : (Jvm.Cond.fieldLink "ThinRowModel" (26 : Nat) "ThinRowModel" "order" "[I") ∈ xWall := xw 1115 (by decide +kernel) rfl
theorem w_1022 : (Jvm.Cond.fieldLink "ThinRowModel" (29 : Nat) "ThinRowModel" "rest" "[I") ∈ xWall := xw 1116 (by decide +kernel) rfl
theorem w_1023 : (Jvm.Cond.fieldLink "ThinRowModel" (32 : Nat) "ThinRowModel" "ways" "[I") ∈ xWall := xw 1117 (by decide +kernel) rfl
theorem w_1024 : (Jvm.Cond.fieldLink "ThinRowModel" (35 : Nat) "ThinRowModel" "costs" "[I") ∈ xWall := xw 1118 (by decide +kernel) rfl
theorem w_1028 : (Jvm.Cond.fieldLink "ThinRowModel" (38 : Nat) "ThinRowModel" "bandBest" "[I") ∈ xWall := xw 1122 (by decide +kernel) rfl
theorem w_1029 : (Jvm.Cond.fieldLink "ThinRowModel" (41 : Nat) "ThinRowModel" "found" "[I") ∈ xWall := xw 1123 (by decide +kernel) rfl
theorem w_1030 : (Jvm.Cond.fieldLink "ThinRowModel" (44 : Nat) "ThinRowModel" "drawn" "[I") ∈ xWall := xw 1124 (by decide +kernel) rfl
theorem w_1031 : (Jvm.Cond.fieldLink "ThinRowModel" (47 : Nat) "ThinRowModel" "joined" "[I") ∈ xWall := xw 1125 (by decide +kernel) rfl
theorem w_1032 : (Jvm.Cond.fieldLink "ThinRowModel" (50 : Nat) "ThinRowModel" "out" "[I") ∈ xWall := xw 1126 (by decide +kernel) rfl
theorem w_1033 : (Jvm.Cond.fieldLink "ThinRowModel" (193 : Nat) "ThinRowModel" "outs" "I") ∈ xWall := xw 1127 (by decide +kernel) rfl
theorem w_1034 : (Jvm.Cond.laysFinal "ThinRowModel" "ThinRowModel" "state" "[I") ∈ xWall := xw 1128 (by decide +kernel) rfl
theorem w_1036 : (Jvm.Cond.laysFinal "ThinRowModel" "ThinRowModel" "was" "[I") ∈ xWall := xw 1130 (by decide +kernel) rfl
theorem w_1038 : (Jvm.Cond.laysFinal "ThinRowModel" "ThinRowModel" "kept" "[I") ∈ xWall := xw 1132 (by decide +kernel) rfl
theorem w_1040 : (Jvm.Cond.lays "ThinRowModel" "ThinRowModel" "keptMany" "I") ∈ xWall := xw 1134 (by decide +kernel) rfl
theorem w_1042 : (Jvm.Cond.laysFinal "ThinRowModel" "ThinRowModel" "tape" "[I") ∈ xWall := xw 1136 (by decide +kernel) rfl
theorem w_1044 : (Jvm.Cond.lays "ThinRowModel" "ThinRowModel" "taped" "I") ∈ xWall := xw 1138 (by decide +kernel) rfl
theorem w_1046 : (Jvm.Cond.lays "ThinRowModel" "ThinRowModel" "faultKind" "I") ∈ xWall := xw 1140 (by decide +kernel) rfl
theorem w_1048 : (Jvm.Cond.lays "ThinRowModel" "ThinRowModel" "faultPlace" "I") ∈ xWall := xw 1142 (by decide +kernel) rfl
theorem w_1050 : (Jvm.Cond.lays "ThinRowModel" "ThinRowModel" "spot" "I") ∈ xWall := xw 1144 (by decide +kernel) rfl
theorem w_1052 : (Jvm.Cond.lays "ThinRowModel" "ThinRowModel" "begin" "I") ∈ xWall := xw 1146 (by decide +kernel) rfl
theorem w_1054 : (Jvm.Cond.lays "ThinRowModel" "ThinRowModel" "token" "I") ∈ xWall := xw 1148 (by decide +kernel) rfl
theorem w_1056 : (Jvm.Cond.lays "ThinRowModel" "ThinRowModel" "value" "I") ∈ xWall := xw 1150 (by decide +kernel) rfl
theorem w_1058 : (Jvm.Cond.lays "ThinRowModel" "ThinRowModel" "bad" "Z") ∈ xWall := xw 1152 (by decide +kernel) rfl
theorem w_1060 : (Jvm.Cond.laysFinal "ThinRowModel" "ThinRowModel" "order" "[I") ∈ xWall := xw 1154 (by decide +kernel) rfl
theorem w_1062 : (Jvm.Cond.laysFinal "ThinRowModel" "ThinRowModel" "rest" "[I") ∈ xWall := xw 1156 (by decide +kernel) rfl
theorem w_1064 : (Jvm.Cond.laysFinal "ThinRowModel" "ThinRowModel" "ways" "[I") ∈ xWall := xw 1158 (by decide +kernel) rfl
theorem w_1066 : (Jvm.Cond.laysFinal "ThinRowModel" "ThinRowModel" "costs" "[I") ∈ xWall := xw 1160 (by decide +kernel) rfl
theorem w_1068 : (Jvm.Cond.lays "ThinRowModel" "ThinRowModel" "full" "I") ∈ xWall := xw 1162 (by decide +kernel) rfl
theorem w_1070 : (Jvm.Cond.lays "ThinRowModel" "ThinRowModel" "bandRows" "I") ∈ xWall := xw 1164 (by decide +kernel) rfl
theorem w_1072 : (Jvm.Cond.lays "ThinRowModel" "ThinRowModel" "bandFirsts" "I") ∈ xWall := xw 1166 (by decide +kernel) rfl
theorem w_1074 : (Jvm.Cond.laysFinal "ThinRowModel" "ThinRowModel" "bandBest" "[I") ∈ xWall := xw 1168 (by decide +kernel) rfl
theorem w_1076 : (Jvm.Cond.laysFinal "ThinRowModel" "ThinRowModel" "found" "[I") ∈ xWall := xw 1170 (by decide +kernel) rfl
theorem w_1078 : (Jvm.Cond.laysFinal "ThinRowModel" "ThinRowModel" "drawn" "[I") ∈ xWall := xw 1172 (by decide +kernel) rfl
theorem w_1080 : (Jvm.Cond.laysFinal "ThinRowModel" "ThinRowModel" "joined" "[I") ∈ xWall := xw 1174 (by decide +kernel) rfl
theorem w_1082 : (Jvm.Cond.laysFinal "ThinRowModel" "ThinRowModel" "out" "[I") ∈ xWall := xw 1176 (by decide +kernel) rfl
theorem w_1084 : (Jvm.Cond.lays "ThinRowModel" "ThinRowModel" "outs" "I") ∈ xWall := xw 1178 (by decide +kernel) rfl
theorem w_1087 : (Jvm.Cond.methodLink "ThinRowLaw" (182 : Nat) ({ cls := "ThinRowModel", name := "undo", desc := "()I" } : Jvm.MethodName)) ∈ xWall := xw 1181 (by decide +kernel) rfl
theorem w_1088 : (Jvm.Cond.instanceMethod ({ cls := "ThinRowModel", name := "undo", desc := "()I" } : Jvm.MethodName)) ∈ xWall := xw 1182 (by decide +kernel) rfl
theorem w_1089 : (Jvm.Cond.selects "ThinRowModel" ({ cls := "ThinRowModel", name := "undo", desc := "()I" } : Jvm.MethodName) ({ cls := "ThinRowModel", name := "undo", desc := "()I" } : Jvm.MethodName)) ∈ xWall := xw 1183 (by decide +kernel) rfl
theorem w_1090 : (Jvm.Cond.code ({ cls := "ThinRowModel", name := "undo", desc := "()I" } : Jvm.MethodName) prog_14_method_20_code (2 : Nat) (Option.some Jvm.ClassFile.FieldType.int)) ∈ xWall := xw 1184 (by decide +kernel) rfl
theorem w_1091 : (Jvm.Cond.methodLink "ThinRowLaw" (177 : Nat) ({ cls := "ThinRowModel", name := "drops", desc := "(I)I" } : Jvm.MethodName)) ∈ xWall := xw 1185 (by decide +kernel) rfl
theorem w_1092 : (Jvm.Cond.instanceMethod ({ cls := "ThinRowModel", name := "drops", desc := "(I)I" } : Jvm.MethodName)) ∈ xWall := xw 1186 (by decide +kernel) rfl
theorem w_1093 : (Jvm.Cond.selects "ThinRowModel" ({ cls := "ThinRowModel", name := "drops", desc := "(I)I" } : Jvm.MethodName) ({ cls := "ThinRowModel", name := "drops", desc := "(I)I" } : Jvm.MethodName)) ∈ xWall := xw 1187 (by decide +kernel) rfl
theorem w_1094 : (Jvm.Cond.code ({ cls := "ThinRowModel", name := "drops", desc := "(I)I" } : Jvm.MethodName) prog_14_method_22_code (2 : Nat) (Option.some Jvm.ClassFile.FieldType.int)) ∈ xWall := xw 1188 (by decide +kernel) rfl
theorem w_1095 : (Jvm.Cond.methodLink "ThinRowModel" (59 : Nat) ({ cls := "ThinRowModel", name := "isSlot", desc := "(I)Z" } : Jvm.MethodName)) ∈ xWall := xw 1189 (by decide +kernel) rfl
theorem w_1096 : (Jvm.Cond.static ({ cls := "ThinRowModel", name := "isSlot", desc := "(I)Z" } : Jvm.MethodName)) ∈ xWall := xw 1190 (by decide +kernel) rfl
theorem w_1097 : (Jvm.Cond.code ({ cls := "ThinRowModel", name := "isSlot", desc := "(I)Z" } : Jvm.MethodName) prog_14_method_5_code (1 : Nat) (Option.some Jvm.ClassFile.FieldType.boolean)) ∈ xWall := xw 1191 (by decide +kernel) rfl
theorem w_1098 : (Jvm.Cond.constantLong "ThinRowModel" (53 : Nat) (2 : Int64)) ∈ xWall := xw 1192 (by decide +kernel) rfl
theorem w_1099 : (Jvm.Cond.methodLink "ThinRowModel" (55 : Nat) ({ cls := "ThinRowModel", name := "in", desc := "(JJJ)Z" } : Jvm.MethodName)) ∈ xWall := xw 1193 (by decide +kernel) rfl
theorem w_1100 : (Jvm.Cond.static ({ cls := "ThinRowModel", name := "in", desc := "(JJJ)Z" } : Jvm.MethodName)) ∈ xWall := xw 1194 (by decide +kernel) rfl
theorem w_1101 : (Jvm.Cond.code ({ cls := "ThinRowModel", name := "in", desc := "(JJJ)Z" } : Jvm.MethodName) prog_14_method_1_code (6 : Nat) (Option.some Jvm.ClassFile.FieldType.boolean)) ∈ xWall := xw 1195 (by decide +kernel) rfl
theorem w_1102 : (Jvm.Cond.methodLink "ThinRowModel" (67 : Nat) ({ cls := "ThinRowModel", name := "isNet", desc := "(I)Z" } : Jvm.MethodName)) ∈ xWall := xw 1196 (by decide +kernel) rfl
theorem w_1104 : (Jvm.Cond.instanceMethod ({ cls := "ThinRowModel", name := "isNet", desc := "(I)Z" } : Jvm.MethodName)) ∈ xWall := xw 1198 (by decide +kernel) rfl
theorem w_1105 : (Jvm.Cond.code ({ cls := "ThinRowModel", name := "isNet", desc := "(I)Z" } : Jvm.MethodName) prog_14_method_7_code (2 : Nat) (Option.some Jvm.ClassFile.FieldType.boolean)) ∈ xWall := xw 1199 (by decide +kernel) rfl
theorem w_1106 : (Jvm.Cond.methodLink "ThinRowModel" (63 : Nat) ({ cls := "ThinRowModel", name := "points", desc := "(I)I" } : Jvm.MethodName)) ∈ xWall := xw 1200 (by decide +kernel) rfl
theorem w_1108 : (Jvm.Cond.instanceMethod ({ cls := "ThinRowModel", name := "points", desc := "(I)I" } : Jvm.MethodName)) ∈ xWall := xw 1202 (by decide +kernel) rfl
theorem w_1109 : (Jvm.Cond.code ({ cls := "ThinRowModel", name := "points", desc := "(I)I" } : Jvm.MethodName) prog_14_method_6_code (2 : Nat) (Option.some Jvm.ClassFile.FieldType.int)) ∈ xWall := xw 1203 (by decide +kernel) rfl
theorem w_1110 : (Jvm.Cond.methodLink "ThinRowModel" (93 : Nat) ({ cls := "ThinRowModel", name := "remembers", desc := "()V" } : Jvm.MethodName)) ∈ xWall := xw 1204 (by decide +kernel) rfl
theorem w_1112 : (Jvm.Cond.instanceMethod ({ cls := "ThinRowModel", name := "remembers", desc := "()V" } : Jvm.MethodName)) ∈ xWall := xw 1206 (by decide +kernel) rfl
theorem w_1113 : (Jvm.Cond.code ({ cls := "ThinRowModel", name := "remembers", desc := "()V" } : Jvm.MethodName) prog_14_method_17_code (2 : Nat) (Option.none : Option Jvm.ClassFile.FieldType)) ∈ xWall := xw 1207 (by decide +kernel) rfl
theorem w_1114 : (Jvm.Cond.methodLink "ThinRowModel" (96 : Nat) ({ cls := "ThinRowModel", name := "empties", desc := "(I)V" } : Jvm.MethodName)) ∈ xWall := xw 1208 (by decide +kernel) rfl
theorem w_1116 : (Jvm.Cond.instanceMethod ({ cls := "ThinRowModel", name := "empties", desc := "(I)V" } : Jvm.MethodName)) ∈ xWall := xw 1210 (by decide +kernel) rfl
theorem w_1117 : (Jvm.Cond.code ({ cls := "ThinRowModel", name := "empties", desc := "(I)V" } : Jvm.MethodName) prog_14_method_21_code (3 : Nat) (Option.none : Option Jvm.ClassFile.FieldType)) ∈ xWall := xw 1211 (by decide +kernel) rfl
theorem w_1122 : (Jvm.Cond.methodLink "ThinRowLaw" (17 : Nat) ({ cls := "ThinRowModel", name := "feed", desc := "(IIIII)I" } : Jvm.MethodName)) ∈ xWall := xw 1216 (by decide +kernel) rfl
theorem w_1123 : (Jvm.Cond.instanceMethod ({ cls := "ThinRowModel", name := "feed", desc := "(IIIII)I" } : Jvm.MethodName)) ∈ xWall := xw 1217 (by decide +kernel) rfl
theorem w_1124 : (Jvm.Cond.selects "ThinRowModel" ({ cls := "ThinRowModel", name := "feed", desc := "(IIIII)I" } : Jvm.MethodName) ({ cls := "ThinRowModel", name := "feed", desc := "(IIIII)I" } : Jvm.MethodName)) ∈ xWall := xw 1218 (by decide +kernel) rfl
theorem w_1125 : (Jvm.Cond.code ({ cls := "ThinRowModel", name := "feed", desc := "(IIIII)I" } : Jvm.MethodName) prog_14_method_23_code (8 : Nat) (Option.some Jvm.ClassFile.FieldType.int)) ∈ xWall := xw 1219 (by decide +kernel) rfl
theorem w_1126 : (Jvm.Cond.methodLink "ThinRowLaw" (22 : Nat) ({ cls := "ThinRowModel", name := "end", desc := "(I)I" } : Jvm.MethodName)) ∈ xWall := xw 1220 (by decide +kernel) rfl
theorem w_1127 : (Jvm.Cond.instanceMethod ({ cls := "ThinRowModel", name := "end", desc := "(I)I" } : Jvm.MethodName)) ∈ xWall := xw 1221 (by decide +kernel) rfl
theorem w_1128 : (Jvm.Cond.selects "ThinRowModel" ({ cls := "ThinRowModel", name := "end", desc := "(I)I" } : Jvm.MethodName) ({ cls := "ThinRowModel", name := "end", desc := "(I)I" } : Jvm.MethodName)) ∈ xWall := xw 1222 (by decide +kernel) rfl
theorem w_1129 : (Jvm.Cond.code ({ cls := "ThinRowModel", name := "end", desc := "(I)I" } : Jvm.MethodName) prog_14_method_24_code (2 : Nat) (Option.some Jvm.ClassFile.FieldType.int)) ∈ xWall := xw 1223 (by decide +kernel) rfl
theorem w_1130 : (Jvm.Cond.methodLink "ThinRowLaw" (26 : Nat) ({ cls := "ThinRowModel", name := "told", desc := "(I)I" } : Jvm.MethodName)) ∈ xWall := xw 1224 (by decide +kernel) rfl
theorem w_1131 : (Jvm.Cond.instanceMethod ({ cls := "ThinRowModel", name := "told", desc := "(I)I" } : Jvm.MethodName)) ∈ xWall := xw 1225 (by decide +kernel) rfl
theorem w_1132 : (Jvm.Cond.selects "ThinRowModel" ({ cls := "ThinRowModel", name := "told", desc := "(I)I" } : Jvm.MethodName) ({ cls := "ThinRowModel", name := "told", desc := "(I)I" } : Jvm.MethodName)) ∈ xWall := xw 1226 (by decide +kernel) rfl
theorem w_1133 : (Jvm.Cond.code ({ cls := "ThinRowModel", name := "told", desc := "(I)I" } : Jvm.MethodName) prog_14_method_36_code (3 : Nat) (Option.some Jvm.ClassFile.FieldType.int)) ∈ xWall := xw 1227 (by decide +kernel) rfl
theorem w_1134 : (Jvm.Cond.methodLink "ThinRowModel" (130 : Nat) ({ cls := "ThinRowModel", name := "next", desc := "()V" } : Jvm.MethodName)) ∈ xWall := xw 1228 (by decide +kernel) rfl
theorem w_1136 : (Jvm.Cond.instanceMethod ({ cls := "ThinRowModel", name := "next", desc := "()V" } : Jvm.MethodName)) ∈ xWall := xw 1230 (by decide +kernel) rfl
theorem w_1137 : (Jvm.Cond.code ({ cls := "ThinRowModel", name := "next", desc := "()V" } : Jvm.MethodName) prog_14_method_26_code (1 : Nat) (Option.none : Option Jvm.ClassFile.FieldType)) ∈ xWall := xw 1231 (by decide +kernel) rfl
theorem w_1138 : (Jvm.Cond.methodLink "ThinRowModel" (106 : Nat) ({ cls := "ThinRowModel", name := "isAt", desc := "(II)Z" } : Jvm.MethodName)) ∈ xWall := xw 1232 (by decide +kernel) rfl
theorem w_1140 : (Jvm.Cond.instanceMethod ({ cls := "ThinRowModel", name := "isAt", desc := "(II)Z" } : Jvm.MethodName)) ∈ xWall := xw 1234 (by decide +kernel) rfl
theorem w_1141 : (Jvm.Cond.code ({ cls := "ThinRowModel", name := "isAt", desc := "(II)Z" } : Jvm.MethodName) prog_14_method_25_code (3 : Nat) (Option.some Jvm.ClassFile.FieldType.boolean)) ∈ xWall := xw 1235 (by decide +kernel) rfl
theorem w_1143 : (Jvm.Cond.methodLink "ThinRowModel" (187 : Nat) ({ cls := "ThinRowModel", name := "readsNet", desc := "(I)V" } : Jvm.MethodName)) ∈ xWall := xw 1237 (by decide +kernel) rfl
theorem w_1145 : (Jvm.Cond.instanceMethod ({ cls := "ThinRowModel", name := "readsNet", desc := "(I)V" } : Jvm.MethodName)) ∈ xWall := xw 1239 (by decide +kernel) rfl
theorem w_1146 : (Jvm.Cond.code ({ cls := "ThinRowModel", name := "readsNet", desc := "(I)V" } : Jvm.MethodName) prog_14_method_35_code (4 : Nat) (Option.none : Option Jvm.ClassFile.FieldType)) ∈ xWall := xw 1240 (by decide +kernel) rfl
theorem w_1148 : (Jvm.Cond.methodLink "ThinRowModel" (175 : Nat) ({ cls := "ThinRowModel", name := "isWord", desc := "(Ljava/lang/String;)Z" } : Jvm.MethodName)) ∈ xWall := xw 1242 (by decide +kernel) rfl
theorem w_1150 : (Jvm.Cond.instanceMethod ({ cls := "ThinRowModel", name := "isWord", desc := "(Ljava/lang/String;)Z" } : Jvm.MethodName)) ∈ xWall := xw 1244 (by decide +kernel) rfl
theorem w_1151 : (Jvm.Cond.code ({ cls := "ThinRowModel", name := "isWord", desc := "(Ljava/lang/String;)Z" } : Jvm.MethodName) prog_14_method_29_code (4 : Nat) (Option.some Jvm.ClassFile.FieldType.boolean)) ∈ xWall := xw 1245 (by decide +kernel) rfl
theorem w_1152 : (Jvm.Cond.methodLink "ThinRowModel" (133 : Nat) ({ cls := "java/lang/String", name := "length", desc := "()I" } : Jvm.MethodName)) ∈ xWall := xw 1246 (by decide +kernel) rfl
theorem w_1154 : (Jvm.Cond.methodLink "ThinRowModel" (158 : Nat) ({ cls := "ThinRowModel", name := "must", desc := "(Z)V" } : Jvm.MethodName)) ∈ xWall := xw 1248 (by decide +kernel) rfl
theorem w_1156 : (Jvm.Cond.instanceMethod ({ cls := "ThinRowModel", name := "must", desc := "(Z)V" } : Jvm.MethodName)) ∈ xWall := xw 1250 (by decide +kernel) rfl
theorem w_1157 : (Jvm.Cond.code ({ cls := "ThinRowModel", name := "must", desc := "(Z)V" } : Jvm.MethodName) prog_14_method_30_code (2 : Nat) (Option.none : Option Jvm.ClassFile.FieldType)) ∈ xWall := xw 1251 (by decide +kernel) rfl
theorem w_1158 : (Jvm.Cond.methodLink "ThinRowModel" (143 : Nat) ({ cls := "ThinRowModel", name := "faults", desc := "(I)V" } : Jvm.MethodName)) ∈ xWall := xw 1252 (by decide +kernel) rfl
theorem w_1160 : (Jvm.Cond.instanceMethod ({ cls := "ThinRowModel", name := "faults", desc := "(I)V" } : Jvm.MethodName)) ∈ xWall := xw 1254 (by decide +kernel) rfl
theorem w_1161 : (Jvm.Cond.code ({ cls := "ThinRowModel", name := "faults", desc := "(I)V" } : Jvm.MethodName) prog_14_method_27_code (2 : Nat) (Option.none : Option Jvm.ClassFile.FieldType)) ∈ xWall := xw 1255 (by decide +kernel) rfl
theorem w_1162 : (Jvm.Cond.methodLink "ThinRowModel" (146 : Nat) ({ cls := "ThinRowModel", name := "passes", desc := "()V" } : Jvm.MethodName)) ∈ xWall := xw 1256 (by decide +kernel) rfl
theorem w_1164 : (Jvm.Cond.instanceMethod ({ cls := "ThinRowModel", name := "passes", desc := "()V" } : Jvm.MethodName)) ∈ xWall := xw 1258 (by decide +kernel) rfl
theorem w_1165 : (Jvm.Cond.code ({ cls := "ThinRowModel", name := "passes", desc := "()V" } : Jvm.MethodName) prog_14_method_28_code (1 : Nat) (Option.none : Option Jvm.ClassFile.FieldType)) ∈ xWall := xw 1259 (by decide +kernel) rfl
theorem w_1166 : (Jvm.Cond.methodLink "ThinRowModel" (149 : Nat) ({ cls := "ThinRowModel", name := "here", desc := "(II)I" } : Jvm.MethodName)) ∈ xWall := xw 1260 (by decide +kernel) rfl
theorem w_1168 : (Jvm.Cond.instanceMethod ({ cls := "ThinRowModel", name := "here", desc := "(II)I" } : Jvm.MethodName)) ∈ xWall := xw 1262 (by decide +kernel) rfl
theorem w_1169 : (Jvm.Cond.code ({ cls := "ThinRowModel", name := "here", desc := "(II)I" } : Jvm.MethodName) prog_14_method_32_code (3 : Nat) (Option.some Jvm.ClassFile.FieldType.int)) ∈ xWall := xw 1263 (by decide +kernel) rfl
theorem w_1170 : (Jvm.Cond.methodLink "ThinRowModel" (169 : Nat) ({ cls := "ThinRowModel", name := "puts", desc := "(III)V" } : Jvm.MethodName)) ∈ xWall := xw 1264 (by decide +kernel) rfl
theorem w_1172 : (Jvm.Cond.instanceMethod ({ cls := "ThinRowModel", name := "puts", desc := "(III)V" } : Jvm.MethodName)) ∈ xWall := xw 1266 (by decide +kernel) rfl
theorem w_1173 : (Jvm.Cond.code ({ cls := "ThinRowModel", name := "puts", desc := "(III)V" } : Jvm.MethodName) prog_14_method_14_code (4 : Nat) (Option.none : Option Jvm.ClassFile.FieldType)) ∈ xWall := xw 1267 (by decide +kernel) rfl
theorem w_1174 : (Jvm.Cond.methodLink "ThinRowModel" (155 : Nat) ({ cls := "ThinRowModel", name := "isSign", desc := "(I)Z" } : Jvm.MethodName)) ∈ xWall := xw 1268 (by decide +kernel) rfl
theorem w_1176 : (Jvm.Cond.instanceMethod ({ cls := "ThinRowModel", name := "isSign", desc := "(I)Z" } : Jvm.MethodName)) ∈ xWall := xw 1270 (by decide +kernel) rfl
theorem w_1177 : (Jvm.Cond.code ({ cls := "ThinRowModel", name := "isSign", desc := "(I)Z" } : Jvm.MethodName) prog_14_method_31_code (2 : Nat) (Option.some Jvm.ClassFile.FieldType.boolean)) ∈ xWall := xw 1271 (by decide +kernel) rfl
theorem w_1213 : (Jvm.Cond.methodLink "ThinRowLaw" (30 : Nat) ({ cls := "ThinRowModel", name := "fault", desc := "(I)I" } : Jvm.MethodName)) ∈ xWall := xw 1307 (by decide +kernel) rfl
theorem w_1214 : (Jvm.Cond.instanceMethod ({ cls := "ThinRowModel", name := "fault", desc := "(I)I" } : Jvm.MethodName)) ∈ xWall := xw 1308 (by decide +kernel) rfl
theorem w_1215 : (Jvm.Cond.selects "ThinRowModel" ({ cls := "ThinRowModel", name := "fault", desc := "(I)I" } : Jvm.MethodName) ({ cls := "ThinRowModel", name := "fault", desc := "(I)I" } : Jvm.MethodName)) ∈ xWall := xw 1309 (by decide +kernel) rfl
theorem w_1216 : (Jvm.Cond.code ({ cls := "ThinRowModel", name := "fault", desc := "(I)I" } : Jvm.MethodName) prog_14_method_37_code (2 : Nat) (Option.some Jvm.ClassFile.FieldType.int)) ∈ xWall := xw 1310 (by decide +kernel) rfl
theorem w_1217 : (Jvm.Cond.methodLink "ThinRowLaw" (34 : Nat) ({ cls := "ThinRowModel", name := "count", desc := "(I)I" } : Jvm.MethodName)) ∈ xWall := xw 1311 (by decide +kernel) rfl
theorem w_1218 : (Jvm.Cond.instanceMethod ({ cls := "ThinRowModel", name := "count", desc := "(I)I" } : Jvm.MethodName)) ∈ xWall := xw 1312 (by decide +kernel) rfl
theorem w_1219 : (Jvm.Cond.selects "ThinRowModel" ({ cls := "ThinRowModel", name := "count", desc := "(I)I" } : Jvm.MethodName) ({ cls := "ThinRowModel", name := "count", desc := "(I)I" } : Jvm.MethodName)) ∈ xWall := xw 1313 (by decide +kernel) rfl
theorem w_1220 : (Jvm.Cond.code ({ cls := "ThinRowModel", name := "count", desc := "(I)I" } : Jvm.MethodName) prog_14_method_38_code (4 : Nat) (Option.some Jvm.ClassFile.FieldType.int)) ∈ xWall := xw 1314 (by decide +kernel) rfl
theorem w_1221 : (Jvm.Cond.methodLink "ThinRowLaw" (39 : Nat) ({ cls := "ThinRowModel", name := "look", desc := "(II)I" } : Jvm.MethodName)) ∈ xWall := xw 1315 (by decide +kernel) rfl
theorem w_1222 : (Jvm.Cond.instanceMethod ({ cls := "ThinRowModel", name := "look", desc := "(II)I" } : Jvm.MethodName)) ∈ xWall := xw 1316 (by decide +kernel) rfl
theorem w_1223 : (Jvm.Cond.selects "ThinRowModel" ({ cls := "ThinRowModel", name := "look", desc := "(II)I" } : Jvm.MethodName) ({ cls := "ThinRowModel", name := "look", desc := "(II)I" } : Jvm.MethodName)) ∈ xWall := xw 1317 (by decide +kernel) rfl
theorem w_1224 : (Jvm.Cond.code ({ cls := "ThinRowModel", name := "look", desc := "(II)I" } : Jvm.MethodName) prog_14_method_45_code (5 : Nat) (Option.some Jvm.ClassFile.FieldType.int)) ∈ xWall := xw 1318 (by decide +kernel) rfl
theorem w_1251 : (Jvm.Cond.methodLink "ThinRowLaw" (43 : Nat) ({ cls := "ThinRowModel", name := "near", desc := "(II)I" } : Jvm.MethodName)) ∈ xWall := xw 1345 (by decide +kernel) rfl
theorem w_1252 : (Jvm.Cond.instanceMethod ({ cls := "ThinRowModel", name := "near", desc := "(II)I" } : Jvm.MethodName)) ∈ xWall := xw 1346 (by decide +kernel) rfl
theorem w_1253 : (Jvm.Cond.selects "ThinRowModel" ({ cls := "ThinRowModel", name := "near", desc := "(II)I" } : Jvm.MethodName) ({ cls := "ThinRowModel", name := "near", desc := "(II)I" } : Jvm.MethodName)) ∈ xWall := xw 1347 (by decide +kernel) rfl
theorem w_1254 : (Jvm.Cond.code ({ cls := "ThinRowModel", name := "near", desc := "(II)I" } : Jvm.MethodName) prog_14_method_46_code (3 : Nat) (Option.some Jvm.ClassFile.FieldType.int)) ∈ xWall := xw 1348 (by decide +kernel) rfl
theorem w_1255 : (Jvm.Cond.methodLink "ThinRowModel" (70 : Nat) ({ cls := "ThinRowModel", name := "isPoint", desc := "(II)Z" } : Jvm.MethodName)) ∈ xWall := xw 1349 (by decide +kernel) rfl
theorem w_1257 : (Jvm.Cond.instanceMethod ({ cls := "ThinRowModel", name := "isPoint", desc := "(II)Z" } : Jvm.MethodName)) ∈ xWall := xw 1351 (by decide +kernel) rfl
theorem w_1258 : (Jvm.Cond.code ({ cls := "ThinRowModel", name := "isPoint", desc := "(II)Z" } : Jvm.MethodName) prog_14_method_8_code (3 : Nat) (Option.some Jvm.ClassFile.FieldType.boolean)) ∈ xWall := xw 1352 (by decide +kernel) rfl
theorem w_1259 : (Jvm.Cond.methodLink "ThinRowLaw" (48 : Nat) ({ cls := "ThinRowModel", name := "line", desc := "(III)I" } : Jvm.MethodName)) ∈ xWall := xw 1353 (by decide +kernel) rfl
theorem w_1260 : (Jvm.Cond.instanceMethod ({ cls := "ThinRowModel", name := "line", desc := "(III)I" } : Jvm.MethodName)) ∈ xWall := xw 1354 (by decide +kernel) rfl
theorem w_1261 : (Jvm.Cond.selects "ThinRowModel" ({ cls := "ThinRowModel", name := "line", desc := "(III)I" } : Jvm.MethodName) ({ cls := "ThinRowModel", name := "line", desc := "(III)I" } : Jvm.MethodName)) ∈ xWall := xw 1355 (by decide +kernel) rfl
theorem w_1262 : (Jvm.Cond.code ({ cls := "ThinRowModel", name := "line", desc := "(III)I" } : Jvm.MethodName) prog_14_method_47_code (4 : Nat) (Option.some Jvm.ClassFile.FieldType.int)) ∈ xWall := xw 1356 (by decide +kernel) rfl
theorem w_1263 : (Jvm.Cond.methodLink "ThinRowLaw" (52 : Nat) ({ cls := "ThinRowModel", name := "far", desc := "(III)I" } : Jvm.MethodName)) ∈ xWall := xw 1357 (by decide +kernel) rfl
theorem w_1264 : (Jvm.Cond.instanceMethod ({ cls := "ThinRowModel", name := "far", desc := "(III)I" } : Jvm.MethodName)) ∈ xWall := xw 1358 (by decide +kernel) rfl
theorem w_1265 : (Jvm.Cond.selects "ThinRowModel" ({ cls := "ThinRowModel", name := "far", desc := "(III)I" } : Jvm.MethodName) ({ cls := "ThinRowModel", name := "far", desc := "(III)I" } : Jvm.MethodName)) ∈ xWall := xw 1359 (by decide +kernel) rfl
theorem w_1266 : (Jvm.Cond.code ({ cls := "ThinRowModel", name := "far", desc := "(III)I" } : Jvm.MethodName) prog_14_method_48_code (4 : Nat) (Option.some Jvm.ClassFile.FieldType.int)) ∈ xWall := xw 1360 (by decide +kernel) rfl
theorem w_1267 : (Jvm.Cond.methodLink "ThinRowLaw" (56 : Nat) ({ cls := "ThinRowModel", name := "row", desc := "(II)I" } : Jvm.MethodName)) ∈ xWall := xw 1361 (by decide +kernel) rfl
theorem w_1268 : (Jvm.Cond.instanceMethod ({ cls := "ThinRowModel", name := "row", desc := "(II)I" } : Jvm.MethodName)) ∈ xWall := xw 1362 (by decide +kernel) rfl
theorem w_1269 : (Jvm.Cond.selects "ThinRowModel" ({ cls := "ThinRowModel", name := "row", desc := "(II)I" } : Jvm.MethodName) ({ cls := "ThinRowModel", name := "row", desc := "(II)I" } : Jvm.MethodName)) ∈ xWall := xw 1363 (by decide +kernel) rfl
theorem w_1270 : (Jvm.Cond.code ({ cls := "ThinRowModel", name := "row", desc := "(II)I" } : Jvm.MethodName) prog_14_method_49_code (3 : Nat) (Option.some Jvm.ClassFile.FieldType.int)) ∈ xWall := xw 1364 (by decide +kernel) rfl
theorem w_1275 : (Jvm.Cond.methodLink "ThinRowLaw" (60 : Nat) ({ cls := "ThinRowModel", name := "place", desc := "(II)I" } : Jvm.MethodName)) ∈ xWall := xw 1369 (by decide +kernel) rfl
theorem w_1276 : (Jvm.Cond.instanceMethod ({ cls := "ThinRowModel", name := "place", desc := "(II)I" } : Jvm.MethodName)) ∈ xWall := xw 1370 (by decide +kernel) rfl
theorem w_1277 : (Jvm.Cond.selects "ThinRowModel" ({ cls := "ThinRowModel", name := "place", desc := "(II)I" } : Jvm.MethodName) ({ cls := "ThinRowModel", name := "place", desc := "(II)I" } : Jvm.MethodName)) ∈ xWall := xw 1371 (by decide +kernel) rfl
theorem w_1278 : (Jvm.Cond.code ({ cls := "ThinRowModel", name := "place", desc := "(II)I" } : Jvm.MethodName) prog_14_method_51_code (3 : Nat) (Option.some Jvm.ClassFile.FieldType.int)) ∈ xWall := xw 1372 (by decide +kernel) rfl
theorem w_1283 : (Jvm.Cond.methodLink "ThinRowLaw" (64 : Nat) ({ cls := "ThinRowModel", name := "value", desc := "(II)I" } : Jvm.MethodName)) ∈ xWall := xw 1377 (by decide +kernel) rfl
theorem w_1284 : (Jvm.Cond.instanceMethod ({ cls := "ThinRowModel", name := "value", desc := "(II)I" } : Jvm.MethodName)) ∈ xWall := xw 1378 (by decide +kernel) rfl
theorem w_1285 : (Jvm.Cond.selects "ThinRowModel" ({ cls := "ThinRowModel", name := "value", desc := "(II)I" } : Jvm.MethodName) ({ cls := "ThinRowModel", name := "value", desc := "(II)I" } : Jvm.MethodName)) ∈ xWall := xw 1379 (by decide +kernel) rfl
theorem w_1286 : (Jvm.Cond.code ({ cls := "ThinRowModel", name := "value", desc := "(II)I" } : Jvm.MethodName) prog_14_method_62_code (3 : Nat) (Option.some Jvm.ClassFile.FieldType.int)) ∈ xWall := xw 1380 (by decide +kernel) rfl
theorem w_1324 : (Jvm.Cond.methodLink "ThinRowLaw" (68 : Nat) ({ cls := "ThinRowModel", name := "price", desc := "(III)I" } : Jvm.MethodName)) ∈ xWall := xw 1418 (by decide +kernel) rfl
theorem w_1325 : (Jvm.Cond.instanceMethod ({ cls := "ThinRowModel", name := "price", desc := "(III)I" } : Jvm.MethodName)) ∈ xWall := xw 1419 (by decide +kernel) rfl
theorem w_1326 : (Jvm.Cond.selects "ThinRowModel" ({ cls := "ThinRowModel", name := "price", desc := "(III)I" } : Jvm.MethodName) ({ cls := "ThinRowModel", name := "price", desc := "(III)I" } : Jvm.MethodName)) ∈ xWall := xw 1420 (by decide +kernel) rfl
theorem w_1327 : (Jvm.Cond.code ({ cls := "ThinRowModel", name := "price", desc := "(III)I" } : Jvm.MethodName) prog_14_method_65_code (4 : Nat) (Option.some Jvm.ClassFile.FieldType.int)) ∈ xWall := xw 1421 (by decide +kernel) rfl
theorem w_1339 : (Jvm.Cond.methodLink "ThinRowLaw" (72 : Nat) ({ cls := "ThinRowModel", name := "worst", desc := "(II)I" } : Jvm.MethodName)) ∈ xWall := xw 1433 (by decide +kernel) rfl
theorem w_1340 : (Jvm.Cond.instanceMethod ({ cls := "ThinRowModel", name := "worst", desc := "(II)I" } : Jvm.MethodName)) ∈ xWall := xw 1434 (by decide +kernel) rfl
theorem w_1341 : (Jvm.Cond.selects "ThinRowModel" ({ cls := "ThinRowModel", name := "worst", desc := "(II)I" } : Jvm.MethodName) ({ cls := "ThinRowModel", name := "worst", desc := "(II)I" } : Jvm.MethodName)) ∈ xWall := xw 1435 (by decide +kernel) rfl
theorem w_1342 : (Jvm.Cond.code ({ cls := "ThinRowModel", name := "worst", desc := "(II)I" } : Jvm.MethodName) prog_14_method_66_code (5 : Nat) (Option.some Jvm.ClassFile.FieldType.int)) ∈ xWall := xw 1436 (by decide +kernel) rfl
theorem w_1343 : (Jvm.Cond.methodLink "ThinRowLaw" (76 : Nat) ({ cls := "ThinRowModel", name := "longest", desc := "(I)I" } : Jvm.MethodName)) ∈ xWall := xw 1437 (by decide +kernel) rfl
theorem w_1344 : (Jvm.Cond.instanceMethod ({ cls := "ThinRowModel", name := "longest", desc := "(I)I" } : Jvm.MethodName)) ∈ xWall := xw 1438 (by decide +kernel) rfl
theorem w_1345 : (Jvm.Cond.selects "ThinRowModel" ({ cls := "ThinRowModel", name := "longest", desc := "(I)I" } : Jvm.MethodName) ({ cls := "ThinRowModel", name := "longest", desc := "(I)I" } : Jvm.MethodName)) ∈ xWall := xw 1439 (by decide +kernel) rfl
theorem w_1346 : (Jvm.Cond.code ({ cls := "ThinRowModel", name := "longest", desc := "(I)I" } : Jvm.MethodName) prog_14_method_67_code (7 : Nat) (Option.some Jvm.ClassFile.FieldType.int)) ∈ xWall := xw 1440 (by decide +kernel) rfl
theorem w_1348 : (Jvm.Cond.methodLink "ThinRowLaw" (80 : Nat) ({ cls := "ThinRowModel", name := "least", desc := "(II)I" } : Jvm.MethodName)) ∈ xWall := xw 1442 (by decide +kernel) rfl
theorem w_1349 : (Jvm.Cond.instanceMethod ({ cls := "ThinRowModel", name := "least", desc := "(II)I" } : Jvm.MethodName)) ∈ xWall := xw 1443 (by decide +kernel) rfl
theorem w_1350 : (Jvm.Cond.selects "ThinRowModel" ({ cls := "ThinRowModel", name := "least", desc := "(II)I" } : Jvm.MethodName) ({ cls := "ThinRowModel", name := "least", desc := "(II)I" } : Jvm.MethodName)) ∈ xWall := xw 1444 (by decide +kernel) rfl
theorem w_1351 : (Jvm.Cond.code ({ cls := "ThinRowModel", name := "least", desc := "(II)I" } : Jvm.MethodName) prog_14_method_74_code (3 : Nat) (Option.some Jvm.ClassFile.FieldType.int)) ∈ xWall := xw 1445 (by decide +kernel) rfl
theorem w_1377 : (Jvm.Cond.methodLink "ThinRowLaw" (84 : Nat) ({ cls := "ThinRowModel", name := "best", desc := "(III)I" } : Jvm.MethodName)) ∈ xWall := xw 1471 (by decide +kernel) rfl
theorem w_1378 : (Jvm.Cond.instanceMethod ({ cls := "ThinRowModel", name := "best", desc := "(III)I" } : Jvm.MethodName)) ∈ xWall := xw 1472 (by decide +kernel) rfl
theorem w_1379 : (Jvm.Cond.selects "ThinRowModel" ({ cls := "ThinRowModel", name := "best", desc := "(III)I" } : Jvm.MethodName) ({ cls := "ThinRowModel", name := "best", desc := "(III)I" } : Jvm.MethodName)) ∈ xWall := xw 1473 (by decide +kernel) rfl
theorem w_1380 : (Jvm.Cond.code ({ cls := "ThinRowModel", name := "best", desc := "(III)I" } : Jvm.MethodName) prog_14_method_79_code (4 : Nat) (Option.some Jvm.ClassFile.FieldType.int)) ∈ xWall := xw 1474 (by decide +kernel) rfl
theorem w_1389 : (Jvm.Cond.methodLink "ThinRowLaw" (88 : Nat) ({ cls := "ThinRowModel", name := "ways", desc := "(II)I" } : Jvm.MethodName)) ∈ xWall := xw 1483 (by decide +kernel) rfl
theorem w_1390 : (Jvm.Cond.instanceMethod ({ cls := "ThinRowModel", name := "ways", desc := "(II)I" } : Jvm.MethodName)) ∈ xWall := xw 1484 (by decide +kernel) rfl
theorem w_1391 : (Jvm.Cond.selects "ThinRowModel" ({ cls := "ThinRowModel", name := "ways", desc := "(II)I" } : Jvm.MethodName) ({ cls := "ThinRowModel", name := "ways", desc := "(II)I" } : Jvm.MethodName)) ∈ xWall := xw 1485 (by decide +kernel) rfl
theorem w_1392 : (Jvm.Cond.code ({ cls := "ThinRowModel", name := "ways", desc := "(II)I" } : Jvm.MethodName) prog_14_method_80_code (3 : Nat) (Option.some Jvm.ClassFile.FieldType.int)) ∈ xWall := xw 1486 (by decide +kernel) rfl
theorem w_1401 : (Jvm.Cond.methodLink "ThinRowLaw" (92 : Nat) ({ cls := "ThinRowModel", name := "within", desc := "(III)I" } : Jvm.MethodName)) ∈ xWall := xw 1495 (by decide +kernel) rfl
theorem w_1402 : (Jvm.Cond.instanceMethod ({ cls := "ThinRowModel", name := "within", desc := "(III)I" } : Jvm.MethodName)) ∈ xWall := xw 1496 (by decide +kernel) rfl
theorem w_1403 : (Jvm.Cond.selects "ThinRowModel" ({ cls := "ThinRowModel", name := "within", desc := "(III)I" } : Jvm.MethodName) ({ cls := "ThinRowModel", name := "within", desc := "(III)I" } : Jvm.MethodName)) ∈ xWall := xw 1497 (by decide +kernel) rfl
theorem w_1404 : (Jvm.Cond.code ({ cls := "ThinRowModel", name := "within", desc := "(III)I" } : Jvm.MethodName) prog_14_method_81_code (4 : Nat) (Option.some Jvm.ClassFile.FieldType.int)) ∈ xWall := xw 1498 (by decide +kernel) rfl
theorem w_1406 : (Jvm.Cond.methodLink "ThinRowLaw" (96 : Nat) ({ cls := "ThinRowModel", name := "firsts", desc := "(II)I" } : Jvm.MethodName)) ∈ xWall := xw 1500 (by decide +kernel) rfl
theorem w_1407 : (Jvm.Cond.instanceMethod ({ cls := "ThinRowModel", name := "firsts", desc := "(II)I" } : Jvm.MethodName)) ∈ xWall := xw 1501 (by decide +kernel) rfl
theorem w_1408 : (Jvm.Cond.selects "ThinRowModel" ({ cls := "ThinRowModel", name := "firsts", desc := "(II)I" } : Jvm.MethodName) ({ cls := "ThinRowModel", name := "firsts", desc := "(II)I" } : Jvm.MethodName)) ∈ xWall := xw 1502 (by decide +kernel) rfl
theorem w_1409 : (Jvm.Cond.code ({ cls := "ThinRowModel", name := "firsts", desc := "(II)I" } : Jvm.MethodName) prog_14_method_82_code (5 : Nat) (Option.some Jvm.ClassFile.FieldType.int)) ∈ xWall := xw 1503 (by decide +kernel) rfl
theorem w_1410 : (Jvm.Cond.methodLink "ThinRowLaw" (108 : Nat) ({ cls := "ThinRowModel", name := "among", desc := "(III)I" } : Jvm.MethodName)) ∈ xWall := xw 1504 (by decide +kernel) rfl
theorem w_1411 : (Jvm.Cond.instanceMethod ({ cls := "ThinRowModel", name := "among", desc := "(III)I" } : Jvm.MethodName)) ∈ xWall := xw 1505 (by decide +kernel) rfl
theorem w_1412 : (Jvm.Cond.selects "ThinRowModel" ({ cls := "ThinRowModel", name := "among", desc := "(III)I" } : Jvm.MethodName) ({ cls := "ThinRowModel", name := "among", desc := "(III)I" } : Jvm.MethodName)) ∈ xWall := xw 1506 (by decide +kernel) rfl
theorem w_1413 : (Jvm.Cond.code ({ cls := "ThinRowModel", name := "among", desc := "(III)I" } : Jvm.MethodName) prog_14_method_83_code (8 : Nat) (Option.some Jvm.ClassFile.FieldType.int)) ∈ xWall := xw 1507 (by decide +kernel) rfl
theorem w_1414 : (Jvm.Cond.methodLink "ThinRowLaw" (100 : Nat) ({ cls := "ThinRowModel", name := "bound", desc := "(III)I" } : Jvm.MethodName)) ∈ xWall := xw 1508 (by decide +kernel) rfl
theorem w_1415 : (Jvm.Cond.instanceMethod ({ cls := "ThinRowModel", name := "bound", desc := "(III)I" } : Jvm.MethodName)) ∈ xWall := xw 1509 (by decide +kernel) rfl
theorem w_1416 : (Jvm.Cond.selects "ThinRowModel" ({ cls := "ThinRowModel", name := "bound", desc := "(III)I" } : Jvm.MethodName) ({ cls := "ThinRowModel", name := "bound", desc := "(III)I" } : Jvm.MethodName)) ∈ xWall := xw 1510 (by decide +kernel) rfl
theorem w_1417 : (Jvm.Cond.code ({ cls := "ThinRowModel", name := "bound", desc := "(III)I" } : Jvm.MethodName) prog_14_method_85_code (6 : Nat) (Option.some Jvm.ClassFile.FieldType.int)) ∈ xWall := xw 1511 (by decide +kernel) rfl
theorem w_1422 : (Jvm.Cond.methodLink "ThinRowLaw" (104 : Nat) ({ cls := "ThinRowModel", name := "minor", desc := "(I)I" } : Jvm.MethodName)) ∈ xWall := xw 1516 (by decide +kernel) rfl
theorem w_1423 : (Jvm.Cond.instanceMethod ({ cls := "ThinRowModel", name := "minor", desc := "(I)I" } : Jvm.MethodName)) ∈ xWall := xw 1517 (by decide +kernel) rfl
theorem w_1424 : (Jvm.Cond.selects "ThinRowModel" ({ cls := "ThinRowModel", name := "minor", desc := "(I)I" } : Jvm.MethodName) ({ cls := "ThinRowModel", name := "minor", desc := "(I)I" } : Jvm.MethodName)) ∈ xWall := xw 1518 (by decide +kernel) rfl
theorem w_1425 : (Jvm.Cond.code ({ cls := "ThinRowModel", name := "minor", desc := "(I)I" } : Jvm.MethodName) prog_14_method_87_code (8 : Nat) (Option.some Jvm.ClassFile.FieldType.int)) ∈ xWall := xw 1519 (by decide +kernel) rfl
theorem w_1430 : (Jvm.Cond.methodLink "ThinRowLaw" (112 : Nat) ({ cls := "ThinRowModel", name := "split", desc := "(III)I" } : Jvm.MethodName)) ∈ xWall := xw 1524 (by decide +kernel) rfl
theorem w_1431 : (Jvm.Cond.instanceMethod ({ cls := "ThinRowModel", name := "split", desc := "(III)I" } : Jvm.MethodName)) ∈ xWall := xw 1525 (by decide +kernel) rfl
theorem w_1432 : (Jvm.Cond.selects "ThinRowModel" ({ cls := "ThinRowModel", name := "split", desc := "(III)I" } : Jvm.MethodName) ({ cls := "ThinRowModel", name := "split", desc := "(III)I" } : Jvm.MethodName)) ∈ xWall := xw 1526 (by decide +kernel) rfl
theorem w_1433 : (Jvm.Cond.code ({ cls := "ThinRowModel", name := "split", desc := "(III)I" } : Jvm.MethodName) prog_14_method_88_code (4 : Nat) (Option.some Jvm.ClassFile.FieldType.int)) ∈ xWall := xw 1527 (by decide +kernel) rfl
theorem w_1434 : (Jvm.Cond.methodLink "ThinRowLaw" (116 : Nat) ({ cls := "ThinRowModel", name := "halve", desc := "(I)I" } : Jvm.MethodName)) ∈ xWall := xw 1528 (by decide +kernel) rfl
theorem w_1435 : (Jvm.Cond.instanceMethod ({ cls := "ThinRowModel", name := "halve", desc := "(I)I" } : Jvm.MethodName)) ∈ xWall := xw 1529 (by decide +kernel) rfl
theorem w_1436 : (Jvm.Cond.selects "ThinRowModel" ({ cls := "ThinRowModel", name := "halve", desc := "(I)I" } : Jvm.MethodName) ({ cls := "ThinRowModel", name := "halve", desc := "(I)I" } : Jvm.MethodName)) ∈ xWall := xw 1530 (by decide +kernel) rfl
theorem w_1437 : (Jvm.Cond.code ({ cls := "ThinRowModel", name := "halve", desc := "(I)I" } : Jvm.MethodName) prog_14_method_89_code (4 : Nat) (Option.some Jvm.ClassFile.FieldType.int)) ∈ xWall := xw 1531 (by decide +kernel) rfl
theorem w_1438 : (Jvm.Cond.methodLink "ThinRowLaw" (120 : Nat) ({ cls := "ThinRowModel", name := "bag", desc := "(III)I" } : Jvm.MethodName)) ∈ xWall := xw 1532 (by decide +kernel) rfl
theorem w_1439 : (Jvm.Cond.instanceMethod ({ cls := "ThinRowModel", name := "bag", desc := "(III)I" } : Jvm.MethodName)) ∈ xWall := xw 1533 (by decide +kernel) rfl
theorem w_1440 : (Jvm.Cond.selects "ThinRowModel" ({ cls := "ThinRowModel", name := "bag", desc := "(III)I" } : Jvm.MethodName) ({ cls := "ThinRowModel", name := "bag", desc := "(III)I" } : Jvm.MethodName)) ∈ xWall := xw 1534 (by decide +kernel) rfl
theorem w_1441 : (Jvm.Cond.code ({ cls := "ThinRowModel", name := "bag", desc := "(III)I" } : Jvm.MethodName) prog_14_method_90_code (8 : Nat) (Option.some Jvm.ClassFile.FieldType.int)) ∈ xWall := xw 1535 (by decide +kernel) rfl
theorem w_1442 : (Jvm.Cond.methodLink "ThinRowLaw" (124 : Nat) ({ cls := "ThinRowModel", name := "filled", desc := "(II)I" } : Jvm.MethodName)) ∈ xWall := xw 1536 (by decide +kernel) rfl
theorem w_1443 : (Jvm.Cond.instanceMethod ({ cls := "ThinRowModel", name := "filled", desc := "(II)I" } : Jvm.MethodName)) ∈ xWall := xw 1537 (by decide +kernel) rfl
theorem w_1444 : (Jvm.Cond.selects "ThinRowModel" ({ cls := "ThinRowModel", name := "filled", desc := "(II)I" } : Jvm.MethodName) ({ cls := "ThinRowModel", name := "filled", desc := "(II)I" } : Jvm.MethodName)) ∈ xWall := xw 1538 (by decide +kernel) rfl
theorem w_1445 : (Jvm.Cond.code ({ cls := "ThinRowModel", name := "filled", desc := "(II)I" } : Jvm.MethodName) prog_14_method_91_code (9 : Nat) (Option.some Jvm.ClassFile.FieldType.int)) ∈ xWall := xw 1539 (by decide +kernel) rfl
theorem w_1446 : (Jvm.Cond.methodLink "ThinRowLaw" (129 : Nat) ({ cls := "ThinRowModel", name := "gain", desc := "(IIII)I" } : Jvm.MethodName)) ∈ xWall := xw 1540 (by decide +kernel) rfl
theorem w_1447 : (Jvm.Cond.instanceMethod ({ cls := "ThinRowModel", name := "gain", desc := "(IIII)I" } : Jvm.MethodName)) ∈ xWall := xw 1541 (by decide +kernel) rfl
theorem w_1448 : (Jvm.Cond.selects "ThinRowModel" ({ cls := "ThinRowModel", name := "gain", desc := "(IIII)I" } : Jvm.MethodName) ({ cls := "ThinRowModel", name := "gain", desc := "(IIII)I" } : Jvm.MethodName)) ∈ xWall := xw 1542 (by decide +kernel) rfl
theorem w_1449 : (Jvm.Cond.code ({ cls := "ThinRowModel", name := "gain", desc := "(IIII)I" } : Jvm.MethodName) prog_14_method_93_code (6 : Nat) (Option.some Jvm.ClassFile.FieldType.int)) ∈ xWall := xw 1543 (by decide +kernel) rfl
theorem w_1454 : (Jvm.Cond.methodLink "ThinRowLaw" (133 : Nat) ({ cls := "ThinRowModel", name := "swaps", desc := "(III)I" } : Jvm.MethodName)) ∈ xWall := xw 1548 (by decide +kernel) rfl
theorem w_1455 : (Jvm.Cond.instanceMethod ({ cls := "ThinRowModel", name := "swaps", desc := "(III)I" } : Jvm.MethodName)) ∈ xWall := xw 1549 (by decide +kernel) rfl
theorem w_1456 : (Jvm.Cond.selects "ThinRowModel" ({ cls := "ThinRowModel", name := "swaps", desc := "(III)I" } : Jvm.MethodName) ({ cls := "ThinRowModel", name := "swaps", desc := "(III)I" } : Jvm.MethodName)) ∈ xWall := xw 1550 (by decide +kernel) rfl
theorem w_1457 : (Jvm.Cond.code ({ cls := "ThinRowModel", name := "swaps", desc := "(III)I" } : Jvm.MethodName) prog_14_method_95_code (6 : Nat) (Option.some Jvm.ClassFile.FieldType.int)) ∈ xWall := xw 1551 (by decide +kernel) rfl
theorem w_1462 : (Jvm.Cond.methodLink "ThinRowLaw" (137 : Nat) ({ cls := "ThinRowModel", name := "moves", desc := "(III)I" } : Jvm.MethodName)) ∈ xWall := xw 1556 (by decide +kernel) rfl
theorem w_1463 : (Jvm.Cond.instanceMethod ({ cls := "ThinRowModel", name := "moves", desc := "(III)I" } : Jvm.MethodName)) ∈ xWall := xw 1557 (by decide +kernel) rfl
theorem w_1464 : (Jvm.Cond.selects "ThinRowModel" ({ cls := "ThinRowModel", name := "moves", desc := "(III)I" } : Jvm.MethodName) ({ cls := "ThinRowModel", name := "moves", desc := "(III)I" } : Jvm.MethodName)) ∈ xWall := xw 1558 (by decide +kernel) rfl
theorem w_1465 : (Jvm.Cond.code ({ cls := "ThinRowModel", name := "moves", desc := "(III)I" } : Jvm.MethodName) prog_14_method_96_code (6 : Nat) (Option.some Jvm.ClassFile.FieldType.int)) ∈ xWall := xw 1559 (by decide +kernel) rfl
theorem w_1466 : (Jvm.Cond.methodLink "ThinRowLaw" (141 : Nat) ({ cls := "ThinRowModel", name := "reverse", desc := "(I)I" } : Jvm.MethodName)) ∈ xWall := xw 1560 (by decide +kernel) rfl
theorem w_1467 : (Jvm.Cond.instanceMethod ({ cls := "ThinRowModel", name := "reverse", desc := "(I)I" } : Jvm.MethodName)) ∈ xWall := xw 1561 (by decide +kernel) rfl
theorem w_1468 : (Jvm.Cond.selects "ThinRowModel" ({ cls := "ThinRowModel", name := "reverse", desc := "(I)I" } : Jvm.MethodName) ({ cls := "ThinRowModel", name := "reverse", desc := "(I)I" } : Jvm.MethodName)) ∈ xWall := xw 1562 (by decide +kernel) rfl
theorem w_1469 : (Jvm.Cond.code ({ cls := "ThinRowModel", name := "reverse", desc := "(I)I" } : Jvm.MethodName) prog_14_method_97_code (3 : Nat) (Option.some Jvm.ClassFile.FieldType.int)) ∈ xWall := xw 1563 (by decide +kernel) rfl
theorem w_1470 : (Jvm.Cond.methodLink "ThinRowLaw" (145 : Nat) ({ cls := "ThinRowModel", name := "takes", desc := "(II)I" } : Jvm.MethodName)) ∈ xWall := xw 1564 (by decide +kernel) rfl
theorem w_1471 : (Jvm.Cond.instanceMethod ({ cls := "ThinRowModel", name := "takes", desc := "(II)I" } : Jvm.MethodName)) ∈ xWall := xw 1565 (by decide +kernel) rfl
theorem w_1472 : (Jvm.Cond.selects "ThinRowModel" ({ cls := "ThinRowModel", name := "takes", desc := "(II)I" } : Jvm.MethodName) ({ cls := "ThinRowModel", name := "takes", desc := "(II)I" } : Jvm.MethodName)) ∈ xWall := xw 1566 (by decide +kernel) rfl
theorem w_1473 : (Jvm.Cond.code ({ cls := "ThinRowModel", name := "takes", desc := "(II)I" } : Jvm.MethodName) prog_14_method_98_code (4 : Nat) (Option.some Jvm.ClassFile.FieldType.int)) ∈ xWall := xw 1567 (by decide +kernel) rfl
theorem w_1474 : (Jvm.Cond.methodLink "ThinRowLaw" (149 : Nat) ({ cls := "ThinRowModel", name := "polish", desc := "(II)I" } : Jvm.MethodName)) ∈ xWall := xw 1568 (by decide +kernel) rfl
theorem w_1475 : (Jvm.Cond.instanceMethod ({ cls := "ThinRowModel", name := "polish", desc := "(II)I" } : Jvm.MethodName)) ∈ xWall := xw 1569 (by decide +kernel) rfl
theorem w_1476 : (Jvm.Cond.selects "ThinRowModel" ({ cls := "ThinRowModel", name := "polish", desc := "(II)I" } : Jvm.MethodName) ({ cls := "ThinRowModel", name := "polish", desc := "(II)I" } : Jvm.MethodName)) ∈ xWall := xw 1570 (by decide +kernel) rfl
theorem w_1477 : (Jvm.Cond.code ({ cls := "ThinRowModel", name := "polish", desc := "(II)I" } : Jvm.MethodName) prog_14_method_100_code (5 : Nat) (Option.some Jvm.ClassFile.FieldType.int)) ∈ xWall := xw 1571 (by decide +kernel) rfl
theorem w_1482 : (Jvm.Cond.methodLink "ThinRowLaw" (153 : Nat) ({ cls := "ThinRowModel", name := "polished", desc := "(II)I" } : Jvm.MethodName)) ∈ xWall := xw 1576 (by decide +kernel) rfl
theorem w_1483 : (Jvm.Cond.instanceMethod ({ cls := "ThinRowModel", name := "polished", desc := "(II)I" } : Jvm.MethodName)) ∈ xWall := xw 1577 (by decide +kernel) rfl
theorem w_1484 : (Jvm.Cond.selects "ThinRowModel" ({ cls := "ThinRowModel", name := "polished", desc := "(II)I" } : Jvm.MethodName) ({ cls := "ThinRowModel", name := "polished", desc := "(II)I" } : Jvm.MethodName)) ∈ xWall := xw 1578 (by decide +kernel) rfl
theorem w_1485 : (Jvm.Cond.code ({ cls := "ThinRowModel", name := "polished", desc := "(II)I" } : Jvm.MethodName) prog_14_method_101_code (4 : Nat) (Option.some Jvm.ClassFile.FieldType.int)) ∈ xWall := xw 1579 (by decide +kernel) rfl
theorem w_1486 : (Jvm.Cond.methodLink "ThinRowLaw" (157 : Nat) ({ cls := "ThinRowModel", name := "greedy", desc := "(II)I" } : Jvm.MethodName)) ∈ xWall := xw 1580 (by decide +kernel) rfl
theorem w_1487 : (Jvm.Cond.instanceMethod ({ cls := "ThinRowModel", name := "greedy", desc := "(II)I" } : Jvm.MethodName)) ∈ xWall := xw 1581 (by decide +kernel) rfl
theorem w_1488 : (Jvm.Cond.selects "ThinRowModel" ({ cls := "ThinRowModel", name := "greedy", desc := "(II)I" } : Jvm.MethodName) ({ cls := "ThinRowModel", name := "greedy", desc := "(II)I" } : Jvm.MethodName)) ∈ xWall := xw 1582 (by decide +kernel) rfl
theorem w_1489 : (Jvm.Cond.code ({ cls := "ThinRowModel", name := "greedy", desc := "(II)I" } : Jvm.MethodName) prog_14_method_102_code (7 : Nat) (Option.some Jvm.ClassFile.FieldType.int)) ∈ xWall := xw 1583 (by decide +kernel) rfl
theorem w_1490 : (Jvm.Cond.methodLink "ThinRowLaw" (161 : Nat) ({ cls := "ThinRowModel", name := "layers", desc := "(II)I" } : Jvm.MethodName)) ∈ xWall := xw 1584 (by decide +kernel) rfl
theorem w_1491 : (Jvm.Cond.instanceMethod ({ cls := "ThinRowModel", name := "layers", desc := "(II)I" } : Jvm.MethodName)) ∈ xWall := xw 1585 (by decide +kernel) rfl
theorem w_1492 : (Jvm.Cond.selects "ThinRowModel" ({ cls := "ThinRowModel", name := "layers", desc := "(II)I" } : Jvm.MethodName) ({ cls := "ThinRowModel", name := "layers", desc := "(II)I" } : Jvm.MethodName)) ∈ xWall := xw 1586 (by decide +kernel) rfl
theorem w_1493 : (Jvm.Cond.code ({ cls := "ThinRowModel", name := "layers", desc := "(II)I" } : Jvm.MethodName) prog_14_method_103_code (6 : Nat) (Option.some Jvm.ClassFile.FieldType.int)) ∈ xWall := xw 1587 (by decide +kernel) rfl
theorem w_1494 : (Jvm.Cond.methodLink "ThinRowLaw" (165 : Nat) ({ cls := "ThinRowModel", name := "adds", desc := "(IIII)I" } : Jvm.MethodName)) ∈ xWall := xw 1588 (by decide +kernel) rfl
theorem w_1495 : (Jvm.Cond.instanceMethod ({ cls := "ThinRowModel", name := "adds", desc := "(IIII)I" } : Jvm.MethodName)) ∈ xWall := xw 1589 (by decide +kernel) rfl
theorem w_1496 : (Jvm.Cond.selects "ThinRowModel" ({ cls := "ThinRowModel", name := "adds", desc := "(IIII)I" } : Jvm.MethodName) ({ cls := "ThinRowModel", name := "adds", desc := "(IIII)I" } : Jvm.MethodName)) ∈ xWall := xw 1590 (by decide +kernel) rfl
theorem w_1497 : (Jvm.Cond.code ({ cls := "ThinRowModel", name := "adds", desc := "(IIII)I" } : Jvm.MethodName) prog_14_method_104_code (6 : Nat) (Option.some Jvm.ClassFile.FieldType.int)) ∈ xWall := xw 1591 (by decide +kernel) rfl
theorem w_1498 : (Jvm.Cond.methodLink "ThinRowModel" (326 : Nat) ({ cls := "ThinRowModel", name := "areTwo", desc := "(III)Z" } : Jvm.MethodName)) ∈ xWall := xw 1592 (by decide +kernel) rfl
theorem w_1500 : (Jvm.Cond.instanceMethod ({ cls := "ThinRowModel", name := "areTwo", desc := "(III)Z" } : Jvm.MethodName)) ∈ xWall := xw 1594 (by decide +kernel) rfl
theorem w_1501 : (Jvm.Cond.code ({ cls := "ThinRowModel", name := "areTwo", desc := "(III)Z" } : Jvm.MethodName) prog_14_method_9_code (4 : Nat) (Option.some Jvm.ClassFile.FieldType.boolean)) ∈ xWall := xw 1595 (by decide +kernel) rfl
theorem w_1503 : (Jvm.Cond.methodLink "ThinRowLaw" (169 : Nat) ({ cls := "ThinRowModel", name := "cuts", desc := "(III)I" } : Jvm.MethodName)) ∈ xWall := xw 1597 (by decide +kernel) rfl
theorem w_1504 : (Jvm.Cond.instanceMethod ({ cls := "ThinRowModel", name := "cuts", desc := "(III)I" } : Jvm.MethodName)) ∈ xWall := xw 1598 (by decide +kernel) rfl
theorem w_1505 : (Jvm.Cond.selects "ThinRowModel" ({ cls := "ThinRowModel", name := "cuts", desc := "(III)I" } : Jvm.MethodName) ({ cls := "ThinRowModel", name := "cuts", desc := "(III)I" } : Jvm.MethodName)) ∈ xWall := xw 1599 (by decide +kernel) rfl
theorem w_1506 : (Jvm.Cond.code ({ cls := "ThinRowModel", name := "cuts", desc := "(III)I" } : Jvm.MethodName) prog_14_method_105_code (5 : Nat) (Option.some Jvm.ClassFile.FieldType.int)) ∈ xWall := xw 1600 (by decide +kernel) rfl
theorem w_1507 : (Jvm.Cond.methodLink "ThinRowLaw" (173 : Nat) ({ cls := "ThinRowModel", name := "merges", desc := "(III)I" } : Jvm.MethodName)) ∈ xWall := xw 1601 (by decide +kernel) rfl
theorem w_1508 : (Jvm.Cond.instanceMethod ({ cls := "ThinRowModel", name := "merges", desc := "(III)I" } : Jvm.MethodName)) ∈ xWall := xw 1602 (by decide +kernel) rfl
theorem w_1509 : (Jvm.Cond.selects "ThinRowModel" ({ cls := "ThinRowModel", name := "merges", desc := "(III)I" } : Jvm.MethodName) ({ cls := "ThinRowModel", name := "merges", desc := "(III)I" } : Jvm.MethodName)) ∈ xWall := xw 1603 (by decide +kernel) rfl
theorem w_1510 : (Jvm.Cond.code ({ cls := "ThinRowModel", name := "merges", desc := "(III)I" } : Jvm.MethodName) prog_14_method_106_code (12 : Nat) (Option.some Jvm.ClassFile.FieldType.int)) ∈ xWall := xw 1604 (by decide +kernel) rfl
theorem w_1511 : (Jvm.Cond.methodLink "ThinRowLaw" (186 : Nat) ({ cls := "ThinRowModel", name := "tell", desc := "(II)I" } : Jvm.MethodName)) ∈ xWall := xw 1605 (by decide +kernel) rfl
theorem w_1512 : (Jvm.Cond.instanceMethod ({ cls := "ThinRowModel", name := "tell", desc := "(II)I" } : Jvm.MethodName)) ∈ xWall := xw 1606 (by decide +kernel) rfl
theorem w_1513 : (Jvm.Cond.selects "ThinRowModel" ({ cls := "ThinRowModel", name := "tell", desc := "(II)I" } : Jvm.MethodName) ({ cls := "ThinRowModel", name := "tell", desc := "(II)I" } : Jvm.MethodName)) ∈ xWall := xw 1607 (by decide +kernel) rfl
theorem w_1514 : (Jvm.Cond.code ({ cls := "ThinRowModel", name := "tell", desc := "(II)I" } : Jvm.MethodName) prog_14_method_110_code (4 : Nat) (Option.some Jvm.ClassFile.FieldType.int)) ∈ xWall := xw 1608 (by decide +kernel) rfl
theorem w_1536 : (Jvm.Cond.methodLink "ThinRowLaw" (190 : Nat) ({ cls := "ThinRowModel", name := "octet", desc := "(I)I" } : Jvm.MethodName)) ∈ xWall := xw 1630 (by decide +kernel) rfl
theorem w_1537 : (Jvm.Cond.instanceMethod ({ cls := "ThinRowModel", name := "octet", desc := "(I)I" } : Jvm.MethodName)) ∈ xWall := xw 1631 (by decide +kernel) rfl
theorem w_1538 : (Jvm.Cond.selects "ThinRowModel" ({ cls := "ThinRowModel", name := "octet", desc := "(I)I" } : Jvm.MethodName) ({ cls := "ThinRowModel", name := "octet", desc := "(I)I" } : Jvm.MethodName)) ∈ xWall := xw 1632 (by decide +kernel) rfl
theorem w_1539 : (Jvm.Cond.code ({ cls := "ThinRowModel", name := "octet", desc := "(I)I" } : Jvm.MethodName) prog_14_method_111_code (2 : Nat) (Option.some Jvm.ClassFile.FieldType.int)) ∈ xWall := xw 1633 (by decide +kernel) rfl
theorem w_1540 : (Jvm.Cond.fieldLink "java/lang/String" (9 : Nat) "java/lang/String" "value" "[B") ∈ xWall := xw 1634 (by decide +kernel) rfl
theorem w_1541 : (Jvm.Cond.fieldLink "java/lang/String" (15 : Nat) "java/lang/String" "coder" "B") ∈ xWall := xw 1635 (by decide +kernel) rfl
theorem ws_0 : Cond.selects "ThinRow$Reader" ⟨"ThinRow$Reader", "step", "()V"⟩ ⟨"ThinRow$Reader", "step", "()V"⟩ ∈ xWall := xw 0 (by decide +kernel) rfl
theorem ws_1 : Cond.selects "ThinRow$Reader" ⟨"ThinRow$Reader", "readHead", "()Z"⟩ ⟨"ThinRow$Reader", "readHead", "()Z"⟩ ∈ xWall := xw 1 (by decide +kernel) rfl
theorem ws_2 : Cond.selects "ThinRow$Reader" ⟨"ThinRow$Reader", "isWord", "(Ljava/lang/String;)Z"⟩ ⟨"ThinRow$Reader", "isWord", "(Ljava/lang/String;)Z"⟩ ∈ xWall := xw 2 (by decide +kernel) rfl
theorem ws_3 : Cond.selects "ThinRow$Reader" ⟨"ThinRow$Reader", "blame", "(I)Z"⟩ ⟨"ThinRow$Reader", "blame", "(I)Z"⟩ ∈ xWall := xw 3 (by decide +kernel) rfl
theorem ws_14 : Cond.selects "ThinRow" ⟨"ThinRow", "filledSlots", "()I"⟩ ⟨"ThinRow", "filledSlots", "()I"⟩ ∈ xWall := xw 14 (by decide +kernel) rfl
theorem ws_15 : Cond.selects "ThinRow" ⟨"ThinRow", "netIn", "(I)LThinRow$Net;"⟩ ⟨"ThinRow", "netIn", "(I)LThinRow$Net;"⟩ ∈ xWall := xw 15 (by decide +kernel) rfl
theorem ws_16 : Cond.selects "ThinRow" ⟨"ThinRow", "findingOf", "(II)LThinRow$Finding;"⟩ ⟨"ThinRow", "findingOf", "(II)LThinRow$Finding;"⟩ ∈ xWall := xw 16 (by decide +kernel) rfl
theorem ws_35 : Cond.selects "ThinRowModel" ⟨"ThinRowModel", "isNet", "(I)Z"⟩ ⟨"ThinRowModel", "isNet", "(I)Z"⟩ ∈ xWall := xw 35 (by decide +kernel) rfl
theorem ws_36 : Cond.selects "ThinRowModel" ⟨"ThinRowModel", "points", "(I)I"⟩ ⟨"ThinRowModel", "points", "(I)I"⟩ ∈ xWall := xw 36 (by decide +kernel) rfl
theorem ws_37 : Cond.selects "ThinRowModel" ⟨"ThinRowModel", "remembers", "()V"⟩ ⟨"ThinRowModel", "remembers", "()V"⟩ ∈ xWall := xw 37 (by decide +kernel) rfl
theorem ws_38 : Cond.selects "ThinRowModel" ⟨"ThinRowModel", "empties", "(I)V"⟩ ⟨"ThinRowModel", "empties", "(I)V"⟩ ∈ xWall := xw 38 (by decide +kernel) rfl
theorem ws_40 : Cond.selects "ThinRowModel" ⟨"ThinRowModel", "next", "()V"⟩ ⟨"ThinRowModel", "next", "()V"⟩ ∈ xWall := xw 40 (by decide +kernel) rfl
theorem ws_41 : Cond.selects "ThinRowModel" ⟨"ThinRowModel", "isAt", "(II)Z"⟩ ⟨"ThinRowModel", "isAt", "(II)Z"⟩ ∈ xWall := xw 41 (by decide +kernel) rfl
theorem ws_42 : Cond.selects "ThinRowModel" ⟨"ThinRowModel", "readsNet", "(I)V"⟩ ⟨"ThinRowModel", "readsNet", "(I)V"⟩ ∈ xWall := xw 42 (by decide +kernel) rfl
theorem ws_43 : Cond.selects "ThinRowModel" ⟨"ThinRowModel", "isWord", "(Ljava/lang/String;)Z"⟩ ⟨"ThinRowModel", "isWord", "(Ljava/lang/String;)Z"⟩ ∈ xWall := xw 43 (by decide +kernel) rfl
theorem ws_44 : Cond.selects "ThinRowModel" ⟨"ThinRowModel", "must", "(Z)V"⟩ ⟨"ThinRowModel", "must", "(Z)V"⟩ ∈ xWall := xw 44 (by decide +kernel) rfl
theorem ws_45 : Cond.selects "ThinRowModel" ⟨"ThinRowModel", "faults", "(I)V"⟩ ⟨"ThinRowModel", "faults", "(I)V"⟩ ∈ xWall := xw 45 (by decide +kernel) rfl
theorem ws_46 : Cond.selects "ThinRowModel" ⟨"ThinRowModel", "passes", "()V"⟩ ⟨"ThinRowModel", "passes", "()V"⟩ ∈ xWall := xw 46 (by decide +kernel) rfl
theorem ws_47 : Cond.selects "ThinRowModel" ⟨"ThinRowModel", "here", "(II)I"⟩ ⟨"ThinRowModel", "here", "(II)I"⟩ ∈ xWall := xw 47 (by decide +kernel) rfl
theorem ws_48 : Cond.selects "ThinRowModel" ⟨"ThinRowModel", "puts", "(III)V"⟩ ⟨"ThinRowModel", "puts", "(III)V"⟩ ∈ xWall := xw 48 (by decide +kernel) rfl
theorem ws_49 : Cond.selects "ThinRowModel" ⟨"ThinRowModel", "isSign", "(I)Z"⟩ ⟨"ThinRowModel", "isSign", "(I)Z"⟩ ∈ xWall := xw 49 (by decide +kernel) rfl
theorem ws_63 : Cond.selects "ThinRowModel" ⟨"ThinRowModel", "isPoint", "(II)Z"⟩ ⟨"ThinRowModel", "isPoint", "(II)Z"⟩ ∈ xWall := xw 63 (by decide +kernel) rfl
theorem ws_90 : Cond.selects "ThinRowModel" ⟨"ThinRowModel", "areTwo", "(III)Z"⟩ ⟨"ThinRowModel", "areTwo", "(III)Z"⟩ ∈ xWall := xw 90 (by decide +kernel) rfl
theorem wn_57 : (Jvm.Cond.methodLinkNest "ThinRow$Reader" (11 : Nat) ({ cls := "ThinRow$Net", name := "<init>", desc := "()V" } : Jvm.MethodName) "ThinRow") ∈ xnest := List.mem_filter.mpr ⟨List.mem_of_getElem? (i := 151) (by decide +kernel), rfl⟩
theorem wn_128 : (Jvm.Cond.methodLinkNest "ThinRow" (42 : Nat) ({ cls := "ThinRow$Net", name := "<init>", desc := "()V" } : Jvm.MethodName) "ThinRow") ∈ xnest := List.mem_filter.mpr ⟨List.mem_of_getElem? (i := 222) (by decide +kernel), rfl⟩
theorem wn_137 : (Jvm.Cond.methodLinkNest "ThinRow$Findings" (19 : Nat) ({ cls := "ThinRow$Net", name := "<init>", desc := "()V" } : Jvm.MethodName) "ThinRow") ∈ xnest := List.mem_filter.mpr ⟨List.mem_of_getElem? (i := 231) (by decide +kernel), rfl⟩
theorem wn_139 : (Jvm.Cond.methodLinkNest "ThinRow$Findings" (24 : Nat) ({ cls := "ThinRow$Finding", name := "<init>", desc := "()V" } : Jvm.MethodName) "ThinRow") ∈ xnest := List.mem_filter.mpr ⟨List.mem_of_getElem? (i := 233) (by decide +kernel), rfl⟩
theorem wn_179 : (Jvm.Cond.methodLinkNest "ThinRow" (46 : Nat) ({ cls := "ThinRow$SetSearch", name := "<init>", desc := "()V" } : Jvm.MethodName) "ThinRow") ∈ xnest := List.mem_filter.mpr ⟨List.mem_of_getElem? (i := 273) (by decide +kernel), rfl⟩
theorem wn_201 : (Jvm.Cond.methodLinkNest "ThinRow" (53 : Nat) ({ cls := "ThinRow$BandSearch", name := "<init>", desc := "()V" } : Jvm.MethodName) "ThinRow") ∈ xnest := List.mem_filter.mpr ⟨List.mem_of_getElem? (i := 295) (by decide +kernel), rfl⟩
theorem wn_206 : (Jvm.Cond.methodLinkNest "ThinRow$BandSearch" (13 : Nat) ({ cls := "ThinRow$Net", name := "<init>", desc := "()V" } : Jvm.MethodName) "ThinRow") ∈ xnest := List.mem_filter.mpr ⟨List.mem_of_getElem? (i := 300) (by decide +kernel), rfl⟩
theorem wn_227 : (Jvm.Cond.methodLinkNest "ThinRow$History" (21 : Nat) ({ cls := "ThinRow$Net", name := "<init>", desc := "()V" } : Jvm.MethodName) "ThinRow") ∈ xnest := List.mem_filter.mpr ⟨List.mem_of_getElem? (i := 321) (by decide +kernel), rfl⟩
theorem w_obj : Cond.code objectInit ⟨#[0xb1]⟩ 1 none ∈ xWall := xw 123 (by decide +kernel) rfl
theorem w_mmax : Cond.code Lib.Math.max.name Lib.Math.max.code 2 (some .int) ∈ xWall := xw 132 (by decide +kernel) rfl
theorem pf__I : parseFieldDescriptor "[I" = some (.array .int) := by decide +kernel
theorem pf__B : parseFieldDescriptor "[B" = some (.array .byte) := by decide +kernel
theorem pf_LThinRow_Net_ : parseFieldDescriptor "LThinRow$Net;" = some (.object "ThinRow$Net") := by decide +kernel
theorem pf_I : parseFieldDescriptor "I" = some .int := by decide +kernel
theorem pf_LThinRow_Bytes_ : parseFieldDescriptor "LThinRow$Bytes;" = some (.object "ThinRow$Bytes") := by decide +kernel
theorem pf__LThinRow_Finding_ : parseFieldDescriptor "[LThinRow$Finding;" = some (.array (.object "ThinRow$Finding")) := by decide +kernel
theorem pf__LThinRow_Net_ : parseFieldDescriptor "[LThinRow$Net;" = some (.array (.object "ThinRow$Net")) := by decide +kernel
theorem pf_LThinRow_Reader_ : parseFieldDescriptor "LThinRow$Reader;" = some (.object "ThinRow$Reader") := by decide +kernel
theorem pf__LThinRow_Findings_ : parseFieldDescriptor "[LThinRow$Findings;" = some (.array (.object "ThinRow$Findings")) := by decide +kernel
theorem pf_LThinRow_SetSearch_ : parseFieldDescriptor "LThinRow$SetSearch;" = some (.object "ThinRow$SetSearch") := by decide +kernel
theorem pf_LThinRow_BandSearch_ : parseFieldDescriptor "LThinRow$BandSearch;" = some (.object "ThinRow$BandSearch") := by decide +kernel
theorem pf_LThinRow_History_ : parseFieldDescriptor "LThinRow$History;" = some (.object "ThinRow$History") := by decide +kernel
theorem pf_Z : parseFieldDescriptor "Z" = some .boolean := by decide +kernel
theorem ok_0 : xok (RX0, TX0, 4) := ⟨xws (fun k hk => match k, hk with | 0, _ => w_211 | 1, _ => w_213 | 2, _ => w_215 | 3, _ => w_217 | k + 4, h => absurd h (Nat.not_lt.mpr (Nat.le_add_left 4 k))), ⟨tyX0, tyX0_ok⟩, nmX0⟩
theorem nf_0 : ∀ j, j < 4 → (parseFieldDescriptor (TX0 j).2.2.1).map defaultValue = some (vp_V [.null, .null, .null, .null] j) := by decide +kernel
theorem ok_1 : xok (RX1, TX1, 2) := ⟨xws (fun k hk => match k, hk with | 0, _ => w_43 | 1, _ => w_45 | k + 2, h => absurd h (Nat.not_lt.mpr (Nat.le_add_left 2 k))), ⟨tyX1, tyX1_ok⟩, nmX1⟩
theorem nf_1 : ∀ j, j < 2 → (parseFieldDescriptor (TX1 j).2.2.1).map defaultValue = some (vp_V [.null, .int 0] j) := by decide +kernel
theorem ok_2 : xok (RX2, TX2, 5) := ⟨xws (fun k hk => match k, hk with | 0, _ => w_158 | 1, _ => w_160 | 2, _ => w_162 | 3, _ => w_164 | 4, _ => w_166 | k + 5, h => absurd h (Nat.not_lt.mpr (Nat.le_add_left 5 k))), ⟨tyX2, tyX2_ok⟩, nmX2⟩
theorem nf_2 : ∀ j, j < 5 → (parseFieldDescriptor (TX2 j).2.2.1).map defaultValue = some (vp_V [.int 0, .int 0, .int 0, .int 0, .null] j) := by decide +kernel
theorem ok_3 : xok (RX3, TX3, 2) := ⟨xws (fun k hk => match k, hk with | 0, _ => w_172 | 1, _ => w_174 | k + 2, h => absurd h (Nat.not_lt.mpr (Nat.le_add_left 2 k))), ⟨tyX3, tyX3_ok⟩, nmX3⟩
theorem nf_3 : ∀ j, j < 2 → (parseFieldDescriptor (TX3 j).2.2.1).map defaultValue = some (vp_V [.null, .null] j) := by decide +kernel
theorem ok_4 : xok (RX4, TX4, 4) := ⟨xws (fun k hk => match k, hk with | 0, _ => w_233 | 1, _ => w_235 | 2, _ => w_237 | 3, _ => w_239 | k + 4, h => absurd h (Nat.not_lt.mpr (Nat.le_add_left 4 k))), ⟨tyX4, tyX4_ok⟩, nmX4⟩
theorem nf_4 : ∀ j, j < 4 → (parseFieldDescriptor (TX4 j).2.2.1).map defaultValue = some (vp_V [.int 0, .int 0, .null, .null] j) := by decide +kernel
theorem ok_5 : xok (RX5, TX5, 5) := ⟨xws (fun k hk => match k, hk with | 0, _ => w_84 | 1, _ => w_86 | 2, _ => w_88 | 3, _ => w_90 | 4, _ => w_92 | k + 5, h => absurd h (Nat.not_lt.mpr (Nat.le_add_left 5 k))), ⟨tyX5, tyX5_ok⟩, nmX5⟩
theorem nf_5 : ∀ j, j < 5 → (parseFieldDescriptor (TX5 j).2.2.1).map defaultValue = some (vp_V [.int 0, .int 0, .null, .null, .null] j) := by decide +kernel
theorem ok_6 : xok (RX7, TX7, 8) := ⟨xws (fun k hk => match k, hk with | 0, _ => w_107 | 1, _ => w_109 | 2, _ => w_111 | 3, _ => w_113 | 4, _ => w_115 | 5, _ => w_117 | 6, _ => w_119 | 7, _ => w_121 | k + 8, h => absurd h (Nat.not_lt.mpr (Nat.le_add_left 8 k))), ⟨tyX7, tyX7_ok⟩, nmX7⟩
theorem nf_6 : ∀ j, j < 8 → (parseFieldDescriptor (TX7 j).2.2.1).map defaultValue = some (vp_V [.null, .int 0, .int 0, .null, .int 0, .int 0, .int 0, .int 0] j) := by decide +kernel
theorem ok_7 : xok (RX9, TX9, 5) := ⟨xws (fun k hk => match k, hk with | 0, _ => w_188 | 1, _ => w_190 | 2, _ => w_192 | 3, _ => w_194 | 4, _ => w_196 | k + 5, h => absurd h (Nat.not_lt.mpr (Nat.le_add_left 5 k))), ⟨tyX9, tyX9_ok⟩, nmX9⟩
theorem nf_7 : ∀ j, j < 5 → (parseFieldDescriptor (TX9 j).2.2.1).map defaultValue = some (vp_V [.null, .null, .null, .null, .null] j) := by decide +kernel
theorem ok_8 : xok (RX11, TX11, 10) := ⟨xws (fun k hk => match k, hk with | 0, _ => w_252 | 1, _ => w_254 | 2, _ => w_256 | 3, _ => w_258 | 4, _ => w_260 | 5, _ => w_262 | 6, _ => w_264 | 7, _ => w_266 | 8, _ => w_268 | 9, _ => w_270 | k + 10, h => absurd h (Nat.not_lt.mpr (Nat.le_add_left 10 k))), ⟨tyX11, tyX11_ok⟩, nmX11⟩
theorem nf_8 : ∀ j, j < 10 → (parseFieldDescriptor (TX11 j).2.2.1).map defaultValue = some (vp_V [.null, .null, .null, .null, .null, .null, .null, .null, .null, .null] j) := by decide +kernel
theorem ok_9 : xok (RX12, TX12, 26) := ⟨xws (fun k hk => match k, hk with | 0, _ => w_1034 | 1, _ => w_1036 | 2, _ => w_1038 | 3, _ => w_1040 | 4, _ => w_1042 | 5, _ => w_1044 | 6, _ => w_1046 | 7, _ => w_1048 | 8, _ => w_1050 | 9, _ => w_1052 | 10, _ => w_1054 | 11, _ => w_1056 | 12, _ => w_1058 | 13, _ => w_1060 | 14, _ => w_1062 | 15, _ => w_1064 | 16, _ => w_1066 | 17, _ => w_1068 | 18, _ => w_1070 | 19, _ => w_1072 | 20, _ => w_1074 | 21, _ => w_1076 | 22, _ => w_1078 | 23, _ => w_1080 | 24, _ => w_1082 | 25, _ => w_1084 | k + 26, h => absurd h (Nat.not_lt.mpr (Nat.le_add_left 26 k))), ⟨tyX12, tyX12_ok⟩, nmX12⟩
theorem nf_9 : ∀ j, j < 26 → (parseFieldDescriptor (TX12 j).2.2.1).map defaultValue = some (vp_V [.null, .null, .null, .int 0, .null, .int 0, .int 0, .int 0, .int 0, .int 0, .int 0, .int 0, .int 0, .null, .null, .null, .null, .int 0, .int 0, .int 0, .null, .null, .null, .null, .null, .int 0] j) := by decide +kernel
theorem ao_2 : RX5 ∈ xaos := by decide
theorem ao_3 : RX3 ∈ xaos := by decide
theorem ao_4 : RX2 ∈ xaos := by decide
theorem st_0 : (RX7, 45, "net", 0, [110, 101, 116]) ∈ xstr := List.mem_of_getElem? (i := 0) rfl
theorem st_1 : (RX7, 96, "row", 1, [114, 111, 119]) ∈ xstr := List.mem_of_getElem? (i := 1) rfl
theorem st_4 : (RX12, 173, "net", 4, [110, 101, 116]) ∈ xstr := List.mem_of_getElem? (i := 2) rfl
theorem st_5 : (RX12, 182, "row", 5, [114, 111, 119]) ∈ xstr := List.mem_of_getElem? (i := 3) rfl
abbrev mJ0_coder_7d493 : xM := (yJ0_coder_7d493, cJ0_coder_7d493, 1, (some .byte))
theorem mkJ0_coder_7d493 : xMok mJ0_coder_7d493 0 := ⟨w_335, w_12, by decide +kernel, by decide +kernel, by decide +kernel⟩
abbrev mJ0_length_8abf5 : xM := (yJ0_length_8abf5, cJ0_length_8abf5, 1, (some .int))
theorem mkJ0_length_8abf5 : xMok mJ0_length_8abf5 0 := ⟨w_331, w_12, by decide +kernel, by decide +kernel, by decide +kernel⟩
abbrev mX0_init : xM := (yX0_init, cX0_init, 1, none)
theorem mkX0_init : xMok mX0_init 0 := ⟨w_203, w_9, by decide +kernel, by decide +kernel, by decide +kernel⟩
abbrev mX11_adds : xM := (yX11_adds, cX11_adds, 7, (some .int))
theorem mkX11_adds : xMok mX11_adds 4 := ⟨w_935, w_1, by decide +kernel, by decide +kernel, by decide +kernel⟩
abbrev mX11_among : xM := (yX11_among, cX11_among, 5, (some .int))
theorem mkX11_among : xMok mX11_among 3 := ⟨w_814, w_1, by decide +kernel, by decide +kernel, by decide +kernel⟩
abbrev mX11_bag : xM := (yX11_bag, cX11_bag, 5, (some .int))
theorem mkX11_bag : xMok mX11_bag 3 := ⟨w_839, w_1, by decide +kernel, by decide +kernel, by decide +kernel⟩
abbrev mX11_best : xM := (yX11_best, cX11_best, 5, (some .int))
theorem mkX11_best : xMok mX11_best 3 := ⟨w_749, w_1, by decide +kernel, by decide +kernel, by decide +kernel⟩
abbrev mX11_bound : xM := (yX11_bound, cX11_bound, 5, (some .int))
theorem mkX11_bound : xMok mX11_bound 3 := ⟨w_776, w_1, by decide +kernel, by decide +kernel, by decide +kernel⟩
abbrev mX11_count : xM := (yX11_count, cX11_count, 2, (some .int))
theorem mkX11_count : xMok mX11_count 1 := ⟨w_480, w_1, by decide +kernel, by decide +kernel, by decide +kernel⟩
abbrev mX11_cuts : xM := (yX11_cuts, cX11_cuts, 6, (some .int))
theorem mkX11_cuts : xMok mX11_cuts 3 := ⟨w_945, w_1, by decide +kernel, by decide +kernel, by decide +kernel⟩
abbrev mX11_drops : xM := (yX11_drops, cX11_drops, 3, (some .int))
theorem mkX11_drops : xMok mX11_drops 1 := ⟨w_954, w_1, by decide +kernel, by decide +kernel, by decide +kernel⟩
abbrev mX11_end : xM := (yX11_end, cX11_end, 2, (some .int))
theorem mkX11_end : xMok mX11_end 1 := ⟨w_293, w_1, by decide +kernel, by decide +kernel, by decide +kernel⟩
abbrev mX11_far : xM := (yX11_far, cX11_far, 5, (some .int))
theorem mkX11_far : xMok mX11_far 3 := ⟨w_550, w_1, by decide +kernel, by decide +kernel, by decide +kernel⟩
abbrev mX11_fault : xM := (yX11_fault, cX11_fault, 2, (some .int))
theorem mkX11_fault : xMok mX11_fault 1 := ⟨w_476, w_1, by decide +kernel, by decide +kernel, by decide +kernel⟩
abbrev mX11_feed : xM := (yX11_feed, cX11_feed, 6, (some .int))
theorem mkX11_feed : xMok mX11_feed 5 := ⟨w_276, w_1, by decide +kernel, by decide +kernel, by decide +kernel⟩
abbrev mX11_filled : xM := (yX11_filled, cX11_filled, 4, (some .int))
theorem mkX11_filled : xMok mX11_filled 2 := ⟨w_852, w_1, by decide +kernel, by decide +kernel, by decide +kernel⟩
abbrev mX11_filledSlots : xM := (yX11_filledSlots, cX11_filledSlots, 3, (some .int))
theorem mkX11_filledSlots : xMok mX11_filledSlots 0 := ⟨w_484, w_1, by decide +kernel, by decide +kernel, by decide +kernel⟩
abbrev mX11_findingOf : xM := (yX11_findingOf, cX11_findingOf, 5, (some (.object "ThinRow$Finding")))
theorem mkX11_findingOf : xMok mX11_findingOf 2 := ⟨w_660, w_1, by decide +kernel, by decide +kernel, by decide +kernel⟩
abbrev mX11_firsts : xM := (yX11_firsts, cX11_firsts, 4, (some .int))
theorem mkX11_firsts : xMok mX11_firsts 2 := ⟨w_772, w_1, by decide +kernel, by decide +kernel, by decide +kernel⟩
abbrev mX11_gain : xM := (yX11_gain, cX11_gain, 6, (some .int))
theorem mkX11_gain : xMok mX11_gain 4 := ⟨w_864, w_1, by decide +kernel, by decide +kernel, by decide +kernel⟩
abbrev mX11_greedy : xM := (yX11_greedy, cX11_greedy, 4, (some .int))
theorem mkX11_greedy : xMok mX11_greedy 2 := ⟨w_915, w_1, by decide +kernel, by decide +kernel, by decide +kernel⟩
abbrev mX11_halve : xM := (yX11_halve, cX11_halve, 3, (some .int))
theorem mkX11_halve : xMok mX11_halve 1 := ⟨w_830, w_1, by decide +kernel, by decide +kernel, by decide +kernel⟩
abbrev mX11_init : xM := (yX11_init, cX11_init, 2, none)
theorem mkX11_init : xMok mX11_init 0 := ⟨w_26, w_1, by decide +kernel, by decide +kernel, by decide +kernel⟩
abbrev mX11_isSlot : xM := (yX11_isSlot, cX11_isSlot, 1, (some .boolean))
theorem mkX11_isSlot : xMok mX11_isSlot 1 := ⟨w_300, w_1, by decide +kernel, by decide +kernel, by decide +kernel⟩
abbrev mX11_layers : xM := (yX11_layers, cX11_layers, 4, (some .int))
theorem mkX11_layers : xMok mX11_layers 2 := ⟨w_923, w_1, by decide +kernel, by decide +kernel, by decide +kernel⟩
abbrev mX11_least : xM := (yX11_least, cX11_least, 4, (some .int))
theorem mkX11_least : xMok mX11_least 2 := ⟨w_656, w_1, by decide +kernel, by decide +kernel, by decide +kernel⟩
abbrev mX11_line : xM := (yX11_line, cX11_line, 5, (some .int))
theorem mkX11_line : xMok mX11_line 3 := ⟨w_545, w_1, by decide +kernel, by decide +kernel, by decide +kernel⟩
abbrev mX11_longest : xM := (yX11_longest, cX11_longest, 3, (some .int))
theorem mkX11_longest : xMok mX11_longest 1 := ⟨w_645, w_1, by decide +kernel, by decide +kernel, by decide +kernel⟩
abbrev mX11_look : xM := (yX11_look, cX11_look, 4, (some .int))
theorem mkX11_look : xMok mX11_look 2 := ⟨w_488, w_1, by decide +kernel, by decide +kernel, by decide +kernel⟩
abbrev mX11_merges : xM := (yX11_merges, cX11_merges, 5, (some .int))
theorem mkX11_merges : xMok mX11_merges 3 := ⟨w_949, w_1, by decide +kernel, by decide +kernel, by decide +kernel⟩
abbrev mX11_minor : xM := (yX11_minor, cX11_minor, 3, (some .int))
theorem mkX11_minor : xMok mX11_minor 1 := ⟨w_791, w_1, by decide +kernel, by decide +kernel, by decide +kernel⟩
abbrev mX11_moves : xM := (yX11_moves, cX11_moves, 5, (some .int))
theorem mkX11_moves : xMok mX11_moves 3 := ⟨w_876, w_1, by decide +kernel, by decide +kernel, by decide +kernel⟩
abbrev mX11_near : xM := (yX11_near, cX11_near, 4, (some .int))
theorem mkX11_near : xMok mX11_near 2 := ⟨w_540, w_1, by decide +kernel, by decide +kernel, by decide +kernel⟩
abbrev mX11_netIn : xM := (yX11_netIn, cX11_netIn, 2, (some (.object "ThinRow$Net")))
theorem mkX11_netIn : xMok mX11_netIn 1 := ⟨w_492, w_1, by decide +kernel, by decide +kernel, by decide +kernel⟩
abbrev mX11_octet : xM := (yX11_octet, cX11_octet, 2, (some .int))
theorem mkX11_octet : xMok mX11_octet 1 := ⟨w_1000, w_1, by decide +kernel, by decide +kernel, by decide +kernel⟩
abbrev mX11_place : xM := (yX11_place, cX11_place, 4, (some .int))
theorem mkX11_place : xMok mX11_place 2 := ⟨w_559, w_1, by decide +kernel, by decide +kernel, by decide +kernel⟩
abbrev mX11_polish : xM := (yX11_polish, cX11_polish, 5, (some .int))
theorem mkX11_polish : xMok mX11_polish 2 := ⟨w_899, w_1, by decide +kernel, by decide +kernel, by decide +kernel⟩
abbrev mX11_polished : xM := (yX11_polished, cX11_polished, 4, (some .int))
theorem mkX11_polished : xMok mX11_polished 2 := ⟨w_911, w_1, by decide +kernel, by decide +kernel, by decide +kernel⟩
abbrev mX11_price : xM := (yX11_price, cX11_price, 5, (some .int))
theorem mkX11_price : xMok mX11_price 3 := ⟨w_618, w_1, by decide +kernel, by decide +kernel, by decide +kernel⟩
abbrev mX11_reverse : xM := (yX11_reverse, cX11_reverse, 3, (some .int))
theorem mkX11_reverse : xMok mX11_reverse 1 := ⟨w_885, w_1, by decide +kernel, by decide +kernel, by decide +kernel⟩
abbrev mX11_row : xM := (yX11_row, cX11_row, 4, (some .int))
theorem mkX11_row : xMok mX11_row 2 := ⟨w_555, w_1, by decide +kernel, by decide +kernel, by decide +kernel⟩
abbrev mX11_split : xM := (yX11_split, cX11_split, 5, (some .int))
theorem mkX11_split : xMok mX11_split 3 := ⟨w_822, w_1, by decide +kernel, by decide +kernel, by decide +kernel⟩
abbrev mX11_swaps : xM := (yX11_swaps, cX11_swaps, 5, (some .int))
theorem mkX11_swaps : xMok mX11_swaps 3 := ⟨w_872, w_1, by decide +kernel, by decide +kernel, by decide +kernel⟩
abbrev mX11_takes : xM := (yX11_takes, cX11_takes, 5, (some .int))
theorem mkX11_takes : xMok mX11_takes 2 := ⟨w_893, w_1, by decide +kernel, by decide +kernel, by decide +kernel⟩
abbrev mX11_tell : xM := (yX11_tell, cX11_tell, 4, (some .int))
theorem mkX11_tell : xMok mX11_tell 2 := ⟨w_967, w_1, by decide +kernel, by decide +kernel, by decide +kernel⟩
abbrev mX11_told : xM := (yX11_told, cX11_told, 4, (some .int))
theorem mkX11_told : xMok mX11_told 1 := ⟨w_297, w_1, by decide +kernel, by decide +kernel, by decide +kernel⟩
abbrev mX11_undo : xM := (yX11_undo, cX11_undo, 1, (some .int))
theorem mkX11_undo : xMok mX11_undo 0 := ⟨w_959, w_1, by decide +kernel, by decide +kernel, by decide +kernel⟩
abbrev mX11_value : xM := (yX11_value, cX11_value, 4, (some .int))
theorem mkX11_value : xMok mX11_value 2 := ⟨w_567, w_1, by decide +kernel, by decide +kernel, by decide +kernel⟩
abbrev mX11_ways : xM := (yX11_ways, cX11_ways, 4, (some .int))
theorem mkX11_ways : xMok mX11_ways 2 := ⟨w_753, w_1, by decide +kernel, by decide +kernel, by decide +kernel⟩
abbrev mX11_within : xM := (yX11_within, cX11_within, 5, (some .int))
theorem mkX11_within : xMok mX11_within 3 := ⟨w_757, w_1, by decide +kernel, by decide +kernel, by decide +kernel⟩
abbrev mX11_worst : xM := (yX11_worst, cX11_worst, 4, (some .int))
theorem mkX11_worst : xMok mX11_worst 2 := ⟨w_636, w_1, by decide +kernel, by decide +kernel, by decide +kernel⟩
abbrev mX12_adds : xM := (yX12_adds, cX12_adds, 6, (some .int))
theorem mkX12_adds : xMok mX12_adds 4 := ⟨w_1497, w_11, by decide +kernel, by decide +kernel, by decide +kernel⟩
abbrev mX12_among : xM := (yX12_among, cX12_among, 8, (some .int))
theorem mkX12_among : xMok mX12_among 3 := ⟨w_1413, w_11, by decide +kernel, by decide +kernel, by decide +kernel⟩
abbrev mX12_areTwo : xM := (yX12_areTwo, cX12_areTwo, 4, (some .boolean))
theorem mkX12_areTwo : xMok mX12_areTwo 3 := ⟨w_1501, w_11, by decide +kernel, by decide +kernel, by decide +kernel⟩
abbrev mX12_bag : xM := (yX12_bag, cX12_bag, 8, (some .int))
theorem mkX12_bag : xMok mX12_bag 3 := ⟨w_1441, w_11, by decide +kernel, by decide +kernel, by decide +kernel⟩
abbrev mX12_best : xM := (yX12_best, cX12_best, 4, (some .int))
theorem mkX12_best : xMok mX12_best 3 := ⟨w_1380, w_11, by decide +kernel, by decide +kernel, by decide +kernel⟩
abbrev mX12_bound : xM := (yX12_bound, cX12_bound, 6, (some .int))
theorem mkX12_bound : xMok mX12_bound 3 := ⟨w_1417, w_11, by decide +kernel, by decide +kernel, by decide +kernel⟩
abbrev mX12_count : xM := (yX12_count, cX12_count, 4, (some .int))
theorem mkX12_count : xMok mX12_count 1 := ⟨w_1220, w_11, by decide +kernel, by decide +kernel, by decide +kernel⟩
abbrev mX12_cuts : xM := (yX12_cuts, cX12_cuts, 5, (some .int))
theorem mkX12_cuts : xMok mX12_cuts 3 := ⟨w_1506, w_11, by decide +kernel, by decide +kernel, by decide +kernel⟩
abbrev mX12_drops : xM := (yX12_drops, cX12_drops, 2, (some .int))
theorem mkX12_drops : xMok mX12_drops 1 := ⟨w_1094, w_11, by decide +kernel, by decide +kernel, by decide +kernel⟩
abbrev mX12_empties : xM := (yX12_empties, cX12_empties, 3, none)
theorem mkX12_empties : xMok mX12_empties 1 := ⟨w_1117, w_11, by decide +kernel, by decide +kernel, by decide +kernel⟩
abbrev mX12_end : xM := (yX12_end, cX12_end, 2, (some .int))
theorem mkX12_end : xMok mX12_end 1 := ⟨w_1129, w_11, by decide +kernel, by decide +kernel, by decide +kernel⟩
abbrev mX12_far : xM := (yX12_far, cX12_far, 4, (some .int))
theorem mkX12_far : xMok mX12_far 3 := ⟨w_1266, w_11, by decide +kernel, by decide +kernel, by decide +kernel⟩
abbrev mX12_fault : xM := (yX12_fault, cX12_fault, 2, (some .int))
theorem mkX12_fault : xMok mX12_fault 1 := ⟨w_1216, w_11, by decide +kernel, by decide +kernel, by decide +kernel⟩
abbrev mX12_faults : xM := (yX12_faults, cX12_faults, 2, none)
theorem mkX12_faults : xMok mX12_faults 1 := ⟨w_1161, w_11, by decide +kernel, by decide +kernel, by decide +kernel⟩
abbrev mX12_feed : xM := (yX12_feed, cX12_feed, 8, (some .int))
theorem mkX12_feed : xMok mX12_feed 5 := ⟨w_1125, w_11, by decide +kernel, by decide +kernel, by decide +kernel⟩
abbrev mX12_filled : xM := (yX12_filled, cX12_filled, 9, (some .int))
theorem mkX12_filled : xMok mX12_filled 2 := ⟨w_1445, w_11, by decide +kernel, by decide +kernel, by decide +kernel⟩
abbrev mX12_firsts : xM := (yX12_firsts, cX12_firsts, 5, (some .int))
theorem mkX12_firsts : xMok mX12_firsts 2 := ⟨w_1409, w_11, by decide +kernel, by decide +kernel, by decide +kernel⟩
abbrev mX12_gain : xM := (yX12_gain, cX12_gain, 6, (some .int))
theorem mkX12_gain : xMok mX12_gain 4 := ⟨w_1449, w_11, by decide +kernel, by decide +kernel, by decide +kernel⟩
abbrev mX12_greedy : xM := (yX12_greedy, cX12_greedy, 7, (some .int))
theorem mkX12_greedy : xMok mX12_greedy 2 := ⟨w_1489, w_11, by decide +kernel, by decide +kernel, by decide +kernel⟩
abbrev mX12_halve : xM := (yX12_halve, cX12_halve, 4, (some .int))
theorem mkX12_halve : xMok mX12_halve 1 := ⟨w_1437, w_11, by decide +kernel, by decide +kernel, by decide +kernel⟩
abbrev mX12_here : xM := (yX12_here, cX12_here, 3, (some .int))
theorem mkX12_here : xMok mX12_here 2 := ⟨w_1169, w_11, by decide +kernel, by decide +kernel, by decide +kernel⟩
abbrev mX12_in : xM := (yX12_in, cX12_in, 6, (some .boolean))
theorem mkX12_in : xMok mX12_in 3 := ⟨w_1101, w_11, by decide +kernel, by decide +kernel, by decide +kernel⟩
abbrev mX12_init : xM := (yX12_init, cX12_init, 1, none)
theorem mkX12_init : xMok mX12_init 0 := ⟨w_1006, w_11, by decide +kernel, by decide +kernel, by decide +kernel⟩
abbrev mX12_isAt : xM := (yX12_isAt, cX12_isAt, 3, (some .boolean))
theorem mkX12_isAt : xMok mX12_isAt 2 := ⟨w_1141, w_11, by decide +kernel, by decide +kernel, by decide +kernel⟩
abbrev mX12_isNet : xM := (yX12_isNet, cX12_isNet, 2, (some .boolean))
theorem mkX12_isNet : xMok mX12_isNet 1 := ⟨w_1105, w_11, by decide +kernel, by decide +kernel, by decide +kernel⟩
abbrev mX12_isPoint : xM := (yX12_isPoint, cX12_isPoint, 3, (some .boolean))
theorem mkX12_isPoint : xMok mX12_isPoint 2 := ⟨w_1258, w_11, by decide +kernel, by decide +kernel, by decide +kernel⟩
abbrev mX12_isSign : xM := (yX12_isSign, cX12_isSign, 2, (some .boolean))
theorem mkX12_isSign : xMok mX12_isSign 1 := ⟨w_1177, w_11, by decide +kernel, by decide +kernel, by decide +kernel⟩
abbrev mX12_isSlot : xM := (yX12_isSlot, cX12_isSlot, 1, (some .boolean))
theorem mkX12_isSlot : xMok mX12_isSlot 1 := ⟨w_1097, w_11, by decide +kernel, by decide +kernel, by decide +kernel⟩
abbrev mX12_isWord : xM := (yX12_isWord, cX12_isWord, 4, (some .boolean))
theorem mkX12_isWord : xMok mX12_isWord 1 := ⟨w_1151, w_11, by decide +kernel, by decide +kernel, by decide +kernel⟩
abbrev mX12_layers : xM := (yX12_layers, cX12_layers, 6, (some .int))
theorem mkX12_layers : xMok mX12_layers 2 := ⟨w_1493, w_11, by decide +kernel, by decide +kernel, by decide +kernel⟩
abbrev mX12_least : xM := (yX12_least, cX12_least, 3, (some .int))
theorem mkX12_least : xMok mX12_least 2 := ⟨w_1351, w_11, by decide +kernel, by decide +kernel, by decide +kernel⟩
abbrev mX12_line : xM := (yX12_line, cX12_line, 4, (some .int))
theorem mkX12_line : xMok mX12_line 3 := ⟨w_1262, w_11, by decide +kernel, by decide +kernel, by decide +kernel⟩
abbrev mX12_longest : xM := (yX12_longest, cX12_longest, 7, (some .int))
theorem mkX12_longest : xMok mX12_longest 1 := ⟨w_1346, w_11, by decide +kernel, by decide +kernel, by decide +kernel⟩
abbrev mX12_look : xM := (yX12_look, cX12_look, 5, (some .int))
theorem mkX12_look : xMok mX12_look 2 := ⟨w_1224, w_11, by decide +kernel, by decide +kernel, by decide +kernel⟩
abbrev mX12_merges : xM := (yX12_merges, cX12_merges, 12, (some .int))
theorem mkX12_merges : xMok mX12_merges 3 := ⟨w_1510, w_11, by decide +kernel, by decide +kernel, by decide +kernel⟩
abbrev mX12_minor : xM := (yX12_minor, cX12_minor, 8, (some .int))
theorem mkX12_minor : xMok mX12_minor 1 := ⟨w_1425, w_11, by decide +kernel, by decide +kernel, by decide +kernel⟩
abbrev mX12_moves : xM := (yX12_moves, cX12_moves, 6, (some .int))
theorem mkX12_moves : xMok mX12_moves 3 := ⟨w_1465, w_11, by decide +kernel, by decide +kernel, by decide +kernel⟩
abbrev mX12_must : xM := (yX12_must, cX12_must, 2, none)
theorem mkX12_must : xMok mX12_must 1 := ⟨w_1157, w_11, by decide +kernel, by decide +kernel, by decide +kernel⟩
abbrev mX12_near : xM := (yX12_near, cX12_near, 3, (some .int))
theorem mkX12_near : xMok mX12_near 2 := ⟨w_1254, w_11, by decide +kernel, by decide +kernel, by decide +kernel⟩
abbrev mX12_next : xM := (yX12_next, cX12_next, 1, none)
theorem mkX12_next : xMok mX12_next 0 := ⟨w_1137, w_11, by decide +kernel, by decide +kernel, by decide +kernel⟩
abbrev mX12_octet : xM := (yX12_octet, cX12_octet, 2, (some .int))
theorem mkX12_octet : xMok mX12_octet 1 := ⟨w_1539, w_11, by decide +kernel, by decide +kernel, by decide +kernel⟩
abbrev mX12_passes : xM := (yX12_passes, cX12_passes, 1, none)
theorem mkX12_passes : xMok mX12_passes 0 := ⟨w_1165, w_11, by decide +kernel, by decide +kernel, by decide +kernel⟩
abbrev mX12_place : xM := (yX12_place, cX12_place, 3, (some .int))
theorem mkX12_place : xMok mX12_place 2 := ⟨w_1278, w_11, by decide +kernel, by decide +kernel, by decide +kernel⟩
abbrev mX12_points : xM := (yX12_points, cX12_points, 2, (some .int))
theorem mkX12_points : xMok mX12_points 1 := ⟨w_1109, w_11, by decide +kernel, by decide +kernel, by decide +kernel⟩
abbrev mX12_polish : xM := (yX12_polish, cX12_polish, 5, (some .int))
theorem mkX12_polish : xMok mX12_polish 2 := ⟨w_1477, w_11, by decide +kernel, by decide +kernel, by decide +kernel⟩
abbrev mX12_polished : xM := (yX12_polished, cX12_polished, 4, (some .int))
theorem mkX12_polished : xMok mX12_polished 2 := ⟨w_1485, w_11, by decide +kernel, by decide +kernel, by decide +kernel⟩
abbrev mX12_price : xM := (yX12_price, cX12_price, 4, (some .int))
theorem mkX12_price : xMok mX12_price 3 := ⟨w_1327, w_11, by decide +kernel, by decide +kernel, by decide +kernel⟩
abbrev mX12_puts : xM := (yX12_puts, cX12_puts, 4, none)
theorem mkX12_puts : xMok mX12_puts 3 := ⟨w_1173, w_11, by decide +kernel, by decide +kernel, by decide +kernel⟩
abbrev mX12_readsNet : xM := (yX12_readsNet, cX12_readsNet, 4, none)
theorem mkX12_readsNet : xMok mX12_readsNet 1 := ⟨w_1146, w_11, by decide +kernel, by decide +kernel, by decide +kernel⟩
abbrev mX12_remembers : xM := (yX12_remembers, cX12_remembers, 2, none)
theorem mkX12_remembers : xMok mX12_remembers 0 := ⟨w_1113, w_11, by decide +kernel, by decide +kernel, by decide +kernel⟩
abbrev mX12_reverse : xM := (yX12_reverse, cX12_reverse, 3, (some .int))
theorem mkX12_reverse : xMok mX12_reverse 1 := ⟨w_1469, w_11, by decide +kernel, by decide +kernel, by decide +kernel⟩
abbrev mX12_row : xM := (yX12_row, cX12_row, 3, (some .int))
theorem mkX12_row : xMok mX12_row 2 := ⟨w_1270, w_11, by decide +kernel, by decide +kernel, by decide +kernel⟩
abbrev mX12_split : xM := (yX12_split, cX12_split, 4, (some .int))
theorem mkX12_split : xMok mX12_split 3 := ⟨w_1433, w_11, by decide +kernel, by decide +kernel, by decide +kernel⟩
abbrev mX12_swaps : xM := (yX12_swaps, cX12_swaps, 6, (some .int))
theorem mkX12_swaps : xMok mX12_swaps 3 := ⟨w_1457, w_11, by decide +kernel, by decide +kernel, by decide +kernel⟩
abbrev mX12_takes : xM := (yX12_takes, cX12_takes, 4, (some .int))
theorem mkX12_takes : xMok mX12_takes 2 := ⟨w_1473, w_11, by decide +kernel, by decide +kernel, by decide +kernel⟩
abbrev mX12_tell : xM := (yX12_tell, cX12_tell, 4, (some .int))
theorem mkX12_tell : xMok mX12_tell 2 := ⟨w_1514, w_11, by decide +kernel, by decide +kernel, by decide +kernel⟩
abbrev mX12_told : xM := (yX12_told, cX12_told, 3, (some .int))
theorem mkX12_told : xMok mX12_told 1 := ⟨w_1133, w_11, by decide +kernel, by decide +kernel, by decide +kernel⟩
abbrev mX12_undo : xM := (yX12_undo, cX12_undo, 2, (some .int))
theorem mkX12_undo : xMok mX12_undo 0 := ⟨w_1090, w_11, by decide +kernel, by decide +kernel, by decide +kernel⟩
abbrev mX12_value : xM := (yX12_value, cX12_value, 3, (some .int))
theorem mkX12_value : xMok mX12_value 2 := ⟨w_1286, w_11, by decide +kernel, by decide +kernel, by decide +kernel⟩
abbrev mX12_ways : xM := (yX12_ways, cX12_ways, 3, (some .int))
theorem mkX12_ways : xMok mX12_ways 2 := ⟨w_1392, w_11, by decide +kernel, by decide +kernel, by decide +kernel⟩
abbrev mX12_within : xM := (yX12_within, cX12_within, 4, (some .int))
theorem mkX12_within : xMok mX12_within 3 := ⟨w_1404, w_11, by decide +kernel, by decide +kernel, by decide +kernel⟩
abbrev mX12_worst : xM := (yX12_worst, cX12_worst, 5, (some .int))
theorem mkX12_worst : xMok mX12_worst 2 := ⟨w_1342, w_11, by decide +kernel, by decide +kernel, by decide +kernel⟩
abbrev mX1_at : xM := (yX1_at, cX1_at, 2, (some .int))
theorem mkX1_at : xMok mX1_at 1 := ⟨w_312, w_2, by decide +kernel, by decide +kernel, by decide +kernel⟩
abbrev mX1_hasRoom : xM := (yX1_hasRoom, cX1_hasRoom, 2, (some .boolean))
theorem mkX1_hasRoom : xMok mX1_hasRoom 1 := ⟨w_280, w_2, by decide +kernel, by decide +kernel, by decide +kernel⟩
abbrev mX1_init : xM := (yX1_init, cX1_init, 2, none)
theorem mkX1_init : xMok mX1_init 1 := ⟨w_34, w_2, by decide +kernel, by decide +kernel, by decide +kernel⟩
abbrev mX1_put : xM := (yX1_put, cX1_put, 2, none)
theorem mkX1_put : xMok mX1_put 1 := ⟨w_288, w_2, by decide +kernel, by decide +kernel, by decide +kernel⟩
abbrev mX1_putFour : xM := (yX1_putFour, cX1_putFour, 2, none)
theorem mkX1_putFour : xMok mX1_putFour 1 := ⟨w_284, w_2, by decide +kernel, by decide +kernel, by decide +kernel⟩
abbrev mX2_init : xM := (yX2_init, cX2_init, 1, none)
theorem mkX2_init : xMok mX2_init 0 := ⟨w_141, w_7, by decide +kernel, by decide +kernel, by decide +kernel⟩
abbrev mX3_init : xM := (yX3_init, cX3_init, 2, none)
theorem mkX3_init : xMok mX3_init 0 := ⟨w_132, w_6, by decide +kernel, by decide +kernel, by decide +kernel⟩
abbrev mX4_init : xM := (yX4_init, cX4_init, 2, none)
theorem mkX4_init : xMok mX4_init 0 := ⟨w_224, w_10, by decide +kernel, by decide +kernel, by decide +kernel⟩
abbrev mX5_init : xM := (yX5_init, cX5_init, 1, none)
theorem mkX5_init : xMok mX5_init 0 := ⟨w_59, w_5, by decide +kernel, by decide +kernel, by decide +kernel⟩
abbrev mX7_blame : xM := (yX7_blame, cX7_blame, 2, (some .boolean))
theorem mkX7_blame : xMok mX7_blame 1 := ⟨w_379, w_4, by decide +kernel, by decide +kernel, by decide +kernel⟩
abbrev mX7_init : xM := (yX7_init, cX7_init, 2, none)
theorem mkX7_init : xMok mX7_init 1 := ⟨w_53, w_4, by decide +kernel, by decide +kernel, by decide +kernel⟩
abbrev mX7_isWord : xM := (yX7_isWord, cX7_isWord, 3, (some .boolean))
theorem mkX7_isWord : xMok mX7_isWord 1 := ⟨w_327, w_4, by decide +kernel, by decide +kernel, by decide +kernel⟩
abbrev mX7_kindOf : xM := (yX7_kindOf, cX7_kindOf, 1, (some .int))
theorem mkX7_kindOf : xMok mX7_kindOf 1 := ⟨w_318, w_4, by decide +kernel, by decide +kernel, by decide +kernel⟩
abbrev mX7_readAll : xM := (yX7_readAll, cX7_readAll, 1, (some .boolean))
theorem mkX7_readAll : xMok mX7_readAll 0 := ⟨w_304, w_4, by decide +kernel, by decide +kernel, by decide +kernel⟩
abbrev mX7_readHead : xM := (yX7_readHead, cX7_readHead, 1, (some .boolean))
theorem mkX7_readHead : xMok mX7_readHead 0 := ⟨w_322, w_4, by decide +kernel, by decide +kernel, by decide +kernel⟩
abbrev mX7_step : xM := (yX7_step, cX7_step, 1, none)
theorem mkX7_step : xMok mX7_step 0 := ⟨w_308, w_4, by decide +kernel, by decide +kernel, by decide +kernel⟩
abbrev mX9_init : xM := (yX9_init, cX9_init, 1, none)
theorem mkX9_init : xMok mX9_init 0 := ⟨w_181, w_8, by decide +kernel, by decide +kernel, by decide +kernel⟩
abbrev xz (n : Nat) : va_E := .inl (0, n, .inl (fun _ => 0))
abbrev xzb (n : Nat) : va_E := .inl (1, n, .inl (fun _ => 0))
theorem xpg {P X : xMem} {L j : Nat} {c : va_E} (hP : P.length = L) (h : X[j]? = some c) : (P ++ X)[L + j]? = some c := by
  subst hP
  rw [List.getElem?_append_right (Nat.le_add_right _ _), Nat.add_sub_cancel_left]
  exact h
theorem xpg0 {P X : xMem} {L : Nat} {c : va_E} (hP : P.length = L) (h : X[0]? = some c) : (P ++ X)[L]? = some c := xpg (j := 0) hP h
theorem xps {P X : xMem} {L j : Nat} {c : va_E} (hP : P.length = L) : (P ++ X).set (L + j) c = P ++ X.set j c := by
  subst hP
  rw [List.set_append_right _ _ (Nat.le_add_right _ _), Nat.add_sub_cancel_left]
theorem xps0 {P X : xMem} {L : Nat} {c : va_E} (hP : P.length = L) : (P ++ X).set L c = P ++ X.set 0 c := xps (j := 0) hP
theorem xpl {P X : xMem} {L j : Nat} (hP : P.length = L) (h : X.length = j) : (P ++ X).length = L + j := by
  rw [List.length_append, hP, h]
