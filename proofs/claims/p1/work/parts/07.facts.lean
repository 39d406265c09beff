/-! facts of the tables and of the bytes (printed by wip/p1/facts.py) -/
theorem w_1 : (Jvm.Cond.initialized "ThinRow") ∈ xWall := xw 95 (by decide +kernel) rfl
theorem w_2 : (Jvm.Cond.initialized "ThinRow$Bytes") ∈ xWall := xw 96 (by decide +kernel) rfl
theorem w_3 : (Jvm.Cond.initialized "java/lang/Math") ∈ xWall := xw 97 (by decide +kernel) rfl
theorem w_4 : (Jvm.Cond.initialized "ThinRow$Reader") ∈ xWall := xw 98 (by decide +kernel) rfl
theorem w_5 : (Jvm.Cond.initialized "ThinRow$Net") ∈ xWall := xw 99 (by decide +kernel) rfl
theorem w_6 : (Jvm.Cond.initialized "ThinRow$Findings") ∈ xWall := xw 100 (by decide +kernel) rfl
theorem w_7 : (Jvm.Cond.initialized "ThinRow$Finding") ∈ xWall := xw 101 (by decide +kernel) rfl
theorem w_8 : (Jvm.Cond.initialized "ThinRow$SetSearch") ∈ xWall := xw 102 (by decide +kernel) rfl
theorem w_9 : (Jvm.Cond.initialized "ThinRow$BandSearch") ∈ xWall := xw 103 (by decide +kernel) rfl
theorem w_10 : (Jvm.Cond.initialized "ThinRow$History") ∈ xWall := xw 104 (by decide +kernel) rfl
theorem w_11 : (Jvm.Cond.initialized "ThinRowModel") ∈ xWall := xw 105 (by decide +kernel) rfl
theorem w_26 : (Jvm.Cond.code ({ cls := "ThinRow", name := "<init>", desc := "()V" } : Jvm.MethodName) prog_1_method_1_code (2 : Nat) (Option.none : Option Jvm.ClassFile.FieldType)) ∈ xWall := xw 120 (by decide +kernel) rfl
theorem w_27 : (Jvm.Cond.methodLink "ThinRow" (1 : Nat) ({ cls := "java/lang/Object", name := "<init>", desc := "()V" } : Jvm.MethodName)) ∈ xWall := xw 121 (by decide +kernel) rfl
theorem w_28 : (Jvm.Cond.instanceMethod ({ cls := "java/lang/Object", name := "<init>", desc := "()V" } : Jvm.MethodName)) ∈ xWall := xw 122 (by decide +kernel) rfl
theorem w_30 : (Jvm.Cond.classLink "ThinRow" (7 : Nat) "ThinRow$Bytes") ∈ xWall := xw 124 (by decide +kernel) rfl
theorem w_31 : (Jvm.Cond.instantiable "ThinRow$Bytes" (2 : Nat)) ∈ xWall := xw 125 (by decide +kernel) rfl
theorem w_32 : (Jvm.Cond.methodLink "ThinRow" (11 : Nat) ({ cls := "ThinRow$Bytes", name := "<init>", desc := "(I)V" } : Jvm.MethodName)) ∈ xWall := xw 126 (by decide +kernel) rfl
theorem w_33 : (Jvm.Cond.instanceMethod ({ cls := "ThinRow$Bytes", name := "<init>", desc := "(I)V" } : Jvm.MethodName)) ∈ xWall := xw 127 (by decide +kernel) rfl
theorem w_34 : (Jvm.Cond.code ({ cls := "ThinRow$Bytes", name := "<init>", desc := "(I)V" } : Jvm.MethodName) prog_3_method_1_code (2 : Nat) (Option.none : Option Jvm.ClassFile.FieldType)) ∈ xWall := xw 128 (by decide +kernel) rfl
theorem w_35 : (Jvm.Cond.methodLink "ThinRow$Bytes" (3 : Nat) ({ cls := "java/lang/Object", name := "<init>", desc := "()V" } : Jvm.MethodName)) ∈ xWall := xw 129 (by decide +kernel) rfl
theorem w_36 : (Jvm.Cond.methodLink "ThinRow$Bytes" (9 : Nat) ({ cls := "java/lang/Math", name := "max", desc := "(II)I" } : Jvm.MethodName)) ∈ xWall := xw 130 (by decide +kernel) rfl
theorem w_37 : (Jvm.Cond.static ({ cls := "java/lang/Math", name := "max", desc := "(II)I" } : Jvm.MethodName)) ∈ xWall := xw 131 (by decide +kernel) rfl
theorem w_39 : (Jvm.Cond.fieldLink "ThinRow$Bytes" (15 : Nat) "ThinRow$Bytes" "held" "[B") ∈ xWall := xw 133 (by decide +kernel) rfl
theorem w_43 : (Jvm.Cond.laysFinal "ThinRow$Bytes" "ThinRow$Bytes" "held" "[B") ∈ xWall := xw 137 (by decide +kernel) rfl
theorem w_45 : (Jvm.Cond.lays "ThinRow$Bytes" "ThinRow$Bytes" "size" "I") ∈ xWall := xw 139 (by decide +kernel) rfl
theorem w_48 : (Jvm.Cond.arrayClass Jvm.ClassFile.FieldType.byte) ∈ xWall := xw 142 (by decide +kernel) rfl
theorem w_49 : (Jvm.Cond.classLink "ThinRow" (21 : Nat) "ThinRow$Reader") ∈ xWall := xw 143 (by decide +kernel) rfl
theorem w_50 : (Jvm.Cond.instantiable "ThinRow$Reader" (8 : Nat)) ∈ xWall := xw 144 (by decide +kernel) rfl
theorem w_51 : (Jvm.Cond.methodLink "ThinRow" (23 : Nat) ({ cls := "ThinRow$Reader", name := "<init>", desc := "(LThinRow$Bytes;)V" } : Jvm.MethodName)) ∈ xWall := xw 145 (by decide +kernel) rfl
theorem w_52 : (Jvm.Cond.instanceMethod ({ cls := "ThinRow$Reader", name := "<init>", desc := "(LThinRow$Bytes;)V" } : Jvm.MethodName)) ∈ xWall := xw 146 (by decide +kernel) rfl
theorem w_53 : (Jvm.Cond.code ({ cls := "ThinRow$Reader", name := "<init>", desc := "(LThinRow$Bytes;)V" } : Jvm.MethodName) prog_9_method_1_code (2 : Nat) (Option.none : Option Jvm.ClassFile.FieldType)) ∈ xWall := xw 147 (by decide +kernel) rfl
theorem w_54 : (Jvm.Cond.methodLink "ThinRow$Reader" (3 : Nat) ({ cls := "java/lang/Object", name := "<init>", desc := "()V" } : Jvm.MethodName)) ∈ xWall := xw 148 (by decide +kernel) rfl
theorem w_55 : (Jvm.Cond.classLink "ThinRow$Reader" (9 : Nat) "ThinRow$Net") ∈ xWall := xw 149 (by decide +kernel) rfl
theorem w_56 : (Jvm.Cond.instantiable "ThinRow$Net" (5 : Nat)) ∈ xWall := xw 150 (by decide +kernel) rfl
theorem w_58 : (Jvm.Cond.instanceMethod ({ cls := "ThinRow$Net", name := "<init>", desc := "()V" } : Jvm.MethodName)) ∈ xWall := xw 152 (by decide +kernel) rfl
theorem w_59 : (Jvm.Cond.code ({ cls := "ThinRow$Net", name := "<init>", desc := "()V" } : Jvm.MethodName) prog_7_method_1_code (1 : Nat) (Option.none : Option Jvm.ClassFile.FieldType)) ∈ xWall := xw 153 (by decide +kernel) rfl
theorem w_60 : (Jvm.Cond.methodLink "ThinRow$Net" (3 : Nat) ({ cls := "java/lang/Object", name := "<init>", desc := "()V" } : Jvm.MethodName)) ∈ xWall := xw 154 (by decide +kernel) rfl
theorem w_72 : (Jvm.Cond.fieldLink "ThinRow$Net" (9 : Nat) "ThinRow$Net" "nearBits" "[I") ∈ xWall := xw 166 (by decide +kernel) rfl
theorem w_78 : (Jvm.Cond.fieldLink "ThinRow$Net" (15 : Nat) "ThinRow$Net" "order" "[I") ∈ xWall := xw 172 (by decide +kernel) rfl
theorem w_83 : (Jvm.Cond.fieldLink "ThinRow$Net" (18 : Nat) "ThinRow$Net" "weights" "[I") ∈ xWall := xw 177 (by decide +kernel) rfl
theorem w_84 : (Jvm.Cond.lays "ThinRow$Net" "ThinRow$Net" "points" "I") ∈ xWall := xw 178 (by decide +kernel) rfl
theorem w_86 : (Jvm.Cond.lays "ThinRow$Net" "ThinRow$Net" "lines" "I") ∈ xWall := xw 180 (by decide +kernel) rfl
theorem w_88 : (Jvm.Cond.laysFinal "ThinRow$Net" "ThinRow$Net" "nearBits" "[I") ∈ xWall := xw 182 (by decide +kernel) rfl
theorem w_90 : (Jvm.Cond.laysFinal "ThinRow$Net" "ThinRow$Net" "order" "[I") ∈ xWall := xw 184 (by decide +kernel) rfl
theorem w_92 : (Jvm.Cond.laysFinal "ThinRow$Net" "ThinRow$Net" "weights" "[I") ∈ xWall := xw 186 (by decide +kernel) rfl
theorem w_95 : (Jvm.Cond.arrayClass Jvm.ClassFile.FieldType.int) ∈ xWall := xw 189 (by decide +kernel) rfl
theorem w_96 : (Jvm.Cond.fieldLink "ThinRow$Reader" (12 : Nat) "ThinRow$Reader" "draft" "LThinRow$Net;") ∈ xWall := xw 190 (by decide +kernel) rfl
theorem w_100 : (Jvm.Cond.fieldLink "ThinRow$Reader" (18 : Nat) "ThinRow$Reader" "faultPlace" "I") ∈ xWall := xw 194 (by decide +kernel) rfl
theorem w_102 : (Jvm.Cond.fieldLink "ThinRow$Reader" (22 : Nat) "ThinRow$Reader" "source" "LThinRow$Bytes;") ∈ xWall := xw 196 (by decide +kernel) rfl
theorem w_107 : (Jvm.Cond.laysFinal "ThinRow$Reader" "ThinRow$Reader" "draft" "LThinRow$Net;") ∈ xWall := xw 201 (by decide +kernel) rfl
theorem w_109 : (Jvm.Cond.lays "ThinRow$Reader" "ThinRow$Reader" "faultNumber" "I") ∈ xWall := xw 203 (by decide +kernel) rfl
theorem w_111 : (Jvm.Cond.lays "ThinRow$Reader" "ThinRow$Reader" "faultPlace" "I") ∈ xWall := xw 205 (by decide +kernel) rfl
theorem w_113 : (Jvm.Cond.laysFinal "ThinRow$Reader" "ThinRow$Reader" "source" "LThinRow$Bytes;") ∈ xWall := xw 207 (by decide +kernel) rfl
theorem w_115 : (Jvm.Cond.lays "ThinRow$Reader" "ThinRow$Reader" "kind" "I") ∈ xWall := xw 209 (by decide +kernel) rfl
theorem w_117 : (Jvm.Cond.lays "ThinRow$Reader" "ThinRow$Reader" "start" "I") ∈ xWall := xw 211 (by decide +kernel) rfl
theorem w_119 : (Jvm.Cond.lays "ThinRow$Reader" "ThinRow$Reader" "behind" "I") ∈ xWall := xw 213 (by decide +kernel) rfl
theorem w_121 : (Jvm.Cond.lays "ThinRow$Reader" "ThinRow$Reader" "number" "I") ∈ xWall := xw 215 (by decide +kernel) rfl
theorem w_124 : (Jvm.Cond.classLink "ThinRow" (30 : Nat) "ThinRow$Net") ∈ xWall := xw 218 (by decide +kernel) rfl
theorem w_126 : (Jvm.Cond.classLink "ThinRow" (36 : Nat) "ThinRow$Findings") ∈ xWall := xw 220 (by decide +kernel) rfl
theorem w_129 : (Jvm.Cond.instantiable "ThinRow$Findings" (2 : Nat)) ∈ xWall := xw 223 (by decide +kernel) rfl
theorem w_130 : (Jvm.Cond.methodLink "ThinRow" (43 : Nat) ({ cls := "ThinRow$Findings", name := "<init>", desc := "()V" } : Jvm.MethodName)) ∈ xWall := xw 224 (by decide +kernel) rfl
theorem w_131 : (Jvm.Cond.instanceMethod ({ cls := "ThinRow$Findings", name := "<init>", desc := "()V" } : Jvm.MethodName)) ∈ xWall := xw 225 (by decide +kernel) rfl
theorem w_132 : (Jvm.Cond.code ({ cls := "ThinRow$Findings", name := "<init>", desc := "()V" } : Jvm.MethodName) prog_5_method_1_code (2 : Nat) (Option.none : Option Jvm.ClassFile.FieldType)) ∈ xWall := xw 226 (by decide +kernel) rfl
theorem w_133 : (Jvm.Cond.methodLink "ThinRow$Findings" (3 : Nat) ({ cls := "java/lang/Object", name := "<init>", desc := "()V" } : Jvm.MethodName)) ∈ xWall := xw 227 (by decide +kernel) rfl
theorem w_134 : (Jvm.Cond.classLink "ThinRow$Findings" (9 : Nat) "ThinRow$Finding") ∈ xWall := xw 228 (by decide +kernel) rfl
theorem w_136 : (Jvm.Cond.classLink "ThinRow$Findings" (17 : Nat) "ThinRow$Net") ∈ xWall := xw 230 (by decide +kernel) rfl
theorem w_138 : (Jvm.Cond.instantiable "ThinRow$Finding" (5 : Nat)) ∈ xWall := xw 232 (by decide +kernel) rfl
theorem w_140 : (Jvm.Cond.instanceMethod ({ cls := "ThinRow$Finding", name := "<init>", desc := "()V" } : Jvm.MethodName)) ∈ xWall := xw 234 (by decide +kernel) rfl
theorem w_141 : (Jvm.Cond.code ({ cls := "ThinRow$Finding", name := "<init>", desc := "()V" } : Jvm.MethodName) prog_4_method_1_code (1 : Nat) (Option.none : Option Jvm.ClassFile.FieldType)) ∈ xWall := xw 235 (by decide +kernel) rfl
theorem w_142 : (Jvm.Cond.methodLink "ThinRow$Finding" (3 : Nat) ({ cls := "java/lang/Object", name := "<init>", desc := "()V" } : Jvm.MethodName)) ∈ xWall := xw 236 (by decide +kernel) rfl
theorem w_154 : (Jvm.Cond.fieldLink "ThinRow$Finding" (9 : Nat) "ThinRow$Finding" "firstRow" "[I") ∈ xWall := xw 248 (by decide +kernel) rfl
theorem w_158 : (Jvm.Cond.lays "ThinRow$Finding" "ThinRow$Finding" "known" "Z") ∈ xWall := xw 252 (by decide +kernel) rfl
theorem w_160 : (Jvm.Cond.lays "ThinRow$Finding" "ThinRow$Finding" "leastValue" "I") ∈ xWall := xw 254 (by decide +kernel) rfl
theorem w_162 : (Jvm.Cond.lays "ThinRow$Finding" "ThinRow$Finding" "rowCount" "I") ∈ xWall := xw 256 (by decide +kernel) rfl
theorem w_164 : (Jvm.Cond.lays "ThinRow$Finding" "ThinRow$Finding" "firstPoints" "I") ∈ xWall := xw 258 (by decide +kernel) rfl
theorem w_166 : (Jvm.Cond.laysFinal "ThinRow$Finding" "ThinRow$Finding" "firstRow" "[I") ∈ xWall := xw 260 (by decide +kernel) rfl
theorem w_169 : (Jvm.Cond.fieldLink "ThinRow$Findings" (11 : Nat) "ThinRow$Findings" "ofMeasure" "[LThinRow$Finding;") ∈ xWall := xw 263 (by decide +kernel) rfl
theorem w_171 : (Jvm.Cond.fieldLink "ThinRow$Findings" (20 : Nat) "ThinRow$Findings" "about" "LThinRow$Net;") ∈ xWall := xw 265 (by decide +kernel) rfl
theorem w_172 : (Jvm.Cond.laysFinal "ThinRow$Findings" "ThinRow$Findings" "ofMeasure" "[LThinRow$Finding;") ∈ xWall := xw 266 (by decide +kernel) rfl
theorem w_174 : (Jvm.Cond.laysFinal "ThinRow$Findings" "ThinRow$Findings" "about" "LThinRow$Net;") ∈ xWall := xw 268 (by decide +kernel) rfl
theorem w_177 : (Jvm.Cond.classLink "ThinRow" (44 : Nat) "ThinRow$SetSearch") ∈ xWall := xw 271 (by decide +kernel) rfl
theorem w_178 : (Jvm.Cond.instantiable "ThinRow$SetSearch" (5 : Nat)) ∈ xWall := xw 272 (by decide +kernel) rfl
theorem w_180 : (Jvm.Cond.instanceMethod ({ cls := "ThinRow$SetSearch", name := "<init>", desc := "()V" } : Jvm.MethodName)) ∈ xWall := xw 274 (by decide +kernel) rfl
theorem w_181 : (Jvm.Cond.code ({ cls := "ThinRow$SetSearch", name := "<init>", desc := "()V" } : Jvm.MethodName) prog_11_method_1_code (1 : Nat) (Option.none : Option Jvm.ClassFile.FieldType)) ∈ xWall := xw 275 (by decide +kernel) rfl
theorem w_182 : (Jvm.Cond.methodLink "ThinRow$SetSearch" (3 : Nat) ({ cls := "java/lang/Object", name := "<init>", desc := "()V" } : Jvm.MethodName)) ∈ xWall := xw 276 (by decide +kernel) rfl
theorem w_183 : (Jvm.Cond.fieldLink "ThinRow$SetSearch" (11 : Nat) "ThinRow$SetSearch" "steps" "[I") ∈ xWall := xw 277 (by decide +kernel) rfl
theorem w_184 : (Jvm.Cond.fieldLink "ThinRow$SetSearch" (15 : Nat) "ThinRow$SetSearch" "guards" "[I") ∈ xWall := xw 278 (by decide +kernel) rfl
theorem w_185 : (Jvm.Cond.fieldLink "ThinRow$SetSearch" (18 : Nat) "ThinRow$SetSearch" "around" "[I") ∈ xWall := xw 279 (by decide +kernel) rfl
theorem w_186 : (Jvm.Cond.fieldLink "ThinRow$SetSearch" (21 : Nat) "ThinRow$SetSearch" "rest" "[I") ∈ xWall := xw 280 (by decide +kernel) rfl
theorem w_187 : (Jvm.Cond.fieldLink "ThinRow$SetSearch" (24 : Nat) "ThinRow$SetSearch" "rows" "[I") ∈ xWall := xw 281 (by decide +kernel) rfl
theorem w_188 : (Jvm.Cond.laysFinal "ThinRow$SetSearch" "ThinRow$SetSearch" "steps" "[I") ∈ xWall := xw 282 (by decide +kernel) rfl
theorem w_190 : (Jvm.Cond.laysFinal "ThinRow$SetSearch" "ThinRow$SetSearch" "guards" "[I") ∈ xWall := xw 284 (by decide +kernel) rfl
theorem w_192 : (Jvm.Cond.laysFinal "ThinRow$SetSearch" "ThinRow$SetSearch" "around" "[I") ∈ xWall := xw 286 (by decide +kernel) rfl
theorem w_194 : (Jvm.Cond.laysFinal "ThinRow$SetSearch" "ThinRow$SetSearch" "rest" "[I") ∈ xWall := xw 288 (by decide +kernel) rfl
theorem w_196 : (Jvm.Cond.laysFinal "ThinRow$SetSearch" "ThinRow$SetSearch" "rows" "[I") ∈ xWall := xw 290 (by decide +kernel) rfl
theorem w_199 : (Jvm.Cond.classLink "ThinRow" (51 : Nat) "ThinRow$BandSearch") ∈ xWall := xw 293 (by decide +kernel) rfl
theorem w_200 : (Jvm.Cond.instantiable "ThinRow$BandSearch" (4 : Nat)) ∈ xWall := xw 294 (by decide +kernel) rfl
theorem w_202 : (Jvm.Cond.instanceMethod ({ cls := "ThinRow$BandSearch", name := "<init>", desc := "()V" } : Jvm.MethodName)) ∈ xWall := xw 296 (by decide +kernel) rfl
theorem w_203 : (Jvm.Cond.code ({ cls := "ThinRow$BandSearch", name := "<init>", desc := "()V" } : Jvm.MethodName) prog_2_method_1_code (1 : Nat) (Option.none : Option Jvm.ClassFile.FieldType)) ∈ xWall := xw 297 (by decide +kernel) rfl
theorem w_204 : (Jvm.Cond.methodLink "ThinRow$BandSearch" (5 : Nat) ({ cls := "java/lang/Object", name := "<init>", desc := "()V" } : Jvm.MethodName)) ∈ xWall := xw 298 (by decide +kernel) rfl
theorem w_205 : (Jvm.Cond.classLink "ThinRow$BandSearch" (11 : Nat) "ThinRow$Net") ∈ xWall := xw 299 (by decide +kernel) rfl
theorem w_207 : (Jvm.Cond.fieldLink "ThinRow$BandSearch" (14 : Nat) "ThinRow$BandSearch" "net" "LThinRow$Net;") ∈ xWall := xw 301 (by decide +kernel) rfl
theorem w_208 : (Jvm.Cond.fieldLink "ThinRow$BandSearch" (18 : Nat) "ThinRow$BandSearch" "places" "[I") ∈ xWall := xw 302 (by decide +kernel) rfl
theorem w_209 : (Jvm.Cond.fieldLink "ThinRow$BandSearch" (22 : Nat) "ThinRow$BandSearch" "keys" "[I") ∈ xWall := xw 303 (by decide +kernel) rfl
theorem w_210 : (Jvm.Cond.fieldLink "ThinRow$BandSearch" (25 : Nat) "ThinRow$BandSearch" "counts" "[I") ∈ xWall := xw 304 (by decide +kernel) rfl
theorem w_211 : (Jvm.Cond.laysFinal "ThinRow$BandSearch" "ThinRow$BandSearch" "net" "LThinRow$Net;") ∈ xWall := xw 305 (by decide +kernel) rfl
theorem w_213 : (Jvm.Cond.laysFinal "ThinRow$BandSearch" "ThinRow$BandSearch" "places" "[I") ∈ xWall := xw 307 (by decide +kernel) rfl
theorem w_215 : (Jvm.Cond.laysFinal "ThinRow$BandSearch" "ThinRow$BandSearch" "keys" "[I") ∈ xWall := xw 309 (by decide +kernel) rfl
theorem w_217 : (Jvm.Cond.laysFinal "ThinRow$BandSearch" "ThinRow$BandSearch" "counts" "[I") ∈ xWall := xw 311 (by decide +kernel) rfl
theorem w_220 : (Jvm.Cond.classLink "ThinRow" (58 : Nat) "ThinRow$History") ∈ xWall := xw 314 (by decide +kernel) rfl
theorem w_221 : (Jvm.Cond.instantiable "ThinRow$History" (4 : Nat)) ∈ xWall := xw 315 (by decide +kernel) rfl
theorem w_222 : (Jvm.Cond.methodLink "ThinRow" (60 : Nat) ({ cls := "ThinRow$History", name := "<init>", desc := "()V" } : Jvm.MethodName)) ∈ xWall := xw 316 (by decide +kernel) rfl
theorem w_223 : (Jvm.Cond.instanceMethod ({ cls := "ThinRow$History", name := "<init>", desc := "()V" } : Jvm.MethodName)) ∈ xWall := xw 317 (by decide +kernel) rfl
theorem w_224 : (Jvm.Cond.code ({ cls := "ThinRow$History", name := "<init>", desc := "()V" } : Jvm.MethodName) prog_6_method_1_code (2 : Nat) (Option.none : Option Jvm.ClassFile.FieldType)) ∈ xWall := xw 318 (by decide +kernel) rfl
theorem w_225 : (Jvm.Cond.methodLink "ThinRow$History" (3 : Nat) ({ cls := "java/lang/Object", name := "<init>", desc := "()V" } : Jvm.MethodName)) ∈ xWall := xw 319 (by decide +kernel) rfl
theorem w_226 : (Jvm.Cond.classLink "ThinRow$History" (15 : Nat) "ThinRow$Net") ∈ xWall := xw 320 (by decide +kernel) rfl
theorem w_231 : (Jvm.Cond.fieldLink "ThinRow$History" (9 : Nat) "ThinRow$History" "slots" "[I") ∈ xWall := xw 325 (by decide +kernel) rfl
theorem w_232 : (Jvm.Cond.fieldLink "ThinRow$History" (17 : Nat) "ThinRow$History" "nets" "[LThinRow$Net;") ∈ xWall := xw 326 (by decide +kernel) rfl
theorem w_233 : (Jvm.Cond.lays "ThinRow$History" "ThinRow$History" "held" "I") ∈ xWall := xw 327 (by decide +kernel) rfl
theorem w_235 : (Jvm.Cond.lays "ThinRow$History" "ThinRow$History" "next" "I") ∈ xWall := xw 329 (by decide +kernel) rfl
theorem w_237 : (Jvm.Cond.laysFinal "ThinRow$History" "ThinRow$History" "slots" "[I") ∈ xWall := xw 331 (by decide +kernel) rfl
theorem w_239 : (Jvm.Cond.laysFinal "ThinRow$History" "ThinRow$History" "nets" "[LThinRow$Net;") ∈ xWall := xw 333 (by decide +kernel) rfl
theorem w_242 : (Jvm.Cond.fieldLink "ThinRow" (14 : Nat) "ThinRow" "tape" "LThinRow$Bytes;") ∈ xWall := xw 336 (by decide +kernel) rfl
theorem w_243 : (Jvm.Cond.fieldLink "ThinRow" (18 : Nat) "ThinRow" "out" "LThinRow$Bytes;") ∈ xWall := xw 337 (by decide +kernel) rfl
theorem w_244 : (Jvm.Cond.fieldLink "ThinRow" (26 : Nat) "ThinRow" "reader" "LThinRow$Reader;") ∈ xWall := xw 338 (by decide +kernel) rfl
theorem w_245 : (Jvm.Cond.fieldLink "ThinRow" (32 : Nat) "ThinRow" "nets" "[LThinRow$Net;") ∈ xWall := xw 339 (by decide +kernel) rfl
theorem w_246 : (Jvm.Cond.fieldLink "ThinRow" (38 : Nat) "ThinRow" "findings" "[LThinRow$Findings;") ∈ xWall := xw 340 (by decide +kernel) rfl
theorem w_247 : (Jvm.Cond.fieldLink "ThinRow" (47 : Nat) "ThinRow" "setSearch" "LThinRow$SetSearch;") ∈ xWall := xw 341 (by decide +kernel) rfl
theorem w_248 : (Jvm.Cond.fieldLink "ThinRow" (54 : Nat) "ThinRow" "bandSearch" "LThinRow$BandSearch;") ∈ xWall := xw 342 (by decide +kernel) rfl
theorem w_249 : (Jvm.Cond.fieldLink "ThinRow" (61 : Nat) "ThinRow" "history" "LThinRow$History;") ∈ xWall := xw 343 (by decide +kernel) rfl
theorem w_250 : (Jvm.Cond.fieldLink "ThinRow" (65 : Nat) "ThinRow" "kept" "LThinRow$Net;") ∈ xWall := xw 344 (by decide +kernel) rfl
theorem w_251 : (Jvm.Cond.fieldLink "ThinRow" (69 : Nat) "ThinRow" "trial" "LThinRow$Net;") ∈ xWall := xw 345 (by decide +kernel) rfl
theorem w_252 : (Jvm.Cond.laysFinal "ThinRow" "ThinRow" "tape" "LThinRow$Bytes;") ∈ xWall := xw 346 (by decide +kernel) rfl
theorem w_254 : (Jvm.Cond.laysFinal "ThinRow" "ThinRow" "out" "LThinRow$Bytes;") ∈ xWall := xw 348 (by decide +kernel) rfl
theorem w_256 : (Jvm.Cond.laysFinal "ThinRow" "ThinRow" "reader" "LThinRow$Reader;") ∈ xWall := xw 350 (by decide +kernel) rfl
theorem w_258 : (Jvm.Cond.laysFinal "ThinRow" "ThinRow" "nets" "[LThinRow$Net;") ∈ xWall := xw 352 (by decide +kernel) rfl
theorem w_260 : (Jvm.Cond.laysFinal "ThinRow" "ThinRow" "findings" "[LThinRow$Findings;") ∈ xWall := xw 354 (by decide +kernel) rfl
theorem w_262 : (Jvm.Cond.laysFinal "ThinRow" "ThinRow" "setSearch" "LThinRow$SetSearch;") ∈ xWall := xw 356 (by decide +kernel) rfl
theorem w_264 : (Jvm.Cond.laysFinal "ThinRow" "ThinRow" "bandSearch" "LThinRow$BandSearch;") ∈ xWall := xw 358 (by decide +kernel) rfl
theorem w_266 : (Jvm.Cond.laysFinal "ThinRow" "ThinRow" "history" "LThinRow$History;") ∈ xWall := xw 360 (by decide +kernel) rfl
theorem w_268 : (Jvm.Cond.laysFinal "ThinRow" "ThinRow" "kept" "LThinRow$Net;") ∈ xWall := xw 362 (by decide +kernel) rfl
theorem w_270 : (Jvm.Cond.laysFinal "ThinRow" "ThinRow" "trial" "LThinRow$Net;") ∈ xWall := xw 364 (by decide +kernel) rfl
theorem w_1006 : (Jvm.Cond.code ({ cls := "ThinRowModel", name := "<init>", desc := "()V" } : Jvm.MethodName) prog_14_method_4_code (1 : Nat) (Option.none : Option Jvm.ClassFile.FieldType)) ∈ xWall := xw 1100 (by decide +kernel) rfl
theorem w_1007 : (Jvm.Cond.methodLink "ThinRowModel" (1 : Nat) ({ cls := "java/lang/Object", name := "<init>", desc := "()V" } : Jvm.MethodName)) ∈ xWall := xw 1101 (by decide +kernel) rfl
theorem w_1008 : (Jvm.Cond.fieldLink "ThinRowModel" (7 : Nat) "ThinRowModel" "state" "[I") ∈ xWall := xw 1102 (by decide +kernel) rfl
theorem w_1009 : (Jvm.Cond.fieldLink "ThinRowModel" (13 : Nat) "ThinRowModel" "was" "[I") ∈ xWall := xw 1103 (by decide +kernel) rfl
theorem w_1010 : (Jvm.Cond.fieldLink "ThinRowModel" (16 : Nat) "ThinRowModel" "kept" "[I") ∈ xWall := xw 1104 (by decide +kernel) rfl
theorem w_1012 : (Jvm.Cond.fieldLink "ThinRowModel" (19 : Nat) "ThinRowModel" "tape" "[I") ∈ xWall := xw 1106 (by decide +kernel) rfl
theorem w_1015 : (Jvm.Cond.fieldLink "ThinRowModel" (22 : Nat) "ThinRowModel" "faultPlace" "I") ∈ xWall := xw 1109 (by decide +kernel) rfl
theorem w_1021 : (Jvm.Cond.fieldLink "ThinRowModel" (26 : Nat) "ThinRowModel" "order" "[I") ∈ xWall := xw 1115 (by decide +kernel) rfl
theorem w_1022 : (Jvm.Cond.fieldLink "ThinRowModel" (29 : Nat) "ThinRowModel" "rest" "[I") ∈ xWall := xw 1116 (by decide +kernel) rfl
theorem w_1023 : (Jvm.Cond.fieldLink "ThinRowModel" (32 : Nat) "ThinRowModel" "ways" "[I") ∈ xWall := xw 1117 (by decide +kernel) rfl
theorem w_1024 : (Jvm.Cond.fieldLink "ThinRowModel" (35 : Nat) "ThinRowModel" "costs" "[I") ∈ xWall := xw 1118 (by decide +kernel) rfl
theorem w_1028 : (Jvm.Cond.fieldLink "ThinRowModel" (38 : Nat) "ThinRowModel" "bandBest" "[I") ∈ xWall := xw 1122 (by decide +kernel) rfl
theorem w_1029 : (Jvm.Cond.fieldLink "ThinRowModel" (41 : Nat) "ThinRowModel" "found" "[I") ∈ xWall := xw 1123 (by decide +kernel) rfl
theorem w_1030 : (Jvm.Cond.fieldLink "ThinRowModel" (44 : Nat) "ThinRowModel" "drawn" "[I") ∈ xWall := xw 1124 (by decide +kernel) rfl
theorem w_1031 : (Jvm.Cond.fieldLink "ThinRowModel" (47 : Nat) "ThinRowModel" "joined" "[I") ∈ xWall := xw 1125 (by decide +kernel) rfl
theorem w_1032 : (Jvm.Cond.fieldLink "ThinRowModel" (50 : Nat) "ThinRowModel" "out" "[I") ∈ xWall := xw 1126 (by decide +kernel) rfl
theorem w_1034 : (Jvm.Cond.laysFinal "ThinRowModel" "ThinRowModel" "state" "[I") ∈ xWall := xw 1128 (by decide +kernel) rfl
theorem w_1036 : (Jvm.Cond.laysFinal "ThinRowModel" "ThinRowModel" "was" "[I") ∈ xWall := xw 1130 (by decide +kernel) rfl
theorem w_1038 : (Jvm.Cond.laysFinal "ThinRowModel" "ThinRowModel" "kept" "[I") ∈ xWall := xw 1132 (by decide +kernel) rfl
theorem w_1040 : (Jvm.Cond.lays "ThinRowModel" "ThinRowModel" "keptMany" "I") ∈ xWall := xw 1134 (by decide +kernel) rfl
theorem w_1042 : (Jvm.Cond.laysFinal "ThinRowModel" "ThinRowModel" "tape" "[I") ∈ xWall := xw 1136 (by decide +kernel) rfl
theorem w_1044 : (Jvm.Cond.lays "ThinRowModel" "ThinRowModel" "taped" "I") ∈ xWall := xw 1138 (by decide +kernel) rfl
theorem w_1046 : (Jvm.Cond.lays "ThinRowModel" "ThinRowModel" "faultKind" "I") ∈ xWall := xw 1140 (by decide +kernel) rfl
theorem w_1048 : (Jvm.Cond.lays "ThinRowModel" "ThinRowModel" "faultPlace" "I") ∈ xWall := xw 1142 (by decide +kernel) rfl
theorem w_1050 : (Jvm.Cond.lays "ThinRowModel" "ThinRowModel" "spot" "I") ∈ xWall := xw 1144 (by decide +kernel) rfl
theorem w_1052 : (Jvm.Cond.lays "ThinRowModel" "ThinRowModel" "begin" "I") ∈ xWall := xw 1146 (by decide +kernel) rfl
theorem w_1054 : (Jvm.Cond.lays "ThinRowModel" "ThinRowModel" "token" "I") ∈ xWall := xw 1148 (by decide +kernel) rfl
theorem w_1056 : (Jvm.Cond.lays "ThinRowModel" "ThinRowModel" "value" "I") ∈ xWall := xw 1150 (by decide +kernel) rfl
theorem w_1058 : (Jvm.Cond.lays "ThinRowModel" "ThinRowModel" "bad" "Z") ∈ xWall := xw 1152 (by decide +kernel) rfl
theorem w_1060 : (Jvm.Cond.laysFinal "ThinRowModel" "ThinRowModel" "order" "[I") ∈ xWall := xw 1154 (by decide +kernel) rfl
theorem w_1062 : (Jvm.Cond.laysFinal "ThinRowModel" "ThinRowModel" "rest" "[I") ∈ xWall := xw 1156 (by decide +kernel) rfl
theorem w_1064 : (Jvm.Cond.laysFinal "ThinRowModel" "ThinRowModel" "ways" "[I") ∈ xWall := xw 1158 (by decide +kernel) rfl
theorem w_1066 : (Jvm.Cond.laysFinal "ThinRowModel" "ThinRowModel" "costs" "[I") ∈ xWall := xw 1160 (by decide +kernel) rfl
theorem w_1068 : (Jvm.Cond.lays "ThinRowModel" "ThinRowModel" "full" "I") ∈ xWall := xw 1162 (by decide +kernel) rfl
theorem w_1070 : (Jvm.Cond.lays "ThinRowModel" "ThinRowModel" "bandRows" "I") ∈ xWall := xw 1164 (by decide +kernel) rfl
theorem w_1072 : (Jvm.Cond.lays "ThinRowModel" "ThinRowModel" "bandFirsts" "I") ∈ xWall := xw 1166 (by decide +kernel) rfl
theorem w_1074 : (Jvm.Cond.laysFinal "ThinRowModel" "ThinRowModel" "bandBest" "[I") ∈ xWall := xw 1168 (by decide +kernel) rfl
theorem w_1076 : (Jvm.Cond.laysFinal "ThinRowModel" "ThinRowModel" "found" "[I") ∈ xWall := xw 1170 (by decide +kernel) rfl
theorem w_1078 : (Jvm.Cond.laysFinal "ThinRowModel" "ThinRowModel" "drawn" "[I") ∈ xWall := xw 1172 (by decide +kernel) rfl
theorem w_1080 : (Jvm.Cond.laysFinal "ThinRowModel" "ThinRowModel" "joined" "[I") ∈ xWall := xw 1174 (by decide +kernel) rfl
theorem w_1082 : (Jvm.Cond.laysFinal "ThinRowModel" "ThinRowModel" "out" "[I") ∈ xWall := xw 1176 (by decide +kernel) rfl
theorem w_1084 : (Jvm.Cond.lays "ThinRowModel" "ThinRowModel" "outs" "I") ∈ xWall := xw 1178 (by decide +kernel) rfl
theorem wn_57 : (Jvm.Cond.methodLinkNest "ThinRow$Reader" (11 : Nat) ({ cls := "ThinRow$Net", name := "<init>", desc := "()V" } : Jvm.MethodName) "ThinRow") ∈ xnest := List.mem_filter.mpr ⟨List.mem_of_getElem? (i := 151) (by decide +kernel), rfl⟩
theorem wn_128 : (Jvm.Cond.methodLinkNest "ThinRow" (42 : Nat) ({ cls := "ThinRow$Net", name := "<init>", desc := "()V" } : Jvm.MethodName) "ThinRow") ∈ xnest := List.mem_filter.mpr ⟨List.mem_of_getElem? (i := 222) (by decide +kernel), rfl⟩
theorem wn_137 : (Jvm.Cond.methodLinkNest "ThinRow$Findings" (19 : Nat) ({ cls := "ThinRow$Net", name := "<init>", desc := "()V" } : Jvm.MethodName) "ThinRow") ∈ xnest := List.mem_filter.mpr ⟨List.mem_of_getElem? (i := 231) (by decide +kernel), rfl⟩
theorem wn_139 : (Jvm.Cond.methodLinkNest "ThinRow$Findings" (24 : Nat) ({ cls := "ThinRow$Finding", name := "<init>", desc := "()V" } : Jvm.MethodName) "ThinRow") ∈ xnest := List.mem_filter.mpr ⟨List.mem_of_getElem? (i := 233) (by decide +kernel), rfl⟩
theorem wn_179 : (Jvm.Cond.methodLinkNest "ThinRow" (46 : Nat) ({ cls := "ThinRow$SetSearch", name := "<init>", desc := "()V" } : Jvm.MethodName) "ThinRow") ∈ xnest := List.mem_filter.mpr ⟨List.mem_of_getElem? (i := 273) (by decide +kernel), rfl⟩
theorem wn_201 : (Jvm.Cond.methodLinkNest "ThinRow" (53 : Nat) ({ cls := "ThinRow$BandSearch", name := "<init>", desc := "()V" } : Jvm.MethodName) "ThinRow") ∈ xnest := List.mem_filter.mpr ⟨List.mem_of_getElem? (i := 295) (by decide +kernel), rfl⟩
theorem wn_206 : (Jvm.Cond.methodLinkNest "ThinRow$BandSearch" (13 : Nat) ({ cls := "ThinRow$Net", name := "<init>", desc := "()V" } : Jvm.MethodName) "ThinRow") ∈ xnest := List.mem_filter.mpr ⟨List.mem_of_getElem? (i := 300) (by decide +kernel), rfl⟩
theorem wn_227 : (Jvm.Cond.methodLinkNest "ThinRow$History" (21 : Nat) ({ cls := "ThinRow$Net", name := "<init>", desc := "()V" } : Jvm.MethodName) "ThinRow") ∈ xnest := List.mem_filter.mpr ⟨List.mem_of_getElem? (i := 321) (by decide +kernel), rfl⟩
theorem w_obj : Cond.code objectInit ⟨#[0xb1]⟩ 1 none ∈ xWall := xw 123 (by decide +kernel) rfl
theorem w_mmax : Cond.code Lib.Math.max.name Lib.Math.max.code 2 (some .int) ∈ xWall := xw 132 (by decide +kernel) rfl
theorem pf_0 : parseFieldDescriptor "[I" = some (.array .int) := by decide +kernel
theorem pf_1 : parseFieldDescriptor "[B" = some (.array .byte) := by decide +kernel
theorem pf_2 : parseFieldDescriptor "LThinRow$Net;" = some (.object "ThinRow$Net") := by decide +kernel
theorem pf_3 : parseFieldDescriptor "I" = some .int := by decide +kernel
theorem pf_4 : parseFieldDescriptor "LThinRow$Bytes;" = some (.object "ThinRow$Bytes") := by decide +kernel
theorem pf_5 : parseFieldDescriptor "[LThinRow$Finding;" = some (.array (.object "ThinRow$Finding")) := by decide +kernel
theorem pf_6 : parseFieldDescriptor "[LThinRow$Net;" = some (.array (.object "ThinRow$Net")) := by decide +kernel
theorem pf_7 : parseFieldDescriptor "LThinRow$Reader;" = some (.object "ThinRow$Reader") := by decide +kernel
theorem pf_8 : parseFieldDescriptor "[LThinRow$Findings;" = some (.array (.object "ThinRow$Findings")) := by decide +kernel
theorem pf_9 : parseFieldDescriptor "LThinRow$SetSearch;" = some (.object "ThinRow$SetSearch") := by decide +kernel
theorem pf_10 : parseFieldDescriptor "LThinRow$BandSearch;" = some (.object "ThinRow$BandSearch") := by decide +kernel
theorem pf_11 : parseFieldDescriptor "LThinRow$History;" = some (.object "ThinRow$History") := by decide +kernel
theorem ok_0 : xok (RX0, TX0, 4) := ⟨xws (fun k hk => match k, hk with | 0, _ => w_211 | 1, _ => w_213 | 2, _ => w_215 | 3, _ => w_217 | k + 4, h => absurd h (Nat.not_lt.mpr (Nat.le_add_left 4 k))), ⟨tyX0, tyX0_ok⟩, nmX0⟩
theorem nf_0 : ∀ j, j < 4 → (parseFieldDescriptor (TX0 j).2.2.1).map defaultValue = some (vp_V [.null, .null, .null, .null] j) := by decide +kernel
theorem ok_1 : xok (RX1, TX1, 2) := ⟨xws (fun k hk => match k, hk with | 0, _ => w_43 | 1, _ => w_45 | k + 2, h => absurd h (Nat.not_lt.mpr (Nat.le_add_left 2 k))), ⟨tyX1, tyX1_ok⟩, nmX1⟩
theorem nf_1 : ∀ j, j < 2 → (parseFieldDescriptor (TX1 j).2.2.1).map defaultValue = some (vp_V [.null, .int 0] j) := by decide +kernel
theorem ok_2 : xok (RX2, TX2, 5) := ⟨xws (fun k hk => match k, hk with | 0, _ => w_158 | 1, _ => w_160 | 2, _ => w_162 | 3, _ => w_164 | 4, _ => w_166 | k + 5, h => absurd h (Nat.not_lt.mpr (Nat.le_add_left 5 k))), ⟨tyX2, tyX2_ok⟩, nmX2⟩
theorem nf_2 : ∀ j, j < 5 → (parseFieldDescriptor (TX2 j).2.2.1).map defaultValue = some (vp_V [.int 0, .int 0, .int 0, .int 0, .null] j) := by decide +kernel
theorem ok_3 : xok (RX3, TX3, 2) := ⟨xws (fun k hk => match k, hk with | 0, _ => w_172 | 1, _ => w_174 | k + 2, h => absurd h (Nat.not_lt.mpr (Nat.le_add_left 2 k))), ⟨tyX3, tyX3_ok⟩, nmX3⟩
theorem nf_3 : ∀ j, j < 2 → (parseFieldDescriptor (TX3 j).2.2.1).map defaultValue = some (vp_V [.null, .null] j) := by decide +kernel
theorem ok_4 : xok (RX4, TX4, 4) := ⟨xws (fun k hk => match k, hk with | 0, _ => w_233 | 1, _ => w_235 | 2, _ => w_237 | 3, _ => w_239 | k + 4, h => absurd h (Nat.not_lt.mpr (Nat.le_add_left 4 k))), ⟨tyX4, tyX4_ok⟩, nmX4⟩
theorem nf_4 : ∀ j, j < 4 → (parseFieldDescriptor (TX4 j).2.2.1).map defaultValue = some (vp_V [.int 0, .int 0, .null, .null] j) := by decide +kernel
theorem ok_5 : xok (RX5, TX5, 5) := ⟨xws (fun k hk => match k, hk with | 0, _ => w_84 | 1, _ => w_86 | 2, _ => w_88 | 3, _ => w_90 | 4, _ => w_92 | k + 5, h => absurd h (Nat.not_lt.mpr (Nat.le_add_left 5 k))), ⟨tyX5, tyX5_ok⟩, nmX5⟩
theorem nf_5 : ∀ j, j < 5 → (parseFieldDescriptor (TX5 j).2.2.1).map defaultValue = some (vp_V [.int 0, .int 0, .null, .null, .null] j) := by decide +kernel
theorem ok_6 : xok (RX7, TX7, 8) := ⟨xws (fun k hk => match k, hk with | 0, _ => w_107 | 1, _ => w_109 | 2, _ => w_111 | 3, _ => w_113 | 4, _ => w_115 | 5, _ => w_117 | 6, _ => w_119 | 7, _ => w_121 | k + 8, h => absurd h (Nat.not_lt.mpr (Nat.le_add_left 8 k))), ⟨tyX7, tyX7_ok⟩, nmX7⟩
theorem nf_6 : ∀ j, j < 8 → (parseFieldDescriptor (TX7 j).2.2.1).map defaultValue = some (vp_V [.null, .int 0, .int 0, .null, .int 0, .int 0, .int 0, .int 0] j) := by decide +kernel
theorem ok_7 : xok (RX9, TX9, 5) := ⟨xws (fun k hk => match k, hk with | 0, _ => w_188 | 1, _ => w_190 | 2, _ => w_192 | 3, _ => w_194 | 4, _ => w_196 | k + 5, h => absurd h (Nat.not_lt.mpr (Nat.le_add_left 5 k))), ⟨tyX9, tyX9_ok⟩, nmX9⟩
theorem nf_7 : ∀ j, j < 5 → (parseFieldDescriptor (TX9 j).2.2.1).map defaultValue = some (vp_V [.null, .null, .null, .null, .null] j) := by decide +kernel
theorem ok_8 : xok (RX11, TX11, 10) := ⟨xws (fun k hk => match k, hk with | 0, _ => w_252 | 1, _ => w_254 | 2, _ => w_256 | 3, _ => w_258 | 4, _ => w_260 | 5, _ => w_262 | 6, _ => w_264 | 7, _ => w_266 | 8, _ => w_268 | 9, _ => w_270 | k + 10, h => absurd h (Nat.not_lt.mpr (Nat.le_add_left 10 k))), ⟨tyX11, tyX11_ok⟩, nmX11⟩
theorem nf_8 : ∀ j, j < 10 → (parseFieldDescriptor (TX11 j).2.2.1).map defaultValue = some (vp_V [.null, .null, .null, .null, .null, .null, .null, .null, .null, .null] j) := by decide +kernel
theorem ok_9 : xok (RX12, TX12, 26) := ⟨xws (fun k hk => match k, hk with | 0, _ => w_1034 | 1, _ => w_1036 | 2, _ => w_1038 | 3, _ => w_1040 | 4, _ => w_1042 | 5, _ => w_1044 | 6, _ => w_1046 | 7, _ => w_1048 | 8, _ => w_1050 | 9, _ => w_1052 | 10, _ => w_1054 | 11, _ => w_1056 | 12, _ => w_1058 | 13, _ => w_1060 | 14, _ => w_1062 | 15, _ => w_1064 | 16, _ => w_1066 | 17, _ => w_1068 | 18, _ => w_1070 | 19, _ => w_1072 | 20, _ => w_1074 | 21, _ => w_1076 | 22, _ => w_1078 | 23, _ => w_1080 | 24, _ => w_1082 | 25, _ => w_1084 | k + 26, h => absurd h (Nat.not_lt.mpr (Nat.le_add_left 26 k))), ⟨tyX12, tyX12_ok⟩, nmX12⟩
theorem nf_9 : ∀ j, j < 26 → (parseFieldDescriptor (TX12 j).2.2.1).map defaultValue = some (vp_V [.null, .null, .null, .int 0, .null, .int 0, .int 0, .int 0, .int 0, .int 0, .int 0, .int 0, .int 0, .null, .null, .null, .null, .int 0, .int 0, .int 0, .null, .null, .null, .null, .null, .int 0] j) := by decide +kernel
theorem ao_2 : RX5 ∈ xaos := by decide
theorem ao_3 : RX3 ∈ xaos := by decide
theorem ao_4 : RX2 ∈ xaos := by decide
theorem st_0 : (RX7, 45, "net", 0, [110, 101, 116]) ∈ xstr := List.mem_of_getElem? (i := 0) rfl
theorem st_1 : (RX7, 96, "row", 1, [114, 111, 119]) ∈ xstr := List.mem_of_getElem? (i := 1) rfl
theorem st_4 : (RX12, 173, "net", 4, [110, 101, 116]) ∈ xstr := List.mem_of_getElem? (i := 2) rfl
theorem st_5 : (RX12, 182, "row", 5, [114, 111, 119]) ∈ xstr := List.mem_of_getElem? (i := 3) rfl
abbrev mX0_init : xM := (yX0_init, cX0_init, 1, none)
theorem mkX0_init : xMok mX0_init 0 := ⟨w_203, w_9, by decide +kernel, by decide +kernel, by decide +kernel⟩
abbrev mX11_init : xM := (yX11_init, cX11_init, 2, none)
theorem mkX11_init : xMok mX11_init 0 := ⟨w_26, w_1, by decide +kernel, by decide +kernel, by decide +kernel⟩
abbrev mX12_init : xM := (yX12_init, cX12_init, 1, none)
theorem mkX12_init : xMok mX12_init 0 := ⟨w_1006, w_11, by decide +kernel, by decide +kernel, by decide +kernel⟩
abbrev mX1_init : xM := (yX1_init, cX1_init, 2, none)
theorem mkX1_init : xMok mX1_init 1 := ⟨w_34, w_2, by decide +kernel, by decide +kernel, by decide +kernel⟩
abbrev mX2_init : xM := (yX2_init, cX2_init, 1, none)
theorem mkX2_init : xMok mX2_init 0 := ⟨w_141, w_7, by decide +kernel, by decide +kernel, by decide +kernel⟩
abbrev mX3_init : xM := (yX3_init, cX3_init, 2, none)
theorem mkX3_init : xMok mX3_init 0 := ⟨w_132, w_6, by decide +kernel, by decide +kernel, by decide +kernel⟩
abbrev mX4_init : xM := (yX4_init, cX4_init, 2, none)
theorem mkX4_init : xMok mX4_init 0 := ⟨w_224, w_10, by decide +kernel, by decide +kernel, by decide +kernel⟩
abbrev mX5_init : xM := (yX5_init, cX5_init, 1, none)
theorem mkX5_init : xMok mX5_init 0 := ⟨w_59, w_5, by decide +kernel, by decide +kernel, by decide +kernel⟩
abbrev mX7_init : xM := (yX7_init, cX7_init, 2, none)
theorem mkX7_init : xMok mX7_init 1 := ⟨w_53, w_4, by decide +kernel, by decide +kernel, by decide +kernel⟩
abbrev mX9_init : xM := (yX9_init, cX9_init, 1, none)
theorem mkX9_init : xMok mX9_init 0 := ⟨w_181, w_8, by decide +kernel, by decide +kernel, by decide +kernel⟩
abbrev xz (n : Nat) : va_E := .inl (0, n, .inl (fun _ => 0))
abbrev xzb (n : Nat) : va_E := .inl (1, n, .inl (fun _ => 0))
theorem xpg {P X : xMem} {L j : Nat} {c : va_E} (hP : P.length = L) (h : X[j]? = some c) : (P ++ X)[L + j]? = some c := by
  subst hP
  rw [List.getElem?_append_right (Nat.le_add_right _ _), Nat.add_sub_cancel_left]
  exact h
theorem xpg0 {P X : xMem} {L : Nat} {c : va_E} (hP : P.length = L) (h : X[0]? = some c) : (P ++ X)[L]? = some c := xpg (j := 0) hP h
theorem xps {P X : xMem} {L j : Nat} {c : va_E} (hP : P.length = L) : (P ++ X).set (L + j) c = P ++ X.set j c := by
  subst hP
  rw [List.set_append_right _ _ (Nat.le_add_right _ _), Nat.add_sub_cancel_left]
theorem xps0 {P X : xMem} {L : Nat} {c : va_E} (hP : P.length = L) : (P ++ X).set L c = P ++ X.set 0 c := xps (j := 0) hP
theorem xpl {P X : xMem} {L j : Nat} (hP : P.length = L) (h : X.length = j) : (P ++ X).length = L + j := by
  rw [List.length_append, hP, h]
