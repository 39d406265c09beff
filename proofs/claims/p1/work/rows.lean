section
-- ===== PART A: goes FIRST, ahead of the names: the tables' words, and 'selects' of the private methods out of them =====
/-- a private method of a class that the tables say can be made, by its rows of tables_1 -/
def lw_okq (q : MethodName × Nat) : Prop := (q.1.cls ≠ "java/lang/invoke/MethodHandle" ∧ q.1.cls ≠ "java/lang/invoke/VarHandle") ∧ Cond.instantiable q.1.cls q.2 ∈ tables_1 ∧ Cond.privateMethod q.1 ∈ tables_1 ∧ Cond.instanceMethod q.1 ∈ tables_1
theorem lw_p0 : lw_okq (⟨"ThinRow$Reader", "step", "()V"⟩, 8) := ⟨⟨by decide +kernel, by decide +kernel⟩, List.mem_of_getElem? (i := 50) (by decide +kernel), List.mem_of_getElem? (i := 306) (by decide +kernel), List.mem_of_getElem? (i := 307) (by decide +kernel)⟩
theorem lw_p1 : lw_okq (⟨"ThinRow$Reader", "readHead", "()Z"⟩, 8) := ⟨⟨by decide +kernel, by decide +kernel⟩, List.mem_of_getElem? (i := 50) (by decide +kernel), List.mem_of_getElem? (i := 320) (by decide +kernel), List.mem_of_getElem? (i := 321) (by decide +kernel)⟩
theorem lw_p2 : lw_okq (⟨"ThinRow$Reader", "isWord", "(Ljava/lang/String;)Z"⟩, 8) := ⟨⟨by decide +kernel, by decide +kernel⟩, List.mem_of_getElem? (i := 50) (by decide +kernel), List.mem_of_getElem? (i := 325) (by decide +kernel), List.mem_of_getElem? (i := 326) (by decide +kernel)⟩
theorem lw_p3 : lw_okq (⟨"ThinRow$Reader", "blame", "(I)Z"⟩, 8) := ⟨⟨by decide +kernel, by decide +kernel⟩, List.mem_of_getElem? (i := 50) (by decide +kernel), List.mem_of_getElem? (i := 377) (by decide +kernel), List.mem_of_getElem? (i := 378) (by decide +kernel)⟩
theorem lw_p4 : lw_okq (⟨"ThinRow$Reader", "isNumberFrom", "(II)Z"⟩, 8) := ⟨⟨by decide +kernel, by decide +kernel⟩, List.mem_of_getElem? (i := 50) (by decide +kernel), List.mem_of_getElem? (i := 381) (by decide +kernel), List.mem_of_getElem? (i := 382) (by decide +kernel)⟩
theorem lw_p5 : lw_okq (⟨"ThinRow$Reader", "readLines", "()Z"⟩, 8) := ⟨⟨by decide +kernel, by decide +kernel⟩, List.mem_of_getElem? (i := 50) (by decide +kernel), List.mem_of_getElem? (i := 395) (by decide +kernel), List.mem_of_getElem? (i := 396) (by decide +kernel)⟩
theorem lw_p6 : lw_okq (⟨"ThinRow$Reader", "isSign", "(C)Z"⟩, 8) := ⟨⟨by decide +kernel, by decide +kernel⟩, List.mem_of_getElem? (i := 50) (by decide +kernel), List.mem_of_getElem? (i := 399) (by decide +kernel), List.mem_of_getElem? (i := 400) (by decide +kernel)⟩
theorem lw_p7 : lw_okq (⟨"ThinRow$Reader", "readLine", "()Z"⟩, 8) := ⟨⟨by decide +kernel, by decide +kernel⟩, List.mem_of_getElem? (i := 50) (by decide +kernel), List.mem_of_getElem? (i := 403) (by decide +kernel), List.mem_of_getElem? (i := 404) (by decide +kernel)⟩
theorem lw_p8 : lw_okq (⟨"ThinRow$Reader", "isPoint", "()Z"⟩, 8) := ⟨⟨by decide +kernel, by decide +kernel⟩, List.mem_of_getElem? (i := 50) (by decide +kernel), List.mem_of_getElem? (i := 407) (by decide +kernel), List.mem_of_getElem? (i := 408) (by decide +kernel)⟩
theorem lw_p9 : lw_okq (⟨"ThinRow$Reader", "takeSign", "(C)Z"⟩, 8) := ⟨⟨by decide +kernel, by decide +kernel⟩, List.mem_of_getElem? (i := 50) (by decide +kernel), List.mem_of_getElem? (i := 411) (by decide +kernel), List.mem_of_getElem? (i := 412) (by decide +kernel)⟩
theorem lw_p10 : lw_okq (⟨"ThinRow$Reader", "readWeight", "(II)Z"⟩, 8) := ⟨⟨by decide +kernel, by decide +kernel⟩, List.mem_of_getElem? (i := 50) (by decide +kernel), List.mem_of_getElem? (i := 419) (by decide +kernel), List.mem_of_getElem? (i := 420) (by decide +kernel)⟩
theorem lw_p11 : lw_okq (⟨"ThinRow$Reader", "readRow", "()Z"⟩, 8) := ⟨⟨by decide +kernel, by decide +kernel⟩, List.mem_of_getElem? (i := 50) (by decide +kernel), List.mem_of_getElem? (i := 428) (by decide +kernel), List.mem_of_getElem? (i := 429) (by decide +kernel)⟩
theorem lw_p12 : lw_okq (⟨"ThinRow$Reader", "readDigits", "()Z"⟩, 8) := ⟨⟨by decide +kernel, by decide +kernel⟩, List.mem_of_getElem? (i := 50) (by decide +kernel), List.mem_of_getElem? (i := 433) (by decide +kernel), List.mem_of_getElem? (i := 434) (by decide +kernel)⟩
theorem lw_p13 : lw_okq (⟨"ThinRow", "noteAct", "(I)V"⟩, 10) := ⟨⟨by decide +kernel, by decide +kernel⟩, List.mem_of_getElem? (i := 23) (by decide +kernel), List.mem_of_getElem? (i := 452) (by decide +kernel), List.mem_of_getElem? (i := 453) (by decide +kernel)⟩
theorem lw_p14 : lw_okq (⟨"ThinRow", "filledSlots", "()I"⟩, 10) := ⟨⟨by decide +kernel, by decide +kernel⟩, List.mem_of_getElem? (i := 23) (by decide +kernel), List.mem_of_getElem? (i := 482) (by decide +kernel), List.mem_of_getElem? (i := 483) (by decide +kernel)⟩
theorem lw_p15 : lw_okq (⟨"ThinRow", "netIn", "(I)LThinRow$Net;"⟩, 10) := ⟨⟨by decide +kernel, by decide +kernel⟩, List.mem_of_getElem? (i := 23) (by decide +kernel), List.mem_of_getElem? (i := 490) (by decide +kernel), List.mem_of_getElem? (i := 491) (by decide +kernel)⟩
def lw_privs_1 : List (MethodName × Nat) := [(⟨"ThinRow$Reader", "step", "()V"⟩, 8), (⟨"ThinRow$Reader", "readHead", "()Z"⟩, 8), (⟨"ThinRow$Reader", "isWord", "(Ljava/lang/String;)Z"⟩, 8), (⟨"ThinRow$Reader", "blame", "(I)Z"⟩, 8), (⟨"ThinRow$Reader", "isNumberFrom", "(II)Z"⟩, 8), (⟨"ThinRow$Reader", "readLines", "()Z"⟩, 8), (⟨"ThinRow$Reader", "isSign", "(C)Z"⟩, 8), (⟨"ThinRow$Reader", "readLine", "()Z"⟩, 8), (⟨"ThinRow$Reader", "isPoint", "()Z"⟩, 8), (⟨"ThinRow$Reader", "takeSign", "(C)Z"⟩, 8), (⟨"ThinRow$Reader", "readWeight", "(II)Z"⟩, 8), (⟨"ThinRow$Reader", "readRow", "()Z"⟩, 8), (⟨"ThinRow$Reader", "readDigits", "()Z"⟩, 8), (⟨"ThinRow", "noteAct", "(I)V"⟩, 10), (⟨"ThinRow", "filledSlots", "()I"⟩, 10), (⟨"ThinRow", "netIn", "(I)LThinRow$Net;"⟩, 10)]
theorem lw_r1 : ∀ q ∈ lw_privs_1, lw_okq q := List.forall_mem_cons.mpr ⟨lw_p0, List.forall_mem_cons.mpr ⟨lw_p1, List.forall_mem_cons.mpr ⟨lw_p2, List.forall_mem_cons.mpr ⟨lw_p3, List.forall_mem_cons.mpr ⟨lw_p4, List.forall_mem_cons.mpr ⟨lw_p5, List.forall_mem_cons.mpr ⟨lw_p6, List.forall_mem_cons.mpr ⟨lw_p7, List.forall_mem_cons.mpr ⟨lw_p8, List.forall_mem_cons.mpr ⟨lw_p9, List.forall_mem_cons.mpr ⟨lw_p10, List.forall_mem_cons.mpr ⟨lw_p11, List.forall_mem_cons.mpr ⟨lw_p12, List.forall_mem_cons.mpr ⟨lw_p13, List.forall_mem_cons.mpr ⟨lw_p14, List.forall_mem_cons.mpr ⟨lw_p15, fun _ h => absurd h List.not_mem_nil⟩⟩⟩⟩⟩⟩⟩⟩⟩⟩⟩⟩⟩⟩⟩⟩
theorem lw_p16 : lw_okq (⟨"ThinRow", "findingOf", "(II)LThinRow$Finding;"⟩, 10) := ⟨⟨by decide +kernel, by decide +kernel⟩, List.mem_of_getElem? (i := 23) (by decide +kernel), List.mem_of_getElem? (i := 658) (by decide +kernel), List.mem_of_getElem? (i := 659) (by decide +kernel)⟩
theorem lw_p17 : lw_okq (⟨"ThinRow$BandSearch", "turnTo", "(LThinRow$Net;)V"⟩, 4) := ⟨⟨by decide +kernel, by decide +kernel⟩, List.mem_of_getElem? (i := 200) (by decide +kernel), List.mem_of_getElem? (i := 672) (by decide +kernel), List.mem_of_getElem? (i := 673) (by decide +kernel)⟩
theorem lw_p18 : lw_okq (⟨"ThinRow$BandSearch", "leastLimit", "()I"⟩, 4) := ⟨⟨by decide +kernel, by decide +kernel⟩, List.mem_of_getElem? (i := 200) (by decide +kernel), List.mem_of_getElem? (i := 679) (by decide +kernel), List.mem_of_getElem? (i := 680) (by decide +kernel)⟩
theorem lw_p19 : lw_okq (⟨"ThinRow$BandSearch", "rowsFrom", "(III)I"⟩, 4) := ⟨⟨by decide +kernel, by decide +kernel⟩, List.mem_of_getElem? (i := 200) (by decide +kernel), List.mem_of_getElem? (i := 683) (by decide +kernel), List.mem_of_getElem? (i := 684) (by decide +kernel)⟩
theorem lw_p20 : lw_okq (⟨"ThinRow$BandSearch", "waiting", "(III)I"⟩, 4) := ⟨⟨by decide +kernel, by decide +kernel⟩, List.mem_of_getElem? (i := 200) (by decide +kernel), List.mem_of_getElem? (i := 687) (by decide +kernel), List.mem_of_getElem? (i := 688) (by decide +kernel)⟩
theorem lw_p21 : lw_okq (⟨"ThinRow$BandSearch", "leadersFrom", "(III)I"⟩, 4) := ⟨⟨by decide +kernel, by decide +kernel⟩, List.mem_of_getElem? (i := 200) (by decide +kernel), List.mem_of_getElem? (i := 695) (by decide +kernel), List.mem_of_getElem? (i := 696) (by decide +kernel)⟩
theorem lw_p22 : lw_okq (⟨"ThinRow$SetSearch", "fillSteps", "(LThinRow$Net;I[I)V"⟩, 5) := ⟨⟨by decide +kernel, by decide +kernel⟩, List.mem_of_getElem? (i := 178) (by decide +kernel), List.mem_of_getElem? (i := 706) (by decide +kernel), List.mem_of_getElem? (i := 707) (by decide +kernel)⟩
theorem lw_p23 : lw_okq (⟨"ThinRow$SetSearch", "fillTakings", "(LThinRow$Net;I[I)V"⟩, 5) := ⟨⟨by decide +kernel, by decide +kernel⟩, List.mem_of_getElem? (i := 178) (by decide +kernel), List.mem_of_getElem? (i := 711) (by decide +kernel), List.mem_of_getElem? (i := 712) (by decide +kernel)⟩
theorem lw_p24 : lw_okq (⟨"ThinRow$SetSearch", "fillAround", "(LThinRow$Net;)V"⟩, 5) := ⟨⟨by decide +kernel, by decide +kernel⟩, List.mem_of_getElem? (i := 178) (by decide +kernel), List.mem_of_getElem? (i := 715) (by decide +kernel), List.mem_of_getElem? (i := 716) (by decide +kernel)⟩
theorem lw_p25 : lw_okq (⟨"ThinRow$SetSearch", "newLines", "(LThinRow$Net;II)I"⟩, 5) := ⟨⟨by decide +kernel, by decide +kernel⟩, List.mem_of_getElem? (i := 178) (by decide +kernel), List.mem_of_getElem? (i := 722) (by decide +kernel), List.mem_of_getElem? (i := 723) (by decide +kernel)⟩
theorem lw_p26 : lw_okq (⟨"ThinRow$SetSearch", "fillRest", "(LThinRow$Net;I[II)V"⟩, 5) := ⟨⟨by decide +kernel, by decide +kernel⟩, List.mem_of_getElem? (i := 178) (by decide +kernel), List.mem_of_getElem? (i := 729) (by decide +kernel), List.mem_of_getElem? (i := 730) (by decide +kernel)⟩
theorem lw_p27 : lw_okq (⟨"ThinRow$SetSearch", "countRows", "(LThinRow$Net;II)V"⟩, 5) := ⟨⟨by decide +kernel, by decide +kernel⟩, List.mem_of_getElem? (i := 178) (by decide +kernel), List.mem_of_getElem? (i := 735) (by decide +kernel), List.mem_of_getElem? (i := 736) (by decide +kernel)⟩
theorem lw_p28 : lw_okq (⟨"ThinRow$SetSearch", "fits", "(IIII)Z"⟩, 5) := ⟨⟨by decide +kernel, by decide +kernel⟩, List.mem_of_getElem? (i := 178) (by decide +kernel), List.mem_of_getElem? (i := 739) (by decide +kernel), List.mem_of_getElem? (i := 740) (by decide +kernel)⟩
theorem lw_p29 : lw_okq (⟨"ThinRow$SetSearch", "leadersFrom", "(LThinRow$Net;III)I"⟩, 5) := ⟨⟨by decide +kernel, by decide +kernel⟩, List.mem_of_getElem? (i := 178) (by decide +kernel), List.mem_of_getElem? (i := 743) (by decide +kernel), List.mem_of_getElem? (i := 744) (by decide +kernel)⟩
theorem lw_p30 : lw_okq (⟨"ThinRow$Net", "takeFromRow", "(I)V"⟩, 5) := ⟨⟨by decide +kernel, by decide +kernel⟩, List.mem_of_getElem? (i := 56) (by decide +kernel), List.mem_of_getElem? (i := 801) (by decide +kernel), List.mem_of_getElem? (i := 802) (by decide +kernel)⟩
theorem lw_p31 : lw_okq (⟨"ThinRow", "tellNet", "(LThinRow$Net;)V"⟩, 10) := ⟨⟨by decide +kernel, by decide +kernel⟩, List.mem_of_getElem? (i := 23) (by decide +kernel), List.mem_of_getElem? (i := 969) (by decide +kernel), List.mem_of_getElem? (i := 970) (by decide +kernel)⟩
def lw_privs_2 : List (MethodName × Nat) := [(⟨"ThinRow", "findingOf", "(II)LThinRow$Finding;"⟩, 10), (⟨"ThinRow$BandSearch", "turnTo", "(LThinRow$Net;)V"⟩, 4), (⟨"ThinRow$BandSearch", "leastLimit", "()I"⟩, 4), (⟨"ThinRow$BandSearch", "rowsFrom", "(III)I"⟩, 4), (⟨"ThinRow$BandSearch", "waiting", "(III)I"⟩, 4), (⟨"ThinRow$BandSearch", "leadersFrom", "(III)I"⟩, 4), (⟨"ThinRow$SetSearch", "fillSteps", "(LThinRow$Net;I[I)V"⟩, 5), (⟨"ThinRow$SetSearch", "fillTakings", "(LThinRow$Net;I[I)V"⟩, 5), (⟨"ThinRow$SetSearch", "fillAround", "(LThinRow$Net;)V"⟩, 5), (⟨"ThinRow$SetSearch", "newLines", "(LThinRow$Net;II)I"⟩, 5), (⟨"ThinRow$SetSearch", "fillRest", "(LThinRow$Net;I[II)V"⟩, 5), (⟨"ThinRow$SetSearch", "countRows", "(LThinRow$Net;II)V"⟩, 5), (⟨"ThinRow$SetSearch", "fits", "(IIII)Z"⟩, 5), (⟨"ThinRow$SetSearch", "leadersFrom", "(LThinRow$Net;III)I"⟩, 5), (⟨"ThinRow$Net", "takeFromRow", "(I)V"⟩, 5), (⟨"ThinRow", "tellNet", "(LThinRow$Net;)V"⟩, 10)]
theorem lw_r2 : ∀ q ∈ lw_privs_2, lw_okq q := List.forall_mem_cons.mpr ⟨lw_p16, List.forall_mem_cons.mpr ⟨lw_p17, List.forall_mem_cons.mpr ⟨lw_p18, List.forall_mem_cons.mpr ⟨lw_p19, List.forall_mem_cons.mpr ⟨lw_p20, List.forall_mem_cons.mpr ⟨lw_p21, List.forall_mem_cons.mpr ⟨lw_p22, List.forall_mem_cons.mpr ⟨lw_p23, List.forall_mem_cons.mpr ⟨lw_p24, List.forall_mem_cons.mpr ⟨lw_p25, List.forall_mem_cons.mpr ⟨lw_p26, List.forall_mem_cons.mpr ⟨lw_p27, List.forall_mem_cons.mpr ⟨lw_p28, List.forall_mem_cons.mpr ⟨lw_p29, List.forall_mem_cons.mpr ⟨lw_p30, List.forall_mem_cons.mpr ⟨lw_p31, fun _ h => absurd h List.not_mem_nil⟩⟩⟩⟩⟩⟩⟩⟩⟩⟩⟩⟩⟩⟩⟩⟩
theorem lw_p32 : lw_okq (⟨"ThinRow", "tellLine", "(III)V"⟩, 10) := ⟨⟨by decide +kernel, by decide +kernel⟩, List.mem_of_getElem? (i := 23) (by decide +kernel), List.mem_of_getElem? (i := 985) (by decide +kernel), List.mem_of_getElem? (i := 986) (by decide +kernel)⟩
theorem lw_p33 : lw_okq (⟨"ThinRow", "tellRow", "(LThinRow$Net;)V"⟩, 10) := ⟨⟨by decide +kernel, by decide +kernel⟩, List.mem_of_getElem? (i := 23) (by decide +kernel), List.mem_of_getElem? (i := 989) (by decide +kernel), List.mem_of_getElem? (i := 990) (by decide +kernel)⟩
theorem lw_p34 : lw_okq (⟨"ThinRow", "tellCuts", "(LThinRow$Net;)V"⟩, 10) := ⟨⟨by decide +kernel, by decide +kernel⟩, List.mem_of_getElem? (i := 23) (by decide +kernel), List.mem_of_getElem? (i := 994) (by decide +kernel), List.mem_of_getElem? (i := 995) (by decide +kernel)⟩
theorem lw_p35 : lw_okq (⟨"ThinRowModel", "isNet", "(I)Z"⟩, 26) := ⟨⟨by decide +kernel, by decide +kernel⟩, List.mem_of_getElem? (i := 1003) (by decide +kernel), List.mem_of_getElem? (i := 1103) (by decide +kernel), List.mem_of_getElem? (i := 1104) (by decide +kernel)⟩
theorem lw_p36 : lw_okq (⟨"ThinRowModel", "points", "(I)I"⟩, 26) := ⟨⟨by decide +kernel, by decide +kernel⟩, List.mem_of_getElem? (i := 1003) (by decide +kernel), List.mem_of_getElem? (i := 1107) (by decide +kernel), List.mem_of_getElem? (i := 1108) (by decide +kernel)⟩
theorem lw_p37 : lw_okq (⟨"ThinRowModel", "remembers", "()V"⟩, 26) := ⟨⟨by decide +kernel, by decide +kernel⟩, List.mem_of_getElem? (i := 1003) (by decide +kernel), List.mem_of_getElem? (i := 1111) (by decide +kernel), List.mem_of_getElem? (i := 1112) (by decide +kernel)⟩
theorem lw_p38 : lw_okq (⟨"ThinRowModel", "empties", "(I)V"⟩, 26) := ⟨⟨by decide +kernel, by decide +kernel⟩, List.mem_of_getElem? (i := 1003) (by decide +kernel), List.mem_of_getElem? (i := 1115) (by decide +kernel), List.mem_of_getElem? (i := 1116) (by decide +kernel)⟩
theorem lw_p39 : lw_okq (⟨"ThinRowModel", "keeps", "(I)I"⟩, 26) := ⟨⟨by decide +kernel, by decide +kernel⟩, List.mem_of_getElem? (i := 1003) (by decide +kernel), List.mem_of_getElem? (i := 1119) (by decide +kernel), List.mem_of_getElem? (i := 1120) (by decide +kernel)⟩
theorem lw_p40 : lw_okq (⟨"ThinRowModel", "next", "()V"⟩, 26) := ⟨⟨by decide +kernel, by decide +kernel⟩, List.mem_of_getElem? (i := 1003) (by decide +kernel), List.mem_of_getElem? (i := 1135) (by decide +kernel), List.mem_of_getElem? (i := 1136) (by decide +kernel)⟩
theorem lw_p41 : lw_okq (⟨"ThinRowModel", "isAt", "(II)Z"⟩, 26) := ⟨⟨by decide +kernel, by decide +kernel⟩, List.mem_of_getElem? (i := 1003) (by decide +kernel), List.mem_of_getElem? (i := 1139) (by decide +kernel), List.mem_of_getElem? (i := 1140) (by decide +kernel)⟩
theorem lw_p42 : lw_okq (⟨"ThinRowModel", "readsNet", "(I)V"⟩, 26) := ⟨⟨by decide +kernel, by decide +kernel⟩, List.mem_of_getElem? (i := 1003) (by decide +kernel), List.mem_of_getElem? (i := 1144) (by decide +kernel), List.mem_of_getElem? (i := 1145) (by decide +kernel)⟩
theorem lw_p43 : lw_okq (⟨"ThinRowModel", "isWord", "(Ljava/lang/String;)Z"⟩, 26) := ⟨⟨by decide +kernel, by decide +kernel⟩, List.mem_of_getElem? (i := 1003) (by decide +kernel), List.mem_of_getElem? (i := 1149) (by decide +kernel), List.mem_of_getElem? (i := 1150) (by decide +kernel)⟩
theorem lw_p44 : lw_okq (⟨"ThinRowModel", "must", "(Z)V"⟩, 26) := ⟨⟨by decide +kernel, by decide +kernel⟩, List.mem_of_getElem? (i := 1003) (by decide +kernel), List.mem_of_getElem? (i := 1155) (by decide +kernel), List.mem_of_getElem? (i := 1156) (by decide +kernel)⟩
theorem lw_p45 : lw_okq (⟨"ThinRowModel", "faults", "(I)V"⟩, 26) := ⟨⟨by decide +kernel, by decide +kernel⟩, List.mem_of_getElem? (i := 1003) (by decide +kernel), List.mem_of_getElem? (i := 1159) (by decide +kernel), List.mem_of_getElem? (i := 1160) (by decide +kernel)⟩
theorem lw_p46 : lw_okq (⟨"ThinRowModel", "passes", "()V"⟩, 26) := ⟨⟨by decide +kernel, by decide +kernel⟩, List.mem_of_getElem? (i := 1003) (by decide +kernel), List.mem_of_getElem? (i := 1163) (by decide +kernel), List.mem_of_getElem? (i := 1164) (by decide +kernel)⟩
theorem lw_p47 : lw_okq (⟨"ThinRowModel", "here", "(II)I"⟩, 26) := ⟨⟨by decide +kernel, by decide +kernel⟩, List.mem_of_getElem? (i := 1003) (by decide +kernel), List.mem_of_getElem? (i := 1167) (by decide +kernel), List.mem_of_getElem? (i := 1168) (by decide +kernel)⟩
def lw_privs_3 : List (MethodName × Nat) := [(⟨"ThinRow", "tellLine", "(III)V"⟩, 10), (⟨"ThinRow", "tellRow", "(LThinRow$Net;)V"⟩, 10), (⟨"ThinRow", "tellCuts", "(LThinRow$Net;)V"⟩, 10), (⟨"ThinRowModel", "isNet", "(I)Z"⟩, 26), (⟨"ThinRowModel", "points", "(I)I"⟩, 26), (⟨"ThinRowModel", "remembers", "()V"⟩, 26), (⟨"ThinRowModel", "empties", "(I)V"⟩, 26), (⟨"ThinRowModel", "keeps", "(I)I"⟩, 26), (⟨"ThinRowModel", "next", "()V"⟩, 26), (⟨"ThinRowModel", "isAt", "(II)Z"⟩, 26), (⟨"ThinRowModel", "readsNet", "(I)V"⟩, 26), (⟨"ThinRowModel", "isWord", "(Ljava/lang/String;)Z"⟩, 26), (⟨"ThinRowModel", "must", "(Z)V"⟩, 26), (⟨"ThinRowModel", "faults", "(I)V"⟩, 26), (⟨"ThinRowModel", "passes", "()V"⟩, 26), (⟨"ThinRowModel", "here", "(II)I"⟩, 26)]
theorem lw_r3 : ∀ q ∈ lw_privs_3, lw_okq q := List.forall_mem_cons.mpr ⟨lw_p32, List.forall_mem_cons.mpr ⟨lw_p33, List.forall_mem_cons.mpr ⟨lw_p34, List.forall_mem_cons.mpr ⟨lw_p35, List.forall_mem_cons.mpr ⟨lw_p36, List.forall_mem_cons.mpr ⟨lw_p37, List.forall_mem_cons.mpr ⟨lw_p38, List.forall_mem_cons.mpr ⟨lw_p39, List.forall_mem_cons.mpr ⟨lw_p40, List.forall_mem_cons.mpr ⟨lw_p41, List.forall_mem_cons.mpr ⟨lw_p42, List.forall_mem_cons.mpr ⟨lw_p43, List.forall_mem_cons.mpr ⟨lw_p44, List.forall_mem_cons.mpr ⟨lw_p45, List.forall_mem_cons.mpr ⟨lw_p46, List.forall_mem_cons.mpr ⟨lw_p47, fun _ h => absurd h List.not_mem_nil⟩⟩⟩⟩⟩⟩⟩⟩⟩⟩⟩⟩⟩⟩⟩⟩
theorem lw_p48 : lw_okq (⟨"ThinRowModel", "puts", "(III)V"⟩, 26) := ⟨⟨by decide +kernel, by decide +kernel⟩, List.mem_of_getElem? (i := 1003) (by decide +kernel), List.mem_of_getElem? (i := 1171) (by decide +kernel), List.mem_of_getElem? (i := 1172) (by decide +kernel)⟩
theorem lw_p49 : lw_okq (⟨"ThinRowModel", "isSign", "(I)Z"⟩, 26) := ⟨⟨by decide +kernel, by decide +kernel⟩, List.mem_of_getElem? (i := 1003) (by decide +kernel), List.mem_of_getElem? (i := 1175) (by decide +kernel), List.mem_of_getElem? (i := 1176) (by decide +kernel)⟩
theorem lw_p50 : lw_okq (⟨"ThinRowModel", "readsLine", "(I)V"⟩, 26) := ⟨⟨by decide +kernel, by decide +kernel⟩, List.mem_of_getElem? (i := 1003) (by decide +kernel), List.mem_of_getElem? (i := 1179) (by decide +kernel), List.mem_of_getElem? (i := 1180) (by decide +kernel)⟩
theorem lw_p51 : lw_okq (⟨"ThinRowModel", "lines", "(I)I"⟩, 26) := ⟨⟨by decide +kernel, by decide +kernel⟩, List.mem_of_getElem? (i := 1003) (by decide +kernel), List.mem_of_getElem? (i := 1183) (by decide +kernel), List.mem_of_getElem? (i := 1184) (by decide +kernel)⟩
theorem lw_p52 : lw_okq (⟨"ThinRowModel", "nearOf", "(II)I"⟩, 26) := ⟨⟨by decide +kernel, by decide +kernel⟩, List.mem_of_getElem? (i := 1003) (by decide +kernel), List.mem_of_getElem? (i := 1187) (by decide +kernel), List.mem_of_getElem? (i := 1188) (by decide +kernel)⟩
theorem lw_p53 : lw_okq (⟨"ThinRowModel", "weight", "(III)I"⟩, 26) := ⟨⟨by decide +kernel, by decide +kernel⟩, List.mem_of_getElem? (i := 1003) (by decide +kernel), List.mem_of_getElem? (i := 1191) (by decide +kernel), List.mem_of_getElem? (i := 1192) (by decide +kernel)⟩
theorem lw_p54 : lw_okq (⟨"ThinRowModel", "weighs", "(IIII)V"⟩, 26) := ⟨⟨by decide +kernel, by decide +kernel⟩, List.mem_of_getElem? (i := 1003) (by decide +kernel), List.mem_of_getElem? (i := 1198) (by decide +kernel), List.mem_of_getElem? (i := 1199) (by decide +kernel)⟩
theorem lw_p55 : lw_okq (⟨"ThinRowModel", "readsRow", "(I)V"⟩, 26) := ⟨⟨by decide +kernel, by decide +kernel⟩, List.mem_of_getElem? (i := 1003) (by decide +kernel), List.mem_of_getElem? (i := 1203) (by decide +kernel), List.mem_of_getElem? (i := 1204) (by decide +kernel)⟩
theorem lw_p56 : lw_okq (⟨"ThinRowModel", "done", "(I)I"⟩, 26) := ⟨⟨by decide +kernel, by decide +kernel⟩, List.mem_of_getElem? (i := 1003) (by decide +kernel), List.mem_of_getElem? (i := 1210) (by decide +kernel), List.mem_of_getElem? (i := 1211) (by decide +kernel)⟩
theorem lw_p57 : lw_okq (⟨"ThinRowModel", "weightOf", "(II)I"⟩, 26) := ⟨⟨by decide +kernel, by decide +kernel⟩, List.mem_of_getElem? (i := 1003) (by decide +kernel), List.mem_of_getElem? (i := 1227) (by decide +kernel), List.mem_of_getElem? (i := 1228) (by decide +kernel)⟩
theorem lw_p58 : lw_okq (⟨"ThinRowModel", "degree", "(I)I"⟩, 26) := ⟨⟨by decide +kernel, by decide +kernel⟩, List.mem_of_getElem? (i := 1003) (by decide +kernel), List.mem_of_getElem? (i := 1231) (by decide +kernel), List.mem_of_getElem? (i := 1232) (by decide +kernel)⟩
theorem lw_p59 : lw_okq (⟨"ThinRowModel", "parts", "(I)I"⟩, 26) := ⟨⟨by decide +kernel, by decide +kernel⟩, List.mem_of_getElem? (i := 1003) (by decide +kernel), List.mem_of_getElem? (i := 1236) (by decide +kernel), List.mem_of_getElem? (i := 1237) (by decide +kernel)⟩
theorem lw_p60 : lw_okq (⟨"ThinRowModel", "farOf", "(III)I"⟩, 26) := ⟨⟨by decide +kernel, by decide +kernel⟩, List.mem_of_getElem? (i := 1003) (by decide +kernel), List.mem_of_getElem? (i := 1240) (by decide +kernel), List.mem_of_getElem? (i := 1241) (by decide +kernel)⟩
theorem lw_p61 : lw_okq (⟨"ThinRowModel", "diameter", "(I)I"⟩, 26) := ⟨⟨by decide +kernel, by decide +kernel⟩, List.mem_of_getElem? (i := 1003) (by decide +kernel), List.mem_of_getElem? (i := 1244) (by decide +kernel), List.mem_of_getElem? (i := 1245) (by decide +kernel)⟩
theorem lw_p62 : lw_okq (⟨"ThinRowModel", "core", "(I)I"⟩, 26) := ⟨⟨by decide +kernel, by decide +kernel⟩, List.mem_of_getElem? (i := 1003) (by decide +kernel), List.mem_of_getElem? (i := 1248) (by decide +kernel), List.mem_of_getElem? (i := 1249) (by decide +kernel)⟩
theorem lw_p63 : lw_okq (⟨"ThinRowModel", "isPoint", "(II)Z"⟩, 26) := ⟨⟨by decide +kernel, by decide +kernel⟩, List.mem_of_getElem? (i := 1003) (by decide +kernel), List.mem_of_getElem? (i := 1256) (by decide +kernel), List.mem_of_getElem? (i := 1257) (by decide +kernel)⟩
def lw_privs_4 : List (MethodName × Nat) := [(⟨"ThinRowModel", "puts", "(III)V"⟩, 26), (⟨"ThinRowModel", "isSign", "(I)Z"⟩, 26), (⟨"ThinRowModel", "readsLine", "(I)V"⟩, 26), (⟨"ThinRowModel", "lines", "(I)I"⟩, 26), (⟨"ThinRowModel", "nearOf", "(II)I"⟩, 26), (⟨"ThinRowModel", "weight", "(III)I"⟩, 26), (⟨"ThinRowModel", "weighs", "(IIII)V"⟩, 26), (⟨"ThinRowModel", "readsRow", "(I)V"⟩, 26), (⟨"ThinRowModel", "done", "(I)I"⟩, 26), (⟨"ThinRowModel", "weightOf", "(II)I"⟩, 26), (⟨"ThinRowModel", "degree", "(I)I"⟩, 26), (⟨"ThinRowModel", "parts", "(I)I"⟩, 26), (⟨"ThinRowModel", "farOf", "(III)I"⟩, 26), (⟨"ThinRowModel", "diameter", "(I)I"⟩, 26), (⟨"ThinRowModel", "core", "(I)I"⟩, 26), (⟨"ThinRowModel", "isPoint", "(II)Z"⟩, 26)]
theorem lw_r4 : ∀ q ∈ lw_privs_4, lw_okq q := List.forall_mem_cons.mpr ⟨lw_p48, List.forall_mem_cons.mpr ⟨lw_p49, List.forall_mem_cons.mpr ⟨lw_p50, List.forall_mem_cons.mpr ⟨lw_p51, List.forall_mem_cons.mpr ⟨lw_p52, List.forall_mem_cons.mpr ⟨lw_p53, List.forall_mem_cons.mpr ⟨lw_p54, List.forall_mem_cons.mpr ⟨lw_p55, List.forall_mem_cons.mpr ⟨lw_p56, List.forall_mem_cons.mpr ⟨lw_p57, List.forall_mem_cons.mpr ⟨lw_p58, List.forall_mem_cons.mpr ⟨lw_p59, List.forall_mem_cons.mpr ⟨lw_p60, List.forall_mem_cons.mpr ⟨lw_p61, List.forall_mem_cons.mpr ⟨lw_p62, List.forall_mem_cons.mpr ⟨lw_p63, fun _ h => absurd h List.not_mem_nil⟩⟩⟩⟩⟩⟩⟩⟩⟩⟩⟩⟩⟩⟩⟩⟩
theorem lw_p64 : lw_okq (⟨"ThinRowModel", "at", "(II)I"⟩, 26) := ⟨⟨by decide +kernel, by decide +kernel⟩, List.mem_of_getElem? (i := 1003) (by decide +kernel), List.mem_of_getElem? (i := 1272) (by decide +kernel), List.mem_of_getElem? (i := 1273) (by decide +kernel)⟩
theorem lw_p65 : lw_okq (⟨"ThinRowModel", "placeOf", "(II)I"⟩, 26) := ⟨⟨by decide +kernel, by decide +kernel⟩, List.mem_of_getElem? (i := 1003) (by decide +kernel), List.mem_of_getElem? (i := 1280) (by decide +kernel), List.mem_of_getElem? (i := 1281) (by decide +kernel)⟩
theorem lw_p66 : lw_okq (⟨"ThinRowModel", "laysRow", "(I)V"⟩, 26) := ⟨⟨by decide +kernel, by decide +kernel⟩, List.mem_of_getElem? (i := 1003) (by decide +kernel), List.mem_of_getElem? (i := 1291) (by decide +kernel), List.mem_of_getElem? (i := 1292) (by decide +kernel)⟩
theorem lw_p67 : lw_okq (⟨"ThinRowModel", "valueOf", "(II)I"⟩, 26) := ⟨⟨by decide +kernel, by decide +kernel⟩, List.mem_of_getElem? (i := 1003) (by decide +kernel), List.mem_of_getElem? (i := 1295) (by decide +kernel), List.mem_of_getElem? (i := 1296) (by decide +kernel)⟩
theorem lw_p68 : lw_okq (⟨"ThinRowModel", "bandOf", "(I)I"⟩, 26) := ⟨⟨by decide +kernel, by decide +kernel⟩, List.mem_of_getElem? (i := 1003) (by decide +kernel), List.mem_of_getElem? (i := 1299) (by decide +kernel), List.mem_of_getElem? (i := 1300) (by decide +kernel)⟩
theorem lw_p69 : lw_okq (⟨"ThinRowModel", "cost", "(IIII)I"⟩, 26) := ⟨⟨by decide +kernel, by decide +kernel⟩, List.mem_of_getElem? (i := 1003) (by decide +kernel), List.mem_of_getElem? (i := 1303) (by decide +kernel), List.mem_of_getElem? (i := 1304) (by decide +kernel)⟩
theorem lw_p70 : lw_okq (⟨"ThinRowModel", "neighbours", "(III)I"⟩, 26) := ⟨⟨by decide +kernel, by decide +kernel⟩, List.mem_of_getElem? (i := 1003) (by decide +kernel), List.mem_of_getElem? (i := 1307) (by decide +kernel), List.mem_of_getElem? (i := 1308) (by decide +kernel)⟩
theorem lw_p71 : lw_okq (⟨"ThinRowModel", "fillOf", "(III)I"⟩, 26) := ⟨⟨by decide +kernel, by decide +kernel⟩, List.mem_of_getElem? (i := 1003) (by decide +kernel), List.mem_of_getElem? (i := 1311) (by decide +kernel), List.mem_of_getElem? (i := 1312) (by decide +kernel)⟩
theorem lw_p72 : lw_okq (⟨"ThinRowModel", "splitOf", "(III)I"⟩, 26) := ⟨⟨by decide +kernel, by decide +kernel⟩, List.mem_of_getElem? (i := 1003) (by decide +kernel), List.mem_of_getElem? (i := 1315) (by decide +kernel), List.mem_of_getElem? (i := 1316) (by decide +kernel)⟩
theorem lw_p73 : lw_okq (⟨"ThinRowModel", "priceOf", "(III)I"⟩, 26) := ⟨⟨by decide +kernel, by decide +kernel⟩, List.mem_of_getElem? (i := 1003) (by decide +kernel), List.mem_of_getElem? (i := 1332) (by decide +kernel), List.mem_of_getElem? (i := 1333) (by decide +kernel)⟩
theorem lw_p74 : lw_okq (⟨"ThinRowModel", "aheadOf", "(II)I"⟩, 26) := ⟨⟨by decide +kernel, by decide +kernel⟩, List.mem_of_getElem? (i := 1003) (by decide +kernel), List.mem_of_getElem? (i := 1336) (by decide +kernel), List.mem_of_getElem? (i := 1337) (by decide +kernel)⟩
theorem lw_p75 : lw_okq (⟨"ThinRowModel", "leastBand", "(I)I"⟩, 26) := ⟨⟨by decide +kernel, by decide +kernel⟩, List.mem_of_getElem? (i := 1003) (by decide +kernel), List.mem_of_getElem? (i := 1353) (by decide +kernel), List.mem_of_getElem? (i := 1354) (by decide +kernel)⟩
theorem lw_p76 : lw_okq (⟨"ThinRowModel", "rowsOfBand", "(IIZ)I"⟩, 26) := ⟨⟨by decide +kernel, by decide +kernel⟩, List.mem_of_getElem? (i := 1003) (by decide +kernel), List.mem_of_getElem? (i := 1357) (by decide +kernel), List.mem_of_getElem? (i := 1358) (by decide +kernel)⟩
theorem lw_p77 : lw_okq (⟨"ThinRowModel", "goesBand", "(IIIIZ)Z"⟩, 26) := ⟨⟨by decide +kernel, by decide +kernel⟩, List.mem_of_getElem? (i := 1003) (by decide +kernel), List.mem_of_getElem? (i := 1361) (by decide +kernel), List.mem_of_getElem? (i := 1362) (by decide +kernel)⟩
theorem lw_p78 : lw_okq (⟨"ThinRowModel", "laysLeast", "(II)V"⟩, 26) := ⟨⟨by decide +kernel, by decide +kernel⟩, List.mem_of_getElem? (i := 1003) (by decide +kernel), List.mem_of_getElem? (i := 1365) (by decide +kernel), List.mem_of_getElem? (i := 1366) (by decide +kernel)⟩
theorem lw_p79 : lw_okq (⟨"ThinRowModel", "laysCosts", "(II)V"⟩, 26) := ⟨⟨by decide +kernel, by decide +kernel⟩, List.mem_of_getElem? (i := 1003) (by decide +kernel), List.mem_of_getElem? (i := 1369) (by decide +kernel), List.mem_of_getElem? (i := 1370) (by decide +kernel)⟩
def lw_privs_5 : List (MethodName × Nat) := [(⟨"ThinRowModel", "at", "(II)I"⟩, 26), (⟨"ThinRowModel", "placeOf", "(II)I"⟩, 26), (⟨"ThinRowModel", "laysRow", "(I)V"⟩, 26), (⟨"ThinRowModel", "valueOf", "(II)I"⟩, 26), (⟨"ThinRowModel", "bandOf", "(I)I"⟩, 26), (⟨"ThinRowModel", "cost", "(IIII)I"⟩, 26), (⟨"ThinRowModel", "neighbours", "(III)I"⟩, 26), (⟨"ThinRowModel", "fillOf", "(III)I"⟩, 26), (⟨"ThinRowModel", "splitOf", "(III)I"⟩, 26), (⟨"ThinRowModel", "priceOf", "(III)I"⟩, 26), (⟨"ThinRowModel", "aheadOf", "(II)I"⟩, 26), (⟨"ThinRowModel", "leastBand", "(I)I"⟩, 26), (⟨"ThinRowModel", "rowsOfBand", "(IIZ)I"⟩, 26), (⟨"ThinRowModel", "goesBand", "(IIIIZ)Z"⟩, 26), (⟨"ThinRowModel", "laysLeast", "(II)V"⟩, 26), (⟨"ThinRowModel", "laysCosts", "(II)V"⟩, 26)]
theorem lw_r5 : ∀ q ∈ lw_privs_5, lw_okq q := List.forall_mem_cons.mpr ⟨lw_p64, List.forall_mem_cons.mpr ⟨lw_p65, List.forall_mem_cons.mpr ⟨lw_p66, List.forall_mem_cons.mpr ⟨lw_p67, List.forall_mem_cons.mpr ⟨lw_p68, List.forall_mem_cons.mpr ⟨lw_p69, List.forall_mem_cons.mpr ⟨lw_p70, List.forall_mem_cons.mpr ⟨lw_p71, List.forall_mem_cons.mpr ⟨lw_p72, List.forall_mem_cons.mpr ⟨lw_p73, List.forall_mem_cons.mpr ⟨lw_p74, List.forall_mem_cons.mpr ⟨lw_p75, List.forall_mem_cons.mpr ⟨lw_p76, List.forall_mem_cons.mpr ⟨lw_p77, List.forall_mem_cons.mpr ⟨lw_p78, List.forall_mem_cons.mpr ⟨lw_p79, fun _ h => absurd h List.not_mem_nil⟩⟩⟩⟩⟩⟩⟩⟩⟩⟩⟩⟩⟩⟩⟩⟩
theorem lw_p80 : lw_okq (⟨"ThinRowModel", "laysRest", "(II)V"⟩, 26) := ⟨⟨by decide +kernel, by decide +kernel⟩, List.mem_of_getElem? (i := 1003) (by decide +kernel), List.mem_of_getElem? (i := 1374) (by decide +kernel), List.mem_of_getElem? (i := 1375) (by decide +kernel)⟩
theorem lw_p81 : lw_okq (⟨"ThinRowModel", "laysBest", "(II)V"⟩, 26) := ⟨⟨by decide +kernel, by decide +kernel⟩, List.mem_of_getElem? (i := 1003) (by decide +kernel), List.mem_of_getElem? (i := 1382) (by decide +kernel), List.mem_of_getElem? (i := 1383) (by decide +kernel)⟩
theorem lw_p82 : lw_okq (⟨"ThinRowModel", "keepsLeast", "(IIII)Z"⟩, 26) := ⟨⟨by decide +kernel, by decide +kernel⟩, List.mem_of_getElem? (i := 1003) (by decide +kernel), List.mem_of_getElem? (i := 1386) (by decide +kernel), List.mem_of_getElem? (i := 1387) (by decide +kernel)⟩
theorem lw_p83 : lw_okq (⟨"ThinRowModel", "rowsWithin", "(II)I"⟩, 26) := ⟨⟨by decide +kernel, by decide +kernel⟩, List.mem_of_getElem? (i := 1003) (by decide +kernel), List.mem_of_getElem? (i := 1394) (by decide +kernel), List.mem_of_getElem? (i := 1395) (by decide +kernel)⟩
theorem lw_p84 : lw_okq (⟨"ThinRowModel", "rowsOfLeast", "(I)I"⟩, 26) := ⟨⟨by decide +kernel, by decide +kernel⟩, List.mem_of_getElem? (i := 1003) (by decide +kernel), List.mem_of_getElem? (i := 1398) (by decide +kernel), List.mem_of_getElem? (i := 1399) (by decide +kernel)⟩
theorem lw_p85 : lw_okq (⟨"ThinRowModel", "balls", "(I)I"⟩, 26) := ⟨⟨by decide +kernel, by decide +kernel⟩, List.mem_of_getElem? (i := 1003) (by decide +kernel), List.mem_of_getElem? (i := 1419) (by decide +kernel), List.mem_of_getElem? (i := 1420) (by decide +kernel)⟩
theorem lw_p86 : lw_okq (⟨"ThinRowModel", "fewestOf", "(I)I"⟩, 26) := ⟨⟨by decide +kernel, by decide +kernel⟩, List.mem_of_getElem? (i := 1003) (by decide +kernel), List.mem_of_getElem? (i := 1427) (by decide +kernel), List.mem_of_getElem? (i := 1428) (by decide +kernel)⟩
theorem lw_p87 : lw_okq (⟨"ThinRowModel", "exchanges", "(II)V"⟩, 26) := ⟨⟨by decide +kernel, by decide +kernel⟩, List.mem_of_getElem? (i := 1003) (by decide +kernel), List.mem_of_getElem? (i := 1451) (by decide +kernel), List.mem_of_getElem? (i := 1452) (by decide +kernel)⟩
theorem lw_p88 : lw_okq (⟨"ThinRowModel", "takesRow", "(I)I"⟩, 26) := ⟨⟨by decide +kernel, by decide +kernel⟩, List.mem_of_getElem? (i := 1003) (by decide +kernel), List.mem_of_getElem? (i := 1459) (by decide +kernel), List.mem_of_getElem? (i := 1460) (by decide +kernel)⟩
theorem lw_p89 : lw_okq (⟨"ThinRowModel", "polishes", "(II)I"⟩, 26) := ⟨⟨by decide +kernel, by decide +kernel⟩, List.mem_of_getElem? (i := 1003) (by decide +kernel), List.mem_of_getElem? (i := 1479) (by decide +kernel), List.mem_of_getElem? (i := 1480) (by decide +kernel)⟩
theorem lw_p90 : lw_okq (⟨"ThinRowModel", "areTwo", "(III)Z"⟩, 26) := ⟨⟨by decide +kernel, by decide +kernel⟩, List.mem_of_getElem? (i := 1003) (by decide +kernel), List.mem_of_getElem? (i := 1499) (by decide +kernel), List.mem_of_getElem? (i := 1500) (by decide +kernel)⟩
theorem lw_p91 : lw_okq (⟨"ThinRowModel", "saysNet", "(I)V"⟩, 26) := ⟨⟨by decide +kernel, by decide +kernel⟩, List.mem_of_getElem? (i := 1003) (by decide +kernel), List.mem_of_getElem? (i := 1516) (by decide +kernel), List.mem_of_getElem? (i := 1517) (by decide +kernel)⟩
theorem lw_p92 : lw_okq (⟨"ThinRowModel", "says", "(Ljava/lang/String;)V"⟩, 26) := ⟨⟨by decide +kernel, by decide +kernel⟩, List.mem_of_getElem? (i := 1003) (by decide +kernel), List.mem_of_getElem? (i := 1521) (by decide +kernel), List.mem_of_getElem? (i := 1522) (by decide +kernel)⟩
theorem lw_p93 : lw_okq (⟨"ThinRowModel", "saysNumber", "(I)V"⟩, 26) := ⟨⟨by decide +kernel, by decide +kernel⟩, List.mem_of_getElem? (i := 1003) (by decide +kernel), List.mem_of_getElem? (i := 1525) (by decide +kernel), List.mem_of_getElem? (i := 1526) (by decide +kernel)⟩
def lw_privs_6 : List (MethodName × Nat) := [(⟨"ThinRowModel", "laysRest", "(II)V"⟩, 26), (⟨"ThinRowModel", "laysBest", "(II)V"⟩, 26), (⟨"ThinRowModel", "keepsLeast", "(IIII)Z"⟩, 26), (⟨"ThinRowModel", "rowsWithin", "(II)I"⟩, 26), (⟨"ThinRowModel", "rowsOfLeast", "(I)I"⟩, 26), (⟨"ThinRowModel", "balls", "(I)I"⟩, 26), (⟨"ThinRowModel", "fewestOf", "(I)I"⟩, 26), (⟨"ThinRowModel", "exchanges", "(II)V"⟩, 26), (⟨"ThinRowModel", "takesRow", "(I)I"⟩, 26), (⟨"ThinRowModel", "polishes", "(II)I"⟩, 26), (⟨"ThinRowModel", "areTwo", "(III)Z"⟩, 26), (⟨"ThinRowModel", "saysNet", "(I)V"⟩, 26), (⟨"ThinRowModel", "says", "(Ljava/lang/String;)V"⟩, 26), (⟨"ThinRowModel", "saysNumber", "(I)V"⟩, 26)]
theorem lw_r6 : ∀ q ∈ lw_privs_6, lw_okq q := List.forall_mem_cons.mpr ⟨lw_p80, List.forall_mem_cons.mpr ⟨lw_p81, List.forall_mem_cons.mpr ⟨lw_p82, List.forall_mem_cons.mpr ⟨lw_p83, List.forall_mem_cons.mpr ⟨lw_p84, List.forall_mem_cons.mpr ⟨lw_p85, List.forall_mem_cons.mpr ⟨lw_p86, List.forall_mem_cons.mpr ⟨lw_p87, List.forall_mem_cons.mpr ⟨lw_p88, List.forall_mem_cons.mpr ⟨lw_p89, List.forall_mem_cons.mpr ⟨lw_p90, List.forall_mem_cons.mpr ⟨lw_p91, List.forall_mem_cons.mpr ⟨lw_p92, List.forall_mem_cons.mpr ⟨lw_p93, fun _ h => absurd h List.not_mem_nil⟩⟩⟩⟩⟩⟩⟩⟩⟩⟩⟩⟩⟩⟩
def lw_privs : List (MethodName × Nat) := lw_privs_1 ++ (lw_privs_2 ++ (lw_privs_3 ++ (lw_privs_4 ++ (lw_privs_5 ++ (lw_privs_6)))))
def lw_tbl : List Cond := k2_sels lw_privs ++ tables_1
theorem lw_privs_ok : ∀ q ∈ lw_privs, lw_okq q := by
  show ∀ q ∈ lw_privs_1 ++ (lw_privs_2 ++ (lw_privs_3 ++ (lw_privs_4 ++ (lw_privs_5 ++ (lw_privs_6))))), lw_okq q
  exact List.forall_mem_append.mpr ⟨lw_r1, List.forall_mem_append.mpr ⟨lw_r2, List.forall_mem_append.mpr ⟨lw_r3, List.forall_mem_append.mpr ⟨lw_r4, List.forall_mem_append.mpr ⟨lw_r5, lw_r6⟩⟩⟩⟩⟩
-- ===== end of PART A; then your names; then what follows =====
end
section
def RX0 : String := "ThinRow$BandSearch"
def TX0 : u_T := fun k => match k with
  | 0 => ("ThinRow$BandSearch", "net", "LThinRow$Net;", true)
  | 1 => ("ThinRow$BandSearch", "places", "[I", true)
  | 2 => ("ThinRow$BandSearch", "keys", "[I", true)
  | _ => ("ThinRow$BandSearch", "counts", "[I", true)
def tyX0 : Nat → FieldType := fun k => match k with
  | 0 => .object "ThinRow$Net"
  | 1 => .array .int
  | 2 => .array .int
  | _ => .array .int
abbrev wsX00 : List Cond := u_ws RX0 TX0 4
theorem nmX0 : ∀ a, a < 4 → ∀ b, b < 4 → a ≠ b → (TX0 a).2.1 ≠ (TX0 b).2.1 := by decide +kernel
theorem tyX0_ok : ∀ k, k < 4 → parseFieldDescriptor (TX0 k).2.2.1 = some (tyX0 k) := by decide +kernel
abbrev cX0_init : ByteArray := prog_2_method_1_code
def yX0_init : MethodName := ⟨RX0, "<init>", "()V"⟩
abbrev cX0_find : ByteArray := prog_2_method_2_code
def yX0_find : MethodName := ⟨RX0, "find", "(LThinRow$Net;LThinRow$Finding;)V"⟩
abbrev cX0_rowsWithin : ByteArray := prog_2_method_3_code
def yX0_rowsWithin : MethodName := ⟨RX0, "rowsWithin", "(LThinRow$Net;I)I"⟩
abbrev cX0_turnTo : ByteArray := prog_2_method_4_code
def yX0_turnTo : MethodName := ⟨RX0, "turnTo", "(LThinRow$Net;)V"⟩
abbrev cX0_leastLimit : ByteArray := prog_2_method_5_code
def yX0_leastLimit : MethodName := ⟨RX0, "leastLimit", "()I"⟩
abbrev cX0_leadersFrom : ByteArray := prog_2_method_6_code
def yX0_leadersFrom : MethodName := ⟨RX0, "leadersFrom", "(III)I"⟩
abbrev cX0_rowsFrom : ByteArray := prog_2_method_7_code
def yX0_rowsFrom : MethodName := ⟨RX0, "rowsFrom", "(III)I"⟩
abbrev cX0_waiting : ByteArray := prog_2_method_8_code
def yX0_waiting : MethodName := ⟨RX0, "waiting", "(III)I"⟩
def RX1 : String := "ThinRow$Bytes"
def TX1 : u_T := fun k => match k with
  | 0 => ("ThinRow$Bytes", "held", "[B", true)
  | _ => ("ThinRow$Bytes", "size", "I", false)
def tyX1 : Nat → FieldType := fun k => match k with
  | 0 => .array .byte
  | _ => .int
abbrev wsX10 : List Cond := u_ws RX1 TX1 2
theorem nmX1 : ∀ a, a < 2 → ∀ b, b < 2 → a ≠ b → (TX1 a).2.1 ≠ (TX1 b).2.1 := by decide +kernel
theorem tyX1_ok : ∀ k, k < 2 → parseFieldDescriptor (TX1 k).2.2.1 = some (tyX1 k) := by decide +kernel
abbrev cX1_init : ByteArray := prog_3_method_1_code
def yX1_init : MethodName := ⟨RX1, "<init>", "(I)V"⟩
abbrev cX1_hasRoom : ByteArray := prog_3_method_2_code
def yX1_hasRoom : MethodName := ⟨RX1, "hasRoom", "(I)Z"⟩
abbrev cX1_put : ByteArray := prog_3_method_3_code
def yX1_put : MethodName := ⟨RX1, "put", "(I)V"⟩
abbrev cX1_putFour : ByteArray := prog_3_method_4_code
def yX1_putFour : MethodName := ⟨RX1, "putFour", "(I)V"⟩
abbrev cX1_putText : ByteArray := prog_3_method_5_code
def yX1_putText : MethodName := ⟨RX1, "putText", "(Ljava/lang/String;)V"⟩
abbrev cX1_putNumber : ByteArray := prog_3_method_6_code
def yX1_putNumber : MethodName := ⟨RX1, "putNumber", "(I)V"⟩
abbrev cX1_at : ByteArray := prog_3_method_7_code
def yX1_at : MethodName := ⟨RX1, "at", "(I)I"⟩
def RX2 : String := "ThinRow$Finding"
def TX2 : u_T := fun k => match k with
  | 0 => ("ThinRow$Finding", "known", "Z", false)
  | 1 => ("ThinRow$Finding", "leastValue", "I", false)
  | 2 => ("ThinRow$Finding", "rowCount", "I", false)
  | 3 => ("ThinRow$Finding", "firstPoints", "I", false)
  | _ => ("ThinRow$Finding", "firstRow", "[I", true)
def tyX2 : Nat → FieldType := fun k => match k with
  | 0 => .boolean
  | 1 => .int
  | 2 => .int
  | 3 => .int
  | _ => .array .int
abbrev wsX20 : List Cond := u_ws RX2 TX2 5
theorem nmX2 : ∀ a, a < 5 → ∀ b, b < 5 → a ≠ b → (TX2 a).2.1 ≠ (TX2 b).2.1 := by decide +kernel
theorem tyX2_ok : ∀ k, k < 5 → parseFieldDescriptor (TX2 k).2.2.1 = some (tyX2 k) := by decide +kernel
abbrev cX2_init : ByteArray := prog_4_method_1_code
def yX2_init : MethodName := ⟨RX2, "<init>", "()V"⟩
def RX3 : String := "ThinRow$Findings"
def TX3 : u_T := fun k => match k with
  | 0 => ("ThinRow$Findings", "ofMeasure", "[LThinRow$Finding;", true)
  | _ => ("ThinRow$Findings", "about", "LThinRow$Net;", true)
def tyX3 : Nat → FieldType := fun k => match k with
  | 0 => .array (.object "ThinRow$Finding")
  | _ => .object "ThinRow$Net"
abbrev wsX30 : List Cond := u_ws RX3 TX3 2
theorem nmX3 : ∀ a, a < 2 → ∀ b, b < 2 → a ≠ b → (TX3 a).2.1 ≠ (TX3 b).2.1 := by decide +kernel
theorem tyX3_ok : ∀ k, k < 2 → parseFieldDescriptor (TX3 k).2.2.1 = some (tyX3 k) := by decide +kernel
abbrev cX3_init : ByteArray := prog_5_method_1_code
def yX3_init : MethodName := ⟨RX3, "<init>", "()V"⟩
abbrev cX3_turnTo : ByteArray := prog_5_method_2_code
def yX3_turnTo : MethodName := ⟨RX3, "turnTo", "(LThinRow$Net;)V"⟩
def RX4 : String := "ThinRow$History"
def TX4 : u_T := fun k => match k with
  | 0 => ("ThinRow$History", "held", "I", false)
  | 1 => ("ThinRow$History", "next", "I", false)
  | 2 => ("ThinRow$History", "slots", "[I", true)
  | _ => ("ThinRow$History", "nets", "[LThinRow$Net;", true)
def tyX4 : Nat → FieldType := fun k => match k with
  | 0 => .int
  | 1 => .int
  | 2 => .array .int
  | _ => .array (.object "ThinRow$Net")
abbrev wsX40 : List Cond := u_ws RX4 TX4 4
theorem nmX4 : ∀ a, a < 4 → ∀ b, b < 4 → a ≠ b → (TX4 a).2.1 ≠ (TX4 b).2.1 := by decide +kernel
theorem tyX4_ok : ∀ k, k < 4 → parseFieldDescriptor (TX4 k).2.2.1 = some (tyX4 k) := by decide +kernel
abbrev cX4_init : ByteArray := prog_6_method_1_code
def yX4_init : MethodName := ⟨RX4, "<init>", "()V"⟩
abbrev cX4_remember : ByteArray := prog_6_method_2_code
def yX4_remember : MethodName := ⟨RX4, "remember", "(ILThinRow$Net;)V"⟩
abbrev cX4_takeBack : ByteArray := prog_6_method_3_code
def yX4_takeBack : MethodName := ⟨RX4, "takeBack", "([LThinRow$Net;)V"⟩
def RX5 : String := "ThinRow$Net"
def TX5 : u_T := fun k => match k with
  | 0 => ("ThinRow$Net", "points", "I", false)
  | 1 => ("ThinRow$Net", "lines", "I", false)
  | 2 => ("ThinRow$Net", "nearBits", "[I", true)
  | 3 => ("ThinRow$Net", "order", "[I", true)
  | _ => ("ThinRow$Net", "weights", "[I", true)
def tyX5 : Nat → FieldType := fun k => match k with
  | 0 => .int
  | 1 => .int
  | 2 => .array .int
  | 3 => .array .int
  | _ => .array .int
abbrev wsX50 : List Cond := u_ws RX5 TX5 5
theorem nmX5 : ∀ a, a < 5 → ∀ b, b < 5 → a ≠ b → (TX5 a).2.1 ≠ (TX5 b).2.1 := by decide +kernel
theorem tyX5_ok : ∀ k, k < 5 → parseFieldDescriptor (TX5 k).2.2.1 = some (tyX5 k) := by decide +kernel
abbrev cX5_init : ByteArray := prog_7_method_1_code
def yX5_init : MethodName := ⟨RX5, "<init>", "()V"⟩
abbrev cX5_begin : ByteArray := prog_7_method_2_code
def yX5_begin : MethodName := ⟨RX5, "begin", "(I)V"⟩
abbrev cX5_copyFrom : ByteArray := prog_7_method_3_code
def yX5_copyFrom : MethodName := ⟨RX5, "copyFrom", "(LThinRow$Net;)V"⟩
abbrev cX5_sameLines : ByteArray := prog_7_method_4_code
def yX5_sameLines : MethodName := ⟨RX5, "sameLines", "(LThinRow$Net;)Z"⟩
abbrev cX5_sameAs : ByteArray := prog_7_method_5_code
def yX5_sameAs : MethodName := ⟨RX5, "sameAs", "(LThinRow$Net;)Z"⟩
abbrev cX5_placesUnlike : ByteArray := prog_7_method_6_code
def yX5_placesUnlike : MethodName := ⟨RX5, "placesUnlike", "(LThinRow$Net;)I"⟩
abbrev cX5_has : ByteArray := prog_7_method_7_code
def yX5_has : MethodName := ⟨RX5, "has", "(I)Z"⟩
abbrev cX5_hasTwo : ByteArray := prog_7_method_8_code
def yX5_hasTwo : MethodName := ⟨RX5, "hasTwo", "(II)Z"⟩
abbrev cX5_allBits : ByteArray := prog_7_method_9_code
def yX5_allBits : MethodName := ⟨RX5, "allBits", "()I"⟩
abbrev cX5_lineCount : ByteArray := prog_7_method_10_code
def yX5_lineCount : MethodName := ⟨RX5, "lineCount", "(I)I"⟩
abbrev cX5_weightOf : ByteArray := prog_7_method_11_code
def yX5_weightOf : MethodName := ⟨RX5, "weightOf", "(II)I"⟩
abbrev cX5_setWeight : ByteArray := prog_7_method_12_code
def yX5_setWeight : MethodName := ⟨RX5, "setWeight", "(III)V"⟩
abbrev cX5_placeOf : ByteArray := prog_7_method_13_code
def yX5_placeOf : MethodName := ⟨RX5, "placeOf", "(I)I"⟩
abbrev cX5_aheadOf : ByteArray := prog_7_method_14_code
def yX5_aheadOf : MethodName := ⟨RX5, "aheadOf", "(I)I"⟩
abbrev cX5_changeOver : ByteArray := prog_7_method_15_code
def yX5_changeOver : MethodName := ⟨RX5, "changeOver", "(II)V"⟩
abbrev cX5_shift : ByteArray := prog_7_method_16_code
def yX5_shift : MethodName := ⟨RX5, "shift", "(II)V"⟩
abbrev cX5_turnRound : ByteArray := prog_7_method_17_code
def yX5_turnRound : MethodName := ⟨RX5, "turnRound", "()V"⟩
abbrev cX5_drawTogether : ByteArray := prog_7_method_18_code
def yX5_drawTogether : MethodName := ⟨RX5, "drawTogether", "(II)V"⟩
abbrev cX5_takeOut : ByteArray := prog_7_method_19_code
def yX5_takeOut : MethodName := ⟨RX5, "takeOut", "(I)V"⟩
abbrev cX5_takeFromRow : ByteArray := prog_7_method_20_code
def yX5_takeFromRow : MethodName := ⟨RX5, "takeFromRow", "(I)V"⟩
def RX6 : String := "ThinRow$Prices"
def TX6 : u_T := fun k => match k with
  | _ => ("", "", "", false)
def tyX6 : Nat → FieldType := fun k => match k with
  | _ => .int
abbrev wsX60 : List Cond := u_ws RX6 TX6 0
theorem nmX6 : ∀ a, a < 0 → ∀ b, b < 0 → a ≠ b → (TX6 a).2.1 ≠ (TX6 b).2.1 := by decide +kernel
theorem tyX6_ok : ∀ k, k < 0 → parseFieldDescriptor (TX6 k).2.2.1 = some (tyX6 k) := by decide +kernel
abbrev cX6_isTakenOut : ByteArray := prog_8_method_2_code
def yX6_isTakenOut : MethodName := ⟨RX6, "isTakenOut", "(I)Z"⟩
abbrev cX6_firstStep : ByteArray := prog_8_method_3_code
def yX6_firstStep : MethodName := ⟨RX6, "firstStep", "(I)I"⟩
abbrev cX6_joined : ByteArray := prog_8_method_4_code
def yX6_joined : MethodName := ⟨RX6, "joined", "(III)I"⟩
abbrev cX6_atPlace : ByteArray := prog_8_method_5_code
def yX6_atPlace : MethodName := ⟨RX6, "atPlace", "(LThinRow$Net;II)I"⟩
abbrev cX6_aheadAtStep : ByteArray := prog_8_method_6_code
def yX6_aheadAtStep : MethodName := ⟨RX6, "aheadAtStep", "(III)I"⟩
abbrev cX6_of : ByteArray := prog_8_method_7_code
def yX6_of : MethodName := ⟨RX6, "of", "(LThinRow$Net;III)I"⟩
abbrev cX6_cutWeight : ByteArray := prog_8_method_8_code
def yX6_cutWeight : MethodName := ⟨RX6, "cutWeight", "(LThinRow$Net;I)I"⟩
abbrev cX6_gateSize : ByteArray := prog_8_method_9_code
def yX6_gateSize : MethodName := ⟨RX6, "gateSize", "(LThinRow$Net;I)I"⟩
abbrev cX6_fringeSize : ByteArray := prog_8_method_10_code
def yX6_fringeSize : MethodName := ⟨RX6, "fringeSize", "(LThinRow$Net;I)I"⟩
abbrev cX6_withLineInto : ByteArray := prog_8_method_11_code
def yX6_withLineInto : MethodName := ⟨RX6, "withLineInto", "(LThinRow$Net;II)I"⟩
abbrev cX6_neighbours : ByteArray := prog_8_method_12_code
def yX6_neighbours : MethodName := ⟨RX6, "neighbours", "(LThinRow$Net;II)I"⟩
abbrev cX6_newLines : ByteArray := prog_8_method_13_code
def yX6_newLines : MethodName := ⟨RX6, "newLines", "(LThinRow$Net;II)I"⟩
abbrev cX6_aboveOf : ByteArray := prog_8_method_14_code
def yX6_aboveOf : MethodName := ⟨RX6, "aboveOf", "(II)I"⟩
def RX7 : String := "ThinRow$Reader"
def TX7 : u_T := fun k => match k with
  | 0 => ("ThinRow$Reader", "draft", "LThinRow$Net;", true)
  | 1 => ("ThinRow$Reader", "faultNumber", "I", false)
  | 2 => ("ThinRow$Reader", "faultPlace", "I", false)
  | 3 => ("ThinRow$Reader", "source", "LThinRow$Bytes;", true)
  | 4 => ("ThinRow$Reader", "kind", "I", false)
  | 5 => ("ThinRow$Reader", "start", "I", false)
  | 6 => ("ThinRow$Reader", "behind", "I", false)
  | _ => ("ThinRow$Reader", "number", "I", false)
def tyX7 : Nat → FieldType := fun k => match k with
  | 0 => .object "ThinRow$Net"
  | 1 => .int
  | 2 => .int
  | 3 => .object "ThinRow$Bytes"
  | 4 => .int
  | 5 => .int
  | 6 => .int
  | _ => .int
abbrev wsX70 : List Cond := u_ws RX7 TX7 8
theorem nmX7 : ∀ a, a < 8 → ∀ b, b < 8 → a ≠ b → (TX7 a).2.1 ≠ (TX7 b).2.1 := by decide +kernel
theorem tyX7_ok : ∀ k, k < 8 → parseFieldDescriptor (TX7 k).2.2.1 = some (tyX7 k) := by decide +kernel
abbrev cX7_init : ByteArray := prog_9_method_1_code
def yX7_init : MethodName := ⟨RX7, "<init>", "(LThinRow$Bytes;)V"⟩
abbrev cX7_readAll : ByteArray := prog_9_method_2_code
def yX7_readAll : MethodName := ⟨RX7, "readAll", "()Z"⟩
abbrev cX7_readHead : ByteArray := prog_9_method_3_code
def yX7_readHead : MethodName := ⟨RX7, "readHead", "()Z"⟩
abbrev cX7_readLines : ByteArray := prog_9_method_4_code
def yX7_readLines : MethodName := ⟨RX7, "readLines", "()Z"⟩
abbrev cX7_readLine : ByteArray := prog_9_method_5_code
def yX7_readLine : MethodName := ⟨RX7, "readLine", "()Z"⟩
abbrev cX7_readWeight : ByteArray := prog_9_method_6_code
def yX7_readWeight : MethodName := ⟨RX7, "readWeight", "(II)Z"⟩
abbrev cX7_readRow : ByteArray := prog_9_method_7_code
def yX7_readRow : MethodName := ⟨RX7, "readRow", "()Z"⟩
abbrev cX7_readDigits : ByteArray := prog_9_method_8_code
def yX7_readDigits : MethodName := ⟨RX7, "readDigits", "()Z"⟩
abbrev cX7_isPoint : ByteArray := prog_9_method_9_code
def yX7_isPoint : MethodName := ⟨RX7, "isPoint", "()Z"⟩
abbrev cX7_isNumberFrom : ByteArray := prog_9_method_10_code
def yX7_isNumberFrom : MethodName := ⟨RX7, "isNumberFrom", "(II)Z"⟩
abbrev cX7_takeSign : ByteArray := prog_9_method_11_code
def yX7_takeSign : MethodName := ⟨RX7, "takeSign", "(C)Z"⟩
abbrev cX7_isSign : ByteArray := prog_9_method_12_code
def yX7_isSign : MethodName := ⟨RX7, "isSign", "(C)Z"⟩
abbrev cX7_isWord : ByteArray := prog_9_method_13_code
def yX7_isWord : MethodName := ⟨RX7, "isWord", "(Ljava/lang/String;)Z"⟩
abbrev cX7_blame : ByteArray := prog_9_method_14_code
def yX7_blame : MethodName := ⟨RX7, "blame", "(I)Z"⟩
abbrev cX7_step : ByteArray := prog_9_method_15_code
def yX7_step : MethodName := ⟨RX7, "step", "()V"⟩
abbrev cX7_kindOf : ByteArray := prog_9_method_16_code
def yX7_kindOf : MethodName := ⟨RX7, "kindOf", "(I)I"⟩
abbrev cX7_isBlank : ByteArray := prog_9_method_17_code
def yX7_isBlank : MethodName := ⟨RX7, "isBlank", "(I)Z"⟩
def RX8 : String := "ThinRow$Rows"
def TX8 : u_T := fun k => match k with
  | _ => ("", "", "", false)
def tyX8 : Nat → FieldType := fun k => match k with
  | _ => .int
abbrev wsX80 : List Cond := u_ws RX8 TX8 0
theorem nmX8 : ∀ a, a < 0 → ∀ b, b < 0 → a ≠ b → (TX8 a).2.1 ≠ (TX8 b).2.1 := by decide +kernel
theorem tyX8_ok : ∀ k, k < 0 → parseFieldDescriptor (TX8 k).2.2.1 = some (tyX8 k) := by decide +kernel
abbrev cX8_measured : ByteArray := prog_10_method_2_code
def yX8_measured : MethodName := ⟨RX8, "measured", "(LThinRow$Net;I)I"⟩
abbrev cX8_widestBand : ByteArray := prog_10_method_3_code
def yX8_widestBand : MethodName := ⟨RX8, "widestBand", "(LThinRow$Net;)I"⟩
abbrev cX8_worstStep : ByteArray := prog_10_method_4_code
def yX8_worstStep : MethodName := ⟨RX8, "worstStep", "(LThinRow$Net;I)I"⟩
abbrev cX8_longestLine : ByteArray := prog_10_method_5_code
def yX8_longestLine : MethodName := ⟨RX8, "longestLine", "(LThinRow$Net;)I"⟩
abbrev cX8_bagGoing : ByteArray := prog_10_method_6_code
def yX8_bagGoing : MethodName := ⟨RX8, "bagGoing", "(LThinRow$Net;I)I"⟩
abbrev cX8_bagTaken : ByteArray := prog_10_method_7_code
def yX8_bagTaken : MethodName := ⟨RX8, "bagTaken", "(LThinRow$Net;I)I"⟩
abbrev cX8_newLine : ByteArray := prog_10_method_8_code
def yX8_newLine : MethodName := ⟨RX8, "newLine", "(LThinRow$Net;I)I"⟩
abbrev cX8_bitAt : ByteArray := prog_10_method_9_code
def yX8_bitAt : MethodName := ⟨RX8, "bitAt", "(II)I"⟩
abbrev cX8_polishRow : ByteArray := prog_10_method_10_code
def yX8_polishRow : MethodName := ⟨RX8, "polishRow", "(LThinRow$Net;I)I"⟩
abbrev cX8_changeBestTwo : ByteArray := prog_10_method_11_code
def yX8_changeBestTwo : MethodName := ⟨RX8, "changeBestTwo", "(LThinRow$Net;I)Z"⟩
abbrev cX8_makeGreedy : ByteArray := prog_10_method_12_code
def yX8_makeGreedy : MethodName := ⟨RX8, "makeGreedy", "(LThinRow$Net;I)V"⟩
abbrev cX8_makeLayers : ByteArray := prog_10_method_13_code
def yX8_makeLayers : MethodName := ⟨RX8, "makeLayers", "(LThinRow$Net;I)V"⟩
abbrev cX8_putInRow : ByteArray := prog_10_method_14_code
def yX8_putInRow : MethodName := ⟨RX8, "putInRow", "(LThinRow$Net;II)I"⟩
def RX9 : String := "ThinRow$SetSearch"
def TX9 : u_T := fun k => match k with
  | 0 => ("ThinRow$SetSearch", "steps", "[I", true)
  | 1 => ("ThinRow$SetSearch", "guards", "[I", true)
  | 2 => ("ThinRow$SetSearch", "around", "[I", true)
  | 3 => ("ThinRow$SetSearch", "rest", "[I", true)
  | _ => ("ThinRow$SetSearch", "rows", "[I", true)
def tyX9 : Nat → FieldType := fun k => match k with
  | 0 => .array .int
  | 1 => .array .int
  | 2 => .array .int
  | 3 => .array .int
  | _ => .array .int
abbrev wsX90 : List Cond := u_ws RX9 TX9 5
theorem nmX9 : ∀ a, a < 5 → ∀ b, b < 5 → a ≠ b → (TX9 a).2.1 ≠ (TX9 b).2.1 := by decide +kernel
theorem tyX9_ok : ∀ k, k < 5 → parseFieldDescriptor (TX9 k).2.2.1 = some (tyX9 k) := by decide +kernel
abbrev cX9_init : ByteArray := prog_11_method_1_code
def yX9_init : MethodName := ⟨RX9, "<init>", "()V"⟩
abbrev cX9_find : ByteArray := prog_11_method_2_code
def yX9_find : MethodName := ⟨RX9, "find", "(LThinRow$Net;ILThinRow$Finding;)V"⟩
abbrev cX9_rowsWithin : ByteArray := prog_11_method_3_code
def yX9_rowsWithin : MethodName := ⟨RX9, "rowsWithin", "(LThinRow$Net;II)I"⟩
abbrev cX9_leastWhere : ByteArray := prog_11_method_4_code
def yX9_leastWhere : MethodName := ⟨RX9, "leastWhere", "(LThinRow$Net;III)I"⟩
abbrev cX9_fillSteps : ByteArray := prog_11_method_5_code
def yX9_fillSteps : MethodName := ⟨RX9, "fillSteps", "(LThinRow$Net;I[I)V"⟩
abbrev cX9_fillTakings : ByteArray := prog_11_method_6_code
def yX9_fillTakings : MethodName := ⟨RX9, "fillTakings", "(LThinRow$Net;I[I)V"⟩
abbrev cX9_newLines : ByteArray := prog_11_method_7_code
def yX9_newLines : MethodName := ⟨RX9, "newLines", "(LThinRow$Net;II)I"⟩
abbrev cX9_fillAround : ByteArray := prog_11_method_8_code
def yX9_fillAround : MethodName := ⟨RX9, "fillAround", "(LThinRow$Net;)V"⟩
abbrev cX9_fillRest : ByteArray := prog_11_method_9_code
def yX9_fillRest : MethodName := ⟨RX9, "fillRest", "(LThinRow$Net;I[II)V"⟩
abbrev cX9_countRows : ByteArray := prog_11_method_10_code
def yX9_countRows : MethodName := ⟨RX9, "countRows", "(LThinRow$Net;II)V"⟩
abbrev cX9_fits : ByteArray := prog_11_method_11_code
def yX9_fits : MethodName := ⟨RX9, "fits", "(IIII)Z"⟩
abbrev cX9_leadersFrom : ByteArray := prog_11_method_12_code
def yX9_leadersFrom : MethodName := ⟨RX9, "leadersFrom", "(LThinRow$Net;III)I"⟩
abbrev cX9_lowest : ByteArray := prog_11_method_13_code
def yX9_lowest : MethodName := ⟨RX9, "lowest", "(I)I"⟩
def RX10 : String := "ThinRow$Shape"
def TX10 : u_T := fun k => match k with
  | _ => ("", "", "", false)
def tyX10 : Nat → FieldType := fun k => match k with
  | _ => .int
abbrev wsX100 : List Cond := u_ws RX10 TX10 0
theorem nmX10 : ∀ a, a < 0 → ∀ b, b < 0 → a ≠ b → (TX10 a).2.1 ≠ (TX10 b).2.1 := by decide +kernel
theorem tyX10_ok : ∀ k, k < 0 → parseFieldDescriptor (TX10 k).2.2.1 = some (tyX10 k) := by decide +kernel
abbrev cX10_wholeWeight : ByteArray := prog_12_method_2_code
def yX10_wholeWeight : MethodName := ⟨RX10, "wholeWeight", "(LThinRow$Net;)I"⟩
abbrev cX10_weightAt : ByteArray := prog_12_method_3_code
def yX10_weightAt : MethodName := ⟨RX10, "weightAt", "(LThinRow$Net;I)I"⟩
abbrev cX10_mostWeightAtPoint : ByteArray := prog_12_method_4_code
def yX10_mostWeightAtPoint : MethodName := ⟨RX10, "mostWeightAtPoint", "(LThinRow$Net;)I"⟩
abbrev cX10_mostLinesAtPoint : ByteArray := prog_12_method_5_code
def yX10_mostLinesAtPoint : MethodName := ⟨RX10, "mostLinesAtPoint", "(LThinRow$Net;)I"⟩
abbrev cX10_grown : ByteArray := prog_12_method_6_code
def yX10_grown : MethodName := ⟨RX10, "grown", "(LThinRow$Net;I)I"⟩
abbrev cX10_distance : ByteArray := prog_12_method_7_code
def yX10_distance : MethodName := ⟨RX10, "distance", "(LThinRow$Net;II)I"⟩
abbrev cX10_partCount : ByteArray := prog_12_method_8_code
def yX10_partCount : MethodName := ⟨RX10, "partCount", "(LThinRow$Net;)I"⟩
abbrev cX10_partOf : ByteArray := prog_12_method_9_code
def yX10_partOf : MethodName := ⟨RX10, "partOf", "(LThinRow$Net;I)I"⟩
abbrev cX10_diameter : ByteArray := prog_12_method_10_code
def yX10_diameter : MethodName := ⟨RX10, "diameter", "(LThinRow$Net;)I"⟩
abbrev cX10_core : ByteArray := prog_12_method_11_code
def yX10_core : MethodName := ⟨RX10, "core", "(LThinRow$Net;)I"⟩
abbrev cX10_fewestLines : ByteArray := prog_12_method_12_code
def yX10_fewestLines : MethodName := ⟨RX10, "fewestLines", "(LThinRow$Net;II)I"⟩
abbrev cX10_lineBound : ByteArray := prog_12_method_13_code
def yX10_lineBound : MethodName := ⟨RX10, "lineBound", "(LThinRow$Net;I)I"⟩
abbrev cX10_ballBound : ByteArray := prog_12_method_14_code
def yX10_ballBound : MethodName := ⟨RX10, "ballBound", "(LThinRow$Net;)I"⟩
abbrev cX10_shrinkAway : ByteArray := prog_12_method_15_code
def yX10_shrinkAway : MethodName := ⟨RX10, "shrinkAway", "(LThinRow$Net;)I"⟩
abbrev cX10_thinnestHalf : ByteArray := prog_12_method_16_code
def yX10_thinnestHalf : MethodName := ⟨RX10, "thinnestHalf", "(LThinRow$Net;)I"⟩
def RX11 : String := "ThinRow"
def TX11 : u_T := fun k => match k with
  | 0 => ("ThinRow", "tape", "LThinRow$Bytes;", true)
  | 1 => ("ThinRow", "out", "LThinRow$Bytes;", true)
  | 2 => ("ThinRow", "reader", "LThinRow$Reader;", true)
  | 3 => ("ThinRow", "nets", "[LThinRow$Net;", true)
  | 4 => ("ThinRow", "findings", "[LThinRow$Findings;", true)
  | 5 => ("ThinRow", "setSearch", "LThinRow$SetSearch;", true)
  | 6 => ("ThinRow", "bandSearch", "LThinRow$BandSearch;", true)
  | 7 => ("ThinRow", "history", "LThinRow$History;", true)
  | 8 => ("ThinRow", "kept", "LThinRow$Net;", true)
  | _ => ("ThinRow", "trial", "LThinRow$Net;", true)
def tyX11 : Nat → FieldType := fun k => match k with
  | 0 => .object "ThinRow$Bytes"
  | 1 => .object "ThinRow$Bytes"
  | 2 => .object "ThinRow$Reader"
  | 3 => .array (.object "ThinRow$Net")
  | 4 => .array (.object "ThinRow$Findings")
  | 5 => .object "ThinRow$SetSearch"
  | 6 => .object "ThinRow$BandSearch"
  | 7 => .object "ThinRow$History"
  | 8 => .object "ThinRow$Net"
  | _ => .object "ThinRow$Net"
abbrev wsX110 : List Cond := u_ws RX11 TX11 10
theorem nmX11 : ∀ a, a < 10 → ∀ b, b < 10 → a ≠ b → (TX11 a).2.1 ≠ (TX11 b).2.1 := by decide +kernel
theorem tyX11_ok : ∀ k, k < 10 → parseFieldDescriptor (TX11 k).2.2.1 = some (tyX11 k) := by decide +kernel
abbrev cX11_init : ByteArray := prog_1_method_1_code
def yX11_init : MethodName := ⟨RX11, "<init>", "()V"⟩
abbrev cX11_feed : ByteArray := prog_1_method_2_code
def yX11_feed : MethodName := ⟨RX11, "feed", "(IIIII)I"⟩
abbrev cX11_end : ByteArray := prog_1_method_3_code
def yX11_end : MethodName := ⟨RX11, "end", "(I)I"⟩
abbrev cX11_told : ByteArray := prog_1_method_4_code
def yX11_told : MethodName := ⟨RX11, "told", "(I)I"⟩
abbrev cX11_fault : ByteArray := prog_1_method_5_code
def yX11_fault : MethodName := ⟨RX11, "fault", "(I)I"⟩
abbrev cX11_count : ByteArray := prog_1_method_6_code
def yX11_count : MethodName := ⟨RX11, "count", "(I)I"⟩
abbrev cX11_look : ByteArray := prog_1_method_7_code
def yX11_look : MethodName := ⟨RX11, "look", "(II)I"⟩
abbrev cX11_near : ByteArray := prog_1_method_8_code
def yX11_near : MethodName := ⟨RX11, "near", "(II)I"⟩
abbrev cX11_line : ByteArray := prog_1_method_9_code
def yX11_line : MethodName := ⟨RX11, "line", "(III)I"⟩
abbrev cX11_far : ByteArray := prog_1_method_10_code
def yX11_far : MethodName := ⟨RX11, "far", "(III)I"⟩
abbrev cX11_row : ByteArray := prog_1_method_11_code
def yX11_row : MethodName := ⟨RX11, "row", "(II)I"⟩
abbrev cX11_place : ByteArray := prog_1_method_12_code
def yX11_place : MethodName := ⟨RX11, "place", "(II)I"⟩
abbrev cX11_value : ByteArray := prog_1_method_13_code
def yX11_value : MethodName := ⟨RX11, "value", "(II)I"⟩
abbrev cX11_price : ByteArray := prog_1_method_14_code
def yX11_price : MethodName := ⟨RX11, "price", "(III)I"⟩
abbrev cX11_worst : ByteArray := prog_1_method_15_code
def yX11_worst : MethodName := ⟨RX11, "worst", "(II)I"⟩
abbrev cX11_longest : ByteArray := prog_1_method_16_code
def yX11_longest : MethodName := ⟨RX11, "longest", "(I)I"⟩
abbrev cX11_least : ByteArray := prog_1_method_17_code
def yX11_least : MethodName := ⟨RX11, "least", "(II)I"⟩
abbrev cX11_best : ByteArray := prog_1_method_18_code
def yX11_best : MethodName := ⟨RX11, "best", "(III)I"⟩
abbrev cX11_ways : ByteArray := prog_1_method_19_code
def yX11_ways : MethodName := ⟨RX11, "ways", "(II)I"⟩
abbrev cX11_within : ByteArray := prog_1_method_20_code
def yX11_within : MethodName := ⟨RX11, "within", "(III)I"⟩
abbrev cX11_firsts : ByteArray := prog_1_method_21_code
def yX11_firsts : MethodName := ⟨RX11, "firsts", "(II)I"⟩
abbrev cX11_bound : ByteArray := prog_1_method_22_code
def yX11_bound : MethodName := ⟨RX11, "bound", "(III)I"⟩
abbrev cX11_minor : ByteArray := prog_1_method_23_code
def yX11_minor : MethodName := ⟨RX11, "minor", "(I)I"⟩
abbrev cX11_among : ByteArray := prog_1_method_24_code
def yX11_among : MethodName := ⟨RX11, "among", "(III)I"⟩
abbrev cX11_split : ByteArray := prog_1_method_25_code
def yX11_split : MethodName := ⟨RX11, "split", "(III)I"⟩
abbrev cX11_halve : ByteArray := prog_1_method_26_code
def yX11_halve : MethodName := ⟨RX11, "halve", "(I)I"⟩
abbrev cX11_bag : ByteArray := prog_1_method_27_code
def yX11_bag : MethodName := ⟨RX11, "bag", "(III)I"⟩
abbrev cX11_filled : ByteArray := prog_1_method_28_code
def yX11_filled : MethodName := ⟨RX11, "filled", "(II)I"⟩
abbrev cX11_gain : ByteArray := prog_1_method_29_code
def yX11_gain : MethodName := ⟨RX11, "gain", "(IIII)I"⟩
abbrev cX11_swaps : ByteArray := prog_1_method_30_code
def yX11_swaps : MethodName := ⟨RX11, "swaps", "(III)I"⟩
abbrev cX11_moves : ByteArray := prog_1_method_31_code
def yX11_moves : MethodName := ⟨RX11, "moves", "(III)I"⟩
abbrev cX11_reverse : ByteArray := prog_1_method_32_code
def yX11_reverse : MethodName := ⟨RX11, "reverse", "(I)I"⟩
abbrev cX11_takes : ByteArray := prog_1_method_33_code
def yX11_takes : MethodName := ⟨RX11, "takes", "(II)I"⟩
abbrev cX11_polish : ByteArray := prog_1_method_34_code
def yX11_polish : MethodName := ⟨RX11, "polish", "(II)I"⟩
abbrev cX11_polished : ByteArray := prog_1_method_35_code
def yX11_polished : MethodName := ⟨RX11, "polished", "(II)I"⟩
abbrev cX11_greedy : ByteArray := prog_1_method_36_code
def yX11_greedy : MethodName := ⟨RX11, "greedy", "(II)I"⟩
abbrev cX11_layers : ByteArray := prog_1_method_37_code
def yX11_layers : MethodName := ⟨RX11, "layers", "(II)I"⟩
abbrev cX11_adds : ByteArray := prog_1_method_38_code
def yX11_adds : MethodName := ⟨RX11, "adds", "(IIII)I"⟩
abbrev cX11_cuts : ByteArray := prog_1_method_39_code
def yX11_cuts : MethodName := ⟨RX11, "cuts", "(III)I"⟩
abbrev cX11_merges : ByteArray := prog_1_method_40_code
def yX11_merges : MethodName := ⟨RX11, "merges", "(III)I"⟩
abbrev cX11_drops : ByteArray := prog_1_method_41_code
def yX11_drops : MethodName := ⟨RX11, "drops", "(I)I"⟩
abbrev cX11_undo : ByteArray := prog_1_method_42_code
def yX11_undo : MethodName := ⟨RX11, "undo", "()I"⟩
abbrev cX11_tell : ByteArray := prog_1_method_43_code
def yX11_tell : MethodName := ⟨RX11, "tell", "(II)I"⟩
abbrev cX11_octet : ByteArray := prog_1_method_44_code
def yX11_octet : MethodName := ⟨RX11, "octet", "(I)I"⟩
abbrev cX11_tellNet : ByteArray := prog_1_method_45_code
def yX11_tellNet : MethodName := ⟨RX11, "tellNet", "(LThinRow$Net;)V"⟩
abbrev cX11_tellLine : ByteArray := prog_1_method_46_code
def yX11_tellLine : MethodName := ⟨RX11, "tellLine", "(III)V"⟩
abbrev cX11_tellRow : ByteArray := prog_1_method_47_code
def yX11_tellRow : MethodName := ⟨RX11, "tellRow", "(LThinRow$Net;)V"⟩
abbrev cX11_tellCuts : ByteArray := prog_1_method_48_code
def yX11_tellCuts : MethodName := ⟨RX11, "tellCuts", "(LThinRow$Net;)V"⟩
abbrev cX11_isSlot : ByteArray := prog_1_method_49_code
def yX11_isSlot : MethodName := ⟨RX11, "isSlot", "(I)Z"⟩
abbrev cX11_isMeasure : ByteArray := prog_1_method_50_code
def yX11_isMeasure : MethodName := ⟨RX11, "isMeasure", "(I)Z"⟩
abbrev cX11_isPriced : ByteArray := prog_1_method_51_code
def yX11_isPriced : MethodName := ⟨RX11, "isPriced", "(I)Z"⟩
abbrev cX11_isBounded : ByteArray := prog_1_method_52_code
def yX11_isBounded : MethodName := ⟨RX11, "isBounded", "(I)Z"⟩
abbrev cX11_netIn : ByteArray := prog_1_method_53_code
def yX11_netIn : MethodName := ⟨RX11, "netIn", "(I)LThinRow$Net;"⟩
abbrev cX11_filledSlots : ByteArray := prog_1_method_54_code
def yX11_filledSlots : MethodName := ⟨RX11, "filledSlots", "()I"⟩
abbrev cX11_noteAct : ByteArray := prog_1_method_55_code
def yX11_noteAct : MethodName := ⟨RX11, "noteAct", "(I)V"⟩
abbrev cX11_findingOf : ByteArray := prog_1_method_56_code
def yX11_findingOf : MethodName := ⟨RX11, "findingOf", "(II)LThinRow$Finding;"⟩
def RX12 : String := "ThinRowModel"
def TX12 : u_T := fun k => match k with
  | 0 => ("ThinRowModel", "state", "[I", true)
  | 1 => ("ThinRowModel", "was", "[I", true)
  | 2 => ("ThinRowModel", "kept", "[I", true)
  | 3 => ("ThinRowModel", "keptMany", "I", false)
  | 4 => ("ThinRowModel", "tape", "[I", true)
  | 5 => ("ThinRowModel", "taped", "I", false)
  | 6 => ("ThinRowModel", "faultKind", "I", false)
  | 7 => ("ThinRowModel", "faultPlace", "I", false)
  | 8 => ("ThinRowModel", "spot", "I", false)
  | 9 => ("ThinRowModel", "begin", "I", false)
  | 10 => ("ThinRowModel", "token", "I", false)
  | 11 => ("ThinRowModel", "value", "I", false)
  | 12 => ("ThinRowModel", "bad", "Z", false)
  | 13 => ("ThinRowModel", "order", "[I", true)
  | 14 => ("ThinRowModel", "rest", "[I", true)
  | 15 => ("ThinRowModel", "ways", "[I", true)
  | 16 => ("ThinRowModel", "costs", "[I", true)
  | 17 => ("ThinRowModel", "full", "I", false)
  | 18 => ("ThinRowModel", "bandRows", "I", false)
  | 19 => ("ThinRowModel", "bandFirsts", "I", false)
  | 20 => ("ThinRowModel", "bandBest", "[I", true)
  | 21 => ("ThinRowModel", "found", "[I", true)
  | 22 => ("ThinRowModel", "drawn", "[I", true)
  | 23 => ("ThinRowModel", "joined", "[I", true)
  | 24 => ("ThinRowModel", "out", "[I", true)
  | _ => ("ThinRowModel", "outs", "I", false)
def tyX12 : Nat → FieldType := fun k => match k with
  | 0 => .array .int
  | 1 => .array .int
  | 2 => .array .int
  | 3 => .int
  | 4 => .array .int
  | 5 => .int
  | 6 => .int
  | 7 => .int
  | 8 => .int
  | 9 => .int
  | 10 => .int
  | 11 => .int
  | 12 => .boolean
  | 13 => .array .int
  | 14 => .array .int
  | 15 => .array .int
  | 16 => .array .int
  | 17 => .int
  | 18 => .int
  | 19 => .int
  | 20 => .array .int
  | 21 => .array .int
  | 22 => .array .int
  | 23 => .array .int
  | 24 => .array .int
  | _ => .int
abbrev wsX120 : List Cond := u_ws RX12 TX12 26
theorem nmX12 : ∀ a, a < 26 → ∀ b, b < 26 → a ≠ b → (TX12 a).2.1 ≠ (TX12 b).2.1 := by decide +kernel
theorem tyX12_ok : ∀ k, k < 26 → parseFieldDescriptor (TX12 k).2.2.1 = some (tyX12 k) := by decide +kernel
abbrev cX12_in : ByteArray := prog_14_method_1_code
def yX12_in : MethodName := ⟨RX12, "in", "(JJJ)Z"⟩
abbrev cX12_has : ByteArray := prog_14_method_2_code
def yX12_has : MethodName := ⟨RX12, "has", "(II)Z"⟩
abbrev cX12_ones : ByteArray := prog_14_method_3_code
def yX12_ones : MethodName := ⟨RX12, "ones", "(I)I"⟩
abbrev cX12_init : ByteArray := prog_14_method_4_code
def yX12_init : MethodName := ⟨RX12, "<init>", "()V"⟩
abbrev cX12_isSlot : ByteArray := prog_14_method_5_code
def yX12_isSlot : MethodName := ⟨RX12, "isSlot", "(I)Z"⟩
abbrev cX12_points : ByteArray := prog_14_method_6_code
def yX12_points : MethodName := ⟨RX12, "points", "(I)I"⟩
abbrev cX12_isNet : ByteArray := prog_14_method_7_code
def yX12_isNet : MethodName := ⟨RX12, "isNet", "(I)Z"⟩
abbrev cX12_isPoint : ByteArray := prog_14_method_8_code
def yX12_isPoint : MethodName := ⟨RX12, "isPoint", "(II)Z"⟩
abbrev cX12_areTwo : ByteArray := prog_14_method_9_code
def yX12_areTwo : MethodName := ⟨RX12, "areTwo", "(III)Z"⟩
abbrev cX12_isMeasure : ByteArray := prog_14_method_10_code
def yX12_isMeasure : MethodName := ⟨RX12, "isMeasure", "(I)Z"⟩
abbrev cX12_weight : ByteArray := prog_14_method_11_code
def yX12_weight : MethodName := ⟨RX12, "weight", "(III)I"⟩
abbrev cX12_weighs : ByteArray := prog_14_method_12_code
def yX12_weighs : MethodName := ⟨RX12, "weighs", "(IIII)V"⟩
abbrev cX12_at : ByteArray := prog_14_method_13_code
def yX12_at : MethodName := ⟨RX12, "at", "(II)I"⟩
abbrev cX12_puts : ByteArray := prog_14_method_14_code
def yX12_puts : MethodName := ⟨RX12, "puts", "(III)V"⟩
abbrev cX12_nearOf : ByteArray := prog_14_method_15_code
def yX12_nearOf : MethodName := ⟨RX12, "nearOf", "(II)I"⟩
abbrev cX12_lines : ByteArray := prog_14_method_16_code
def yX12_lines : MethodName := ⟨RX12, "lines", "(I)I"⟩
abbrev cX12_remembers : ByteArray := prog_14_method_17_code
def yX12_remembers : MethodName := ⟨RX12, "remembers", "()V"⟩
abbrev cX12_keeps : ByteArray := prog_14_method_18_code
def yX12_keeps : MethodName := ⟨RX12, "keeps", "(I)I"⟩
abbrev cX12_done : ByteArray := prog_14_method_19_code
def yX12_done : MethodName := ⟨RX12, "done", "(I)I"⟩
abbrev cX12_undo : ByteArray := prog_14_method_20_code
def yX12_undo : MethodName := ⟨RX12, "undo", "()I"⟩
abbrev cX12_empties : ByteArray := prog_14_method_21_code
def yX12_empties : MethodName := ⟨RX12, "empties", "(I)V"⟩
abbrev cX12_drops : ByteArray := prog_14_method_22_code
def yX12_drops : MethodName := ⟨RX12, "drops", "(I)I"⟩
abbrev cX12_feed : ByteArray := prog_14_method_23_code
def yX12_feed : MethodName := ⟨RX12, "feed", "(IIIII)I"⟩
abbrev cX12_end : ByteArray := prog_14_method_24_code
def yX12_end : MethodName := ⟨RX12, "end", "(I)I"⟩
abbrev cX12_isAt : ByteArray := prog_14_method_25_code
def yX12_isAt : MethodName := ⟨RX12, "isAt", "(II)Z"⟩
abbrev cX12_next : ByteArray := prog_14_method_26_code
def yX12_next : MethodName := ⟨RX12, "next", "()V"⟩
abbrev cX12_faults : ByteArray := prog_14_method_27_code
def yX12_faults : MethodName := ⟨RX12, "faults", "(I)V"⟩
abbrev cX12_passes : ByteArray := prog_14_method_28_code
def yX12_passes : MethodName := ⟨RX12, "passes", "()V"⟩
abbrev cX12_isWord : ByteArray := prog_14_method_29_code
def yX12_isWord : MethodName := ⟨RX12, "isWord", "(Ljava/lang/String;)Z"⟩
abbrev cX12_must : ByteArray := prog_14_method_30_code
def yX12_must : MethodName := ⟨RX12, "must", "(Z)V"⟩
abbrev cX12_isSign : ByteArray := prog_14_method_31_code
def yX12_isSign : MethodName := ⟨RX12, "isSign", "(I)Z"⟩
abbrev cX12_here : ByteArray := prog_14_method_32_code
def yX12_here : MethodName := ⟨RX12, "here", "(II)I"⟩
abbrev cX12_readsLine : ByteArray := prog_14_method_33_code
def yX12_readsLine : MethodName := ⟨RX12, "readsLine", "(I)V"⟩
abbrev cX12_readsRow : ByteArray := prog_14_method_34_code
def yX12_readsRow : MethodName := ⟨RX12, "readsRow", "(I)V"⟩
abbrev cX12_readsNet : ByteArray := prog_14_method_35_code
def yX12_readsNet : MethodName := ⟨RX12, "readsNet", "(I)V"⟩
abbrev cX12_told : ByteArray := prog_14_method_36_code
def yX12_told : MethodName := ⟨RX12, "told", "(I)I"⟩
abbrev cX12_fault : ByteArray := prog_14_method_37_code
def yX12_fault : MethodName := ⟨RX12, "fault", "(I)I"⟩
abbrev cX12_count : ByteArray := prog_14_method_38_code
def yX12_count : MethodName := ⟨RX12, "count", "(I)I"⟩
abbrev cX12_farOf : ByteArray := prog_14_method_39_code
def yX12_farOf : MethodName := ⟨RX12, "farOf", "(III)I"⟩
abbrev cX12_parts : ByteArray := prog_14_method_40_code
def yX12_parts : MethodName := ⟨RX12, "parts", "(I)I"⟩
abbrev cX12_diameter : ByteArray := prog_14_method_41_code
def yX12_diameter : MethodName := ⟨RX12, "diameter", "(I)I"⟩
abbrev cX12_degree : ByteArray := prog_14_method_42_code
def yX12_degree : MethodName := ⟨RX12, "degree", "(I)I"⟩
abbrev cX12_core : ByteArray := prog_14_method_43_code
def yX12_core : MethodName := ⟨RX12, "core", "(I)I"⟩
abbrev cX12_weightOf : ByteArray := prog_14_method_44_code
def yX12_weightOf : MethodName := ⟨RX12, "weightOf", "(II)I"⟩
abbrev cX12_look : ByteArray := prog_14_method_45_code
def yX12_look : MethodName := ⟨RX12, "look", "(II)I"⟩
abbrev cX12_near : ByteArray := prog_14_method_46_code
def yX12_near : MethodName := ⟨RX12, "near", "(II)I"⟩
abbrev cX12_line : ByteArray := prog_14_method_47_code
def yX12_line : MethodName := ⟨RX12, "line", "(III)I"⟩
abbrev cX12_far : ByteArray := prog_14_method_48_code
def yX12_far : MethodName := ⟨RX12, "far", "(III)I"⟩
abbrev cX12_row : ByteArray := prog_14_method_49_code
def yX12_row : MethodName := ⟨RX12, "row", "(II)I"⟩
abbrev cX12_placeOf : ByteArray := prog_14_method_50_code
def yX12_placeOf : MethodName := ⟨RX12, "placeOf", "(II)I"⟩
abbrev cX12_place : ByteArray := prog_14_method_51_code
def yX12_place : MethodName := ⟨RX12, "place", "(II)I"⟩
abbrev cX12_splitOf : ByteArray := prog_14_method_52_code
def yX12_splitOf : MethodName := ⟨RX12, "splitOf", "(III)I"⟩
abbrev cX12_neighbours : ByteArray := prog_14_method_53_code
def yX12_neighbours : MethodName := ⟨RX12, "neighbours", "(III)I"⟩
abbrev cX12_fillOf : ByteArray := prog_14_method_54_code
def yX12_fillOf : MethodName := ⟨RX12, "fillOf", "(III)I"⟩
abbrev cX12_isTakenOut : ByteArray := prog_14_method_55_code
def yX12_isTakenOut : MethodName := ⟨RX12, "isTakenOut", "(I)Z"⟩
abbrev cX12_isGreatest : ByteArray := prog_14_method_56_code
def yX12_isGreatest : MethodName := ⟨RX12, "isGreatest", "(I)Z"⟩
abbrev cX12_cost : ByteArray := prog_14_method_57_code
def yX12_cost : MethodName := ⟨RX12, "cost", "(IIII)I"⟩
abbrev cX12_both : ByteArray := prog_14_method_58_code
def yX12_both : MethodName := ⟨RX12, "both", "(III)I"⟩
abbrev cX12_laysRow : ByteArray := prog_14_method_59_code
def yX12_laysRow : MethodName := ⟨RX12, "laysRow", "(I)V"⟩
abbrev cX12_bandOf : ByteArray := prog_14_method_60_code
def yX12_bandOf : MethodName := ⟨RX12, "bandOf", "(I)I"⟩
abbrev cX12_valueOf : ByteArray := prog_14_method_61_code
def yX12_valueOf : MethodName := ⟨RX12, "valueOf", "(II)I"⟩
abbrev cX12_value : ByteArray := prog_14_method_62_code
def yX12_value : MethodName := ⟨RX12, "value", "(II)I"⟩
abbrev cX12_aheadOf : ByteArray := prog_14_method_63_code
def yX12_aheadOf : MethodName := ⟨RX12, "aheadOf", "(II)I"⟩
abbrev cX12_priceOf : ByteArray := prog_14_method_64_code
def yX12_priceOf : MethodName := ⟨RX12, "priceOf", "(III)I"⟩
abbrev cX12_price : ByteArray := prog_14_method_65_code
def yX12_price : MethodName := ⟨RX12, "price", "(III)I"⟩
abbrev cX12_worst : ByteArray := prog_14_method_66_code
def yX12_worst : MethodName := ⟨RX12, "worst", "(II)I"⟩
abbrev cX12_longest : ByteArray := prog_14_method_67_code
def yX12_longest : MethodName := ⟨RX12, "longest", "(I)I"⟩
abbrev cX12_laysCosts : ByteArray := prog_14_method_68_code
def yX12_laysCosts : MethodName := ⟨RX12, "laysCosts", "(II)V"⟩
abbrev cX12_laysRest : ByteArray := prog_14_method_69_code
def yX12_laysRest : MethodName := ⟨RX12, "laysRest", "(II)V"⟩
abbrev cX12_laysLeast : ByteArray := prog_14_method_70_code
def yX12_laysLeast : MethodName := ⟨RX12, "laysLeast", "(II)V"⟩
abbrev cX12_rowsWithin : ByteArray := prog_14_method_71_code
def yX12_rowsWithin : MethodName := ⟨RX12, "rowsWithin", "(II)I"⟩
abbrev cX12_rowsOfLeast : ByteArray := prog_14_method_72_code
def yX12_rowsOfLeast : MethodName := ⟨RX12, "rowsOfLeast", "(I)I"⟩
abbrev cX12_keepsLeast : ByteArray := prog_14_method_73_code
def yX12_keepsLeast : MethodName := ⟨RX12, "keepsLeast", "(IIII)Z"⟩
abbrev cX12_least : ByteArray := prog_14_method_74_code
def yX12_least : MethodName := ⟨RX12, "least", "(II)I"⟩
abbrev cX12_goesBand : ByteArray := prog_14_method_75_code
def yX12_goesBand : MethodName := ⟨RX12, "goesBand", "(IIIIZ)Z"⟩
abbrev cX12_rowsOfBand : ByteArray := prog_14_method_76_code
def yX12_rowsOfBand : MethodName := ⟨RX12, "rowsOfBand", "(IIZ)I"⟩
abbrev cX12_leastBand : ByteArray := prog_14_method_77_code
def yX12_leastBand : MethodName := ⟨RX12, "leastBand", "(I)I"⟩
abbrev cX12_laysBest : ByteArray := prog_14_method_78_code
def yX12_laysBest : MethodName := ⟨RX12, "laysBest", "(II)V"⟩
abbrev cX12_best : ByteArray := prog_14_method_79_code
def yX12_best : MethodName := ⟨RX12, "best", "(III)I"⟩
abbrev cX12_ways : ByteArray := prog_14_method_80_code
def yX12_ways : MethodName := ⟨RX12, "ways", "(II)I"⟩
abbrev cX12_within : ByteArray := prog_14_method_81_code
def yX12_within : MethodName := ⟨RX12, "within", "(III)I"⟩
abbrev cX12_firsts : ByteArray := prog_14_method_82_code
def yX12_firsts : MethodName := ⟨RX12, "firsts", "(II)I"⟩
abbrev cX12_among : ByteArray := prog_14_method_83_code
def yX12_among : MethodName := ⟨RX12, "among", "(III)I"⟩
abbrev cX12_balls : ByteArray := prog_14_method_84_code
def yX12_balls : MethodName := ⟨RX12, "balls", "(I)I"⟩
abbrev cX12_bound : ByteArray := prog_14_method_85_code
def yX12_bound : MethodName := ⟨RX12, "bound", "(III)I"⟩
abbrev cX12_fewestOf : ByteArray := prog_14_method_86_code
def yX12_fewestOf : MethodName := ⟨RX12, "fewestOf", "(I)I"⟩
abbrev cX12_minor : ByteArray := prog_14_method_87_code
def yX12_minor : MethodName := ⟨RX12, "minor", "(I)I"⟩
abbrev cX12_split : ByteArray := prog_14_method_88_code
def yX12_split : MethodName := ⟨RX12, "split", "(III)I"⟩
abbrev cX12_halve : ByteArray := prog_14_method_89_code
def yX12_halve : MethodName := ⟨RX12, "halve", "(I)I"⟩
abbrev cX12_bag : ByteArray := prog_14_method_90_code
def yX12_bag : MethodName := ⟨RX12, "bag", "(III)I"⟩
abbrev cX12_filled : ByteArray := prog_14_method_91_code
def yX12_filled : MethodName := ⟨RX12, "filled", "(II)I"⟩
abbrev cX12_exchanges : ByteArray := prog_14_method_92_code
def yX12_exchanges : MethodName := ⟨RX12, "exchanges", "(II)V"⟩
abbrev cX12_gain : ByteArray := prog_14_method_93_code
def yX12_gain : MethodName := ⟨RX12, "gain", "(IIII)I"⟩
abbrev cX12_takesRow : ByteArray := prog_14_method_94_code
def yX12_takesRow : MethodName := ⟨RX12, "takesRow", "(I)I"⟩
abbrev cX12_swaps : ByteArray := prog_14_method_95_code
def yX12_swaps : MethodName := ⟨RX12, "swaps", "(III)I"⟩
abbrev cX12_moves : ByteArray := prog_14_method_96_code
def yX12_moves : MethodName := ⟨RX12, "moves", "(III)I"⟩
abbrev cX12_reverse : ByteArray := prog_14_method_97_code
def yX12_reverse : MethodName := ⟨RX12, "reverse", "(I)I"⟩
abbrev cX12_takes : ByteArray := prog_14_method_98_code
def yX12_takes : MethodName := ⟨RX12, "takes", "(II)I"⟩
abbrev cX12_polishes : ByteArray := prog_14_method_99_code
def yX12_polishes : MethodName := ⟨RX12, "polishes", "(II)I"⟩
abbrev cX12_polish : ByteArray := prog_14_method_100_code
def yX12_polish : MethodName := ⟨RX12, "polish", "(II)I"⟩
abbrev cX12_polished : ByteArray := prog_14_method_101_code
def yX12_polished : MethodName := ⟨RX12, "polished", "(II)I"⟩
abbrev cX12_greedy : ByteArray := prog_14_method_102_code
def yX12_greedy : MethodName := ⟨RX12, "greedy", "(II)I"⟩
abbrev cX12_layers : ByteArray := prog_14_method_103_code
def yX12_layers : MethodName := ⟨RX12, "layers", "(II)I"⟩
abbrev cX12_adds : ByteArray := prog_14_method_104_code
def yX12_adds : MethodName := ⟨RX12, "adds", "(IIII)I"⟩
abbrev cX12_cuts : ByteArray := prog_14_method_105_code
def yX12_cuts : MethodName := ⟨RX12, "cuts", "(III)I"⟩
abbrev cX12_merges : ByteArray := prog_14_method_106_code
def yX12_merges : MethodName := ⟨RX12, "merges", "(III)I"⟩
abbrev cX12_says : ByteArray := prog_14_method_107_code
def yX12_says : MethodName := ⟨RX12, "says", "(Ljava/lang/String;)V"⟩
abbrev cX12_saysNumber : ByteArray := prog_14_method_108_code
def yX12_saysNumber : MethodName := ⟨RX12, "saysNumber", "(I)V"⟩
abbrev cX12_saysNet : ByteArray := prog_14_method_109_code
def yX12_saysNet : MethodName := ⟨RX12, "saysNet", "(I)V"⟩
abbrev cX12_tell : ByteArray := prog_14_method_110_code
def yX12_tell : MethodName := ⟨RX12, "tell", "(II)I"⟩
abbrev cX12_octet : ByteArray := prog_14_method_111_code
def yX12_octet : MethodName := ⟨RX12, "octet", "(I)I"⟩
def RJx145de : String := "java/io/Serializable"
def TJx145de : u_T := fun k => match k with
  | _ => ("", "", "", false)
def tyJx145de : Nat → FieldType := fun k => match k with
  | _ => .int
abbrev wsJx145de0 : List Cond := u_ws RJx145de TJx145de 0
theorem nmJx145de : ∀ a, a < 0 → ∀ b, b < 0 → a ≠ b → (TJx145de a).2.1 ≠ (TJx145de b).2.1 := by decide +kernel
theorem tyJx145de_ok : ∀ k, k < 0 → parseFieldDescriptor (TJx145de k).2.2.1 = some (tyJx145de k) := by decide +kernel
def RJx9f9b0 : String := "java/lang/CharSequence"
def TJx9f9b0 : u_T := fun k => match k with
  | _ => ("", "", "", false)
def tyJx9f9b0 : Nat → FieldType := fun k => match k with
  | _ => .int
abbrev wsJx9f9b00 : List Cond := u_ws RJx9f9b0 TJx9f9b0 0
theorem nmJx9f9b0 : ∀ a, a < 0 → ∀ b, b < 0 → a ≠ b → (TJx9f9b0 a).2.1 ≠ (TJx9f9b0 b).2.1 := by decide +kernel
theorem tyJx9f9b0_ok : ∀ k, k < 0 → parseFieldDescriptor (TJx9f9b0 k).2.2.1 = some (tyJx9f9b0 k) := by decide +kernel
def RJxb160c : String := "java/lang/Comparable"
def TJxb160c : u_T := fun k => match k with
  | _ => ("", "", "", false)
def tyJxb160c : Nat → FieldType := fun k => match k with
  | _ => .int
abbrev wsJxb160c0 : List Cond := u_ws RJxb160c TJxb160c 0
theorem nmJxb160c : ∀ a, a < 0 → ∀ b, b < 0 → a ≠ b → (TJxb160c a).2.1 ≠ (TJxb160c b).2.1 := by decide +kernel
theorem tyJxb160c_ok : ∀ k, k < 0 → parseFieldDescriptor (TJxb160c k).2.2.1 = some (tyJxb160c k) := by decide +kernel
def RJ6 : String := "java/lang/Integer"
def TJ6 : u_T := fun k => match k with
  | _ => ("", "", "", false)
def tyJ6 : Nat → FieldType := fun k => match k with
  | _ => .int
abbrev wsJ60 : List Cond := u_ws RJ6 TJ6 0
theorem nmJ6 : ∀ a, a < 0 → ∀ b, b < 0 → a ≠ b → (TJ6 a).2.1 ≠ (TJ6 b).2.1 := by decide +kernel
theorem tyJ6_ok : ∀ k, k < 0 → parseFieldDescriptor (TJ6 k).2.2.1 = some (tyJ6 k) := by decide +kernel
abbrev cJ6_bitCount_0f7a4 : ByteArray := prog_15_method_49_code
def yJ6_bitCount_0f7a4 : MethodName := ⟨RJ6, "bitCount", "(I)I"⟩
def RJ9 : String := "java/lang/Math"
def TJ9 : u_T := fun k => match k with
  | _ => ("", "", "", false)
def tyJ9 : Nat → FieldType := fun k => match k with
  | _ => .int
abbrev wsJ90 : List Cond := u_ws RJ9 TJ9 0
theorem nmJ9 : ∀ a, a < 0 → ∀ b, b < 0 → a ≠ b → (TJ9 a).2.1 ≠ (TJ9 b).2.1 := by decide +kernel
theorem tyJ9_ok : ∀ k, k < 0 → parseFieldDescriptor (TJ9 k).2.2.1 = some (tyJ9 k) := by decide +kernel
abbrev cJ9_abs_0f7a4 : ByteArray := prog_16_method_59_code
def yJ9_abs_0f7a4 : MethodName := ⟨RJ9, "abs", "(I)I"⟩
abbrev cJ9_max_7cf53 : ByteArray := prog_16_method_65_code
def yJ9_max_7cf53 : MethodName := ⟨RJ9, "max", "(II)I"⟩
abbrev cJ9_min_7cf53 : ByteArray := prog_16_method_69_code
def yJ9_min_7cf53 : MethodName := ⟨RJ9, "min", "(II)I"⟩
def RJ0 : String := "java/lang/String"
def TJ0 : u_T := fun k => match k with
  | _ => ("", "", "", false)
def tyJ0 : Nat → FieldType := fun k => match k with
  | _ => .int
abbrev wsJ00 : List Cond := u_ws RJ0 TJ0 0
theorem nmJ0 : ∀ a, a < 0 → ∀ b, b < 0 → a ≠ b → (TJ0 a).2.1 ≠ (TJ0 b).2.1 := by decide +kernel
theorem tyJ0_ok : ∀ k, k < 0 → parseFieldDescriptor (TJ0 k).2.2.1 = some (tyJ0 k) := by decide +kernel
abbrev cJ0_length_8abf5 : ByteArray := prog_17_method_54_code
def yJ0_length_8abf5 : MethodName := ⟨RJ0, "length", "()I"⟩
abbrev cJ0_charAt_5068e : ByteArray := prog_17_method_56_code
def yJ0_charAt_5068e : MethodName := ⟨RJ0, "charAt", "(I)C"⟩
abbrev cJ0_coder_7d493 : ByteArray := prog_17_method_152_code
def yJ0_coder_7d493 : MethodName := ⟨RJ0, "coder", "()B"⟩
abbrev cJ0_isLatin1_aae02 : ByteArray := prog_17_method_154_code
def yJ0_isLatin1_aae02 : MethodName := ⟨RJ0, "isLatin1", "()Z"⟩
abbrev cJ0_checkIndex_df160 : ByteArray := prog_17_method_155_code
def yJ0_checkIndex_df160 : MethodName := ⟨RJ0, "checkIndex", "(II)V"⟩
def RJ1 : String := "java/lang/StringLatin1"
def TJ1 : u_T := fun k => match k with
  | _ => ("", "", "", false)
def tyJ1 : Nat → FieldType := fun k => match k with
  | _ => .int
abbrev wsJ10 : List Cond := u_ws RJ1 TJ1 0
theorem nmJ1 : ∀ a, a < 0 → ∀ b, b < 0 → a ≠ b → (TJ1 a).2.1 ≠ (TJ1 b).2.1 := by decide +kernel
theorem tyJ1_ok : ∀ k, k < 0 → parseFieldDescriptor (TJ1 k).2.2.1 = some (tyJ1 k) := by decide +kernel
abbrev cJ1_charAt_3b067 : ByteArray := prog_18_method_2_code
def yJ1_charAt_3b067 : MethodName := ⟨RJ1, "charAt", "([BI)C"⟩
def RJ2 : String := "java/lang/StringUTF16"
def TJ2 : u_T := fun k => match k with
  | _ => ("", "", "", false)
def tyJ2 : Nat → FieldType := fun k => match k with
  | _ => .int
abbrev wsJ20 : List Cond := u_ws RJ2 TJ2 0
theorem nmJ2 : ∀ a, a < 0 → ∀ b, b < 0 → a ≠ b → (TJ2 a).2.1 ≠ (TJ2 b).2.1 := by decide +kernel
theorem tyJ2_ok : ∀ k, k < 0 → parseFieldDescriptor (TJ2 k).2.2.1 = some (tyJ2 k) := by decide +kernel
abbrev cJ2_getChar_3b067 : ByteArray := prog_19_method_5_code
def yJ2_getChar_3b067 : MethodName := ⟨RJ2, "getChar", "([BI)C"⟩
abbrev cJ2_length_9d52b : ByteArray := prog_19_method_6_code
def yJ2_length_9d52b : MethodName := ⟨RJ2, "length", "([B)I"⟩
abbrev cJ2_charAt_3b067 : ByteArray := prog_19_method_83_code
def yJ2_charAt_3b067 : MethodName := ⟨RJ2, "charAt", "([BI)C"⟩
abbrev cJ2_checkIndex_2214a : ByteArray := prog_19_method_91_code
def yJ2_checkIndex_2214a : MethodName := ⟨RJ2, "checkIndex", "(I[B)V"⟩
def RJ10 : String := "java/lang/System"
def TJ10 : u_T := fun k => match k with
  | _ => ("", "", "", false)
def tyJ10 : Nat → FieldType := fun k => match k with
  | _ => .int
abbrev wsJ100 : List Cond := u_ws RJ10 TJ10 0
theorem nmJ10 : ∀ a, a < 0 → ∀ b, b < 0 → a ≠ b → (TJ10 a).2.1 ≠ (TJ10 b).2.1 := by decide +kernel
theorem tyJ10_ok : ∀ k, k < 0 → parseFieldDescriptor (TJ10 k).2.2.1 = some (tyJ10 k) := by decide +kernel
def RJxfd54e : String := "java/lang/constant/Constable"
def TJxfd54e : u_T := fun k => match k with
  | _ => ("", "", "", false)
def tyJxfd54e : Nat → FieldType := fun k => match k with
  | _ => .int
abbrev wsJxfd54e0 : List Cond := u_ws RJxfd54e TJxfd54e 0
theorem nmJxfd54e : ∀ a, a < 0 → ∀ b, b < 0 → a ≠ b → (TJxfd54e a).2.1 ≠ (TJxfd54e b).2.1 := by decide +kernel
theorem tyJxfd54e_ok : ∀ k, k < 0 → parseFieldDescriptor (TJxfd54e k).2.2.1 = some (tyJxfd54e k) := by decide +kernel
def RJx3cf43 : String := "java/lang/constant/ConstantDesc"
def TJx3cf43 : u_T := fun k => match k with
  | _ => ("", "", "", false)
def tyJx3cf43 : Nat → FieldType := fun k => match k with
  | _ => .int
abbrev wsJx3cf430 : List Cond := u_ws RJx3cf43 TJx3cf43 0
theorem nmJx3cf43 : ∀ a, a < 0 → ∀ b, b < 0 → a ≠ b → (TJx3cf43 a).2.1 ≠ (TJx3cf43 b).2.1 := by decide +kernel
theorem tyJx3cf43_ok : ∀ k, k < 0 → parseFieldDescriptor (TJx3cf43 k).2.2.1 = some (tyJx3cf43 k) := by decide +kernel
def RJ7 : String := "java/util/Arrays"
def TJ7 : u_T := fun k => match k with
  | _ => ("", "", "", false)
def tyJ7 : Nat → FieldType := fun k => match k with
  | _ => .int
abbrev wsJ70 : List Cond := u_ws RJ7 TJ7 0
theorem nmJ7 : ∀ a, a < 0 → ∀ b, b < 0 → a ≠ b → (TJ7 a).2.1 ≠ (TJ7 b).2.1 := by decide +kernel
theorem tyJ7_ok : ∀ k, k < 0 → parseFieldDescriptor (TJ7 k).2.2.1 = some (tyJ7 k) := by decide +kernel
abbrev cJ7_fill_53178 : ByteArray := prog_21_method_103_code
def yJ7_fill_53178 : MethodName := ⟨RJ7, "fill", "([II)V"⟩
def RJ3 : String := "jdk/internal/util/Preconditions"
def TJ3 : u_T := fun k => match k with
  | _ => ("", "", "", false)
def tyJ3 : Nat → FieldType := fun k => match k with
  | _ => .int
abbrev wsJ30 : List Cond := u_ws RJ3 TJ3 0
theorem nmJ3 : ∀ a, a < 0 → ∀ b, b < 0 → a ≠ b → (TJ3 a).2.1 ≠ (TJ3 b).2.1 := by decide +kernel
theorem tyJ3_ok : ∀ k, k < 0 → parseFieldDescriptor (TJ3 k).2.2.1 = some (tyJ3 k) := by decide +kernel
abbrev cJ3_checkIndex_8e157 : ByteArray := prog_22_method_11_code
def yJ3_checkIndex_8e157 : MethodName := ⟨RJ3, "checkIndex", "(IILjava/util/function/BiFunction;)I"⟩
def RL : String := "ThinRowLaw"
abbrev cL_law : ByteArray := code
def yL_law : MethodName := ⟨RL, "law", "([I)Z"⟩
end
section
/-! A second layer over the kit's rows: a memory that is a list of cells (place i stands at the address base + i), one judgement xW for a method's body, one contract xC for a call. -/
/-- the classes of which objects are made; their numbers -/
def xcls : List vw_C := [(RX0, TX0, 4), (RX1, TX1, 2), (RX2, TX2, 5), (RX3, TX3, 2), (RX4, TX4, 4), (RX5, TX5, 5), (RX7, TX7, 8), (RX9, TX9, 5), (RX11, TX11, 10), (RX12, TX12, 26)]
/-- launch, (classes, slots), classes of arrays, base, the heap at the start, addresses of what lies there (strings, from 100 on their bytes, 200: the script), the script's length and ints -/
abbrev xG : Type := Launch × va_G × (Nat → ClassId) × Nat × Heap × (Nat → Nat) × Nat × (Nat → Int32)
/-- a method: name, bytes, locals, type of the answer -/
abbrev xM : Type := MethodName × ByteArray × Nat × Option FieldType
abbrev xMem : Type := List va_E
def xWall : List Cond := lw_tbl.filter goodWord
theorem xw {w : Cond} (i : Nat) (h : lw_tbl[i]? = some w) (g : goodWord w = true) : w ∈ xWall := List.mem_filter.mpr ⟨List.mem_of_getElem? h, g⟩
theorem xWall_good {w : Cond} (h : w ∈ xWall) : goodWord w = true := (List.mem_filter.mp h).2
def xcv (G : xG) : Value → Value
  | .ref i => .ref (G.2.2.2.1 + i)
  | .float w => .ref (G.2.2.2.2.2.1 w.toNat)
  | v => v
theorem xcv_cat (G : xG) (v : Value) : (xcv G v).category = v.category := by cases v <;> rfl
def xcs (G : xG) (st : List Value) : List Value := st.map (xcv G)
def xcl (G : xG) (lv : List (Nat × Value)) : List (Nat × Value) := lv.map (fun q => (q.1, xcv G q.2))
def xce (G : xG) : va_E → va_E
  | .inl (t, n, .inr (.inr (.inr (.inr f)))) => .inl (G.2.2.1 t, n, .inr (.inr (.inr (.inr (fun j => (f j).map (fun i => G.2.2.2.1 + i))))))
  | .inl (t, n, .inl f) => .inl (G.2.2.1 t, n, .inl f)
  | .inl (t, n, x) => .inl (G.2.2.1 t, n, x)
  | .inr (ci, fs) => .inr (ci, fs.map (xcv G))
/-- the kinds of arrays -/
def xtys (G : xG) : List (ClassId × FieldType) := [(G.2.2.1 0, .int), (G.2.2.1 1, .byte), (G.2.2.1 2, .object RX5), (G.2.2.1 3, .object RX3), (G.2.2.1 4, .object RX2)]
def xR (G : xG) (M : xMem) (H : Heap) : Prop := H.size = G.2.2.2.1 + M.length ∧ (∀ (i : Nat) (c : va_E), M[i]? = some c → va_at G.2.1 xcls (G.2.2.2.1 + i, xce G c) H) ∧ ∀ q : Nat, q < G.2.2.2.1 → H[q]? = G.2.2.2.2.1[q]?
/-- words that hold at every state, but aren't kept as the others are: nest mates, arrays of objects -/
def xnest : List Cond := lw_tbl.filter (fun w => match w with | .methodLinkNest .. => true | _ => false)
def xaos : List String := [RX5, RX3, RX2]
/-- the strings: class, entry, text, number, bytes -/
def xstr : List (String × Nat × String × Nat × List Int32) := [(RX7, 45, "net", 0, [110, 101, 116]), (RX7, 96, "row", 1, [114, 111, 119]), (RX12, 173, "net", 4, [110, 101, 116]), (RX12, 182, "row", 5, [114, 111, 119])]
def xold (G : xG) : Nat → Prop := fun q => G.2.2.2.1 ≤ q
def xS (G : xG) (s : State) : Prop := (∀ q ∈ xstr, vk_R q.1 q.2.1 q.2.2.1 (G.2.2.2.2.2.1 q.2.2.2.1) s ∧ va_O "java/lang/String" (G.2.2.2.2.2.1 q.2.2.2.1) (xold G) s G.2.2.2.2.1 ∧ va_OF "java/lang/String" "coder" "B" (.int 0) (G.2.2.2.2.2.1 q.2.2.2.1) (xold G) s G.2.2.2.2.1 ∧ va_OF "java/lang/String" "value" "[B" (.ref (G.2.2.2.2.2.1 (100 + q.2.2.2.1))) (G.2.2.2.2.2.1 q.2.2.2.1) (xold G) s G.2.2.2.2.1 ∧ va_T .byte (G.2.2.2.2.2.1 (100 + q.2.2.2.1)) q.2.2.2.2.length (fun j => .int (q.2.2.2.2.getD j 0)) (xold G) s G.2.2.2.2.1) ∧ va_Z "java/lang/String" "COMPACT_STRINGS" "Z" (.int 1) (xold G) s G.2.2.2.2.1 ∧ va_X (G.2.2.2.2.2.1 200) G.2.2.2.2.2.2.1 G.2.2.2.2.2.2.2 s G.2.2.2.2.1 ∧ G.2.2.2.2.2.1 200 < G.2.2.2.1
def xK (G : xG) (s : State) : Prop := va_K G.2.1 xcls (xtys G) s ∧ (∀ w ∈ xnest, va_Nw w s) ∧ (∀ C ∈ xaos, va_AO C s) ∧ xS G s
theorem xS.same {G : xG} {u U : State} (hv : u.vm = U.vm) (h : xS G u) : xS G U := by
  have ha : u.vm.Alike U.vm := by rw [hv]; exact Vm.Alike.refl U.vm
  exact ⟨fun q hq => ⟨vk_R.same hv.symm (h.1 q hq).1, va_O.moved ha (h.1 q hq).2.1, va_OF.moved ha (h.1 q hq).2.2.1, va_OF.moved ha (h.1 q hq).2.2.2.1, va_T.moved ha (h.1 q hq).2.2.2.2⟩, va_Z.moved ha h.2.1, va_X.moved ha h.2.2.1, h.2.2.2⟩
theorem xS.warm {G : xG} {s U : State} (hW : s.WarmedH U.vm) (h : xS G s) : xS G U :=
  ⟨fun q hq => ⟨vk_R.warm hW (h.1 q hq).1, va_O.moved hW.alike (h.1 q hq).2.1, va_OF.moved hW.alike (h.1 q hq).2.2.1, va_OF.moved hW.alike (h.1 q hq).2.2.2.1, va_T.moved hW.alike (h.1 q hq).2.2.2.2⟩, va_Z.moved hW.alike h.2.1, va_X.moved hW.alike h.2.2.1, h.2.2.2⟩
theorem xK.same {G : xG} {u U : State} (hv : u.vm = U.vm) (h : xK G u) : xK G U := by
  have ha : u.vm.Alike U.vm := by rw [hv]; exact Vm.Alike.refl U.vm
  refine ⟨va_K.moved ha h.1, fun w hw => ?_, fun C hC => va_AO.moved ha (h.2.2.1 C hC), h.2.2.2.same hv⟩
  have h1 : w.onTables = true := by
    have := (List.mem_filter.mp hw).2
    cases w <;> first | rfl | cases this
  exact va_Nw.same h1 hv (h.2.1 w hw)
theorem xK.warm {G : xG} {s U : State} (hW : s.WarmedH U.vm) (h : xK G s) : xK G U := by
  refine ⟨va_K.moved hW.alike h.1, fun w hw => ?_, fun C hC => va_AO.moved hW.alike (h.2.2.1 C hC), h.2.2.2.warm hW⟩
  have h2 := h.2.1 w hw
  have := (List.mem_filter.mp hw).2
  cases w <;> first | (cases this; done) | exact va_Nw.warmM hW h2
/-- what a body's frame stands on -/
def xF (G : xG) (mt : xM) (p : Program) (s : State) (m : MethodId) (args : Array Value) (meth : Method) (c : Code) : Prop :=
  p.tables.exec = Jvm.exec ∧ c.code = mt.2.1 ∧ c.maxLocals = mt.2.2.1 ∧ meth.sig.returnType = mt.2.2.2 ∧ s.vm.findClass mt.1.cls = some m.cls ∧ (∀ w ∈ xWall, w.before args s = true) ∧ meth.locks = false ∧ meth.name = mt.1.name ∧ xK G s
abbrev xZ : Type := List Frame → Array Value → State → State → Prop
/-- the body of mt, at pc with locals lv, stack st, memory M; k cells, n slots are made so far: it comes to Z -/
def xW (G : xG) (mt : xM) (R : Room) (Z : xZ) (pc : Nat) (lv : List (Nat × Value)) (st : List Value) (M : xMem) (k n : Nat) : Prop :=
  ∀ (p : Program) (e : Env) (s : State) (m : MethodId) (args : Array Value) (below : List Frame) (meth : Method) (c : Code) (H : Heap) (locs : List Loc) (ls : Array Slot),
    xF G mt p s m args meth c → xR G M H → (∀ q ∈ locs, G.2.2.2.1 ≤ q.base) → lv_has ls mt.2.2.1 (xcl G lv) → W p G.1 e R s m args below meth c H locs k n (Z below args s) (F0 m pc ls (xcs G st))
def xrm (d mc ms : Nat) : Room := { frames := d + 1, cells := mc, slots := ms, locals := 64 * (d + 1) }
def xQc (G : xG) (Q : Option Value → xMem → Prop) : Array Value → State → Outcome → State → Prop := fun _ _ o t => ∃ (v : Option Value) (M' : xMem), o = .returned (v.map (xcv G)) ∧ Q v M' ∧ xR G M' t.heap
def xQ (G : xG) (Q : Option Value → xMem → Prop) (mc ms : Nat) : xZ := fun below args s => MQ below (xQc G Q) args s mc ms (fun q => G.2.2.2.1 ≤ q)
def xPc (G : xG) (as : List Value) (M : xMem) : Array Value → State → Prop := fun a U => a = (xcs G as).toArray ∧ xR G M U.heap ∧ xK G U
/-- the contract: called with as in M, the method answers as Q says; d frames deep, mc cells of ms slots -/
def xC (G : xG) (mt : xM) (d mc ms : Nat) (as : List Value) (M : xMem) (Q : Option Value → xMem → Prop) : Prop :=
  Met G.1 mt.1 (.code mt.1 mt.2.1 mt.2.2.1 mt.2.2.2 :: xWall) (xrm d mc ms) (xPc G as M) (xQc G Q) mc ms (fun q => G.2.2.2.1 ≤ q)
theorem xcl_args (G : xG) (as : List Value) : ∀ i : Nat, lv_args i (xcs G as) = xcl G (lv_args i as) := by
  induction as with
  | nil => intro i; rfl
  | cons v vs ih =>
    intro i
    show (i, xcv G v) :: lv_args (if (xcv G v).category = 2 then i + 2 else i + 1) (xcs G vs) = (i, xcv G v) :: xcl G (lv_args (if v.category = 2 then i + 2 else i + 1) vs)
    rw [xcv_cat, ih]
theorem xsl_len (G : xG) (as : List Value) : (lg_sl (xcs G as)).length = (lg_sl as).length := by
  induction as with
  | nil => rfl
  | cons v vs ih =>
    have e1 : lg_sl (xcs G (v :: vs)) = (if (xcv G v).category = 2 then [.val (xcv G v), .second] else [.val (xcv G v)]) ++ lg_sl (xcs G vs) := rfl
    have e2 : lg_sl (v :: vs) = (if v.category = 2 then [.val v, .second] else [.val v]) ++ lg_sl vs := rfl
    rw [e1, e2, List.length_append, List.length_append, ih, xcv_cat]
    by_cases h : v.category = 2
    · rw [if_pos h, if_pos h]; rfl
    · rw [if_neg h, if_neg h]; rfl
/-- a contract out of its body -/
theorem xC.of {G : xG} {mt : xM} {d mc ms : Nat} {as : List Value} {M : xMem} {Q : Option Value → xMem → Prop} (hp : plainName mt.1.cls = true) (hl : (lg_sl as).length ≤ mt.2.2.1)
    (K : xW G mt (xrm d mc ms) (xQ G Q mc ms) 0 (lv_args 0 as) [] M 0 0) : xC G mt d mc ms as M Q := by
  refine Met.ofW (cc := mt.2.1) (maxL := mt.2.2.1) (ret := mt.2.2.2) hp rfl ?_
  intro p e s m args below meth c s₁ B hml hv
  obtain ⟨rfl, hR, hK⟩ := hv
  have hts := atoms_spec (ws := .code mt.1 mt.2.1 mt.2.2.1 mt.2.2.2 :: xWall) B.pre
  have hown : s.vm.findClass mt.1.cls = some m.cls := findClass_of_methodNamed B.named
  have hn : meth.name = mt.1.name := (name_of_methodNamed B.named B.method).1
  have hle := lv_entry (xcs G as) (n := mt.2.2.1) (by rw [xsl_len]; exact hl)
  rw [xcl_args] at hle
  rw [lg_entry_eq]
  exact K p e s m _ below meth c s.heap [] _ ⟨B.exec, B.bytes, hml, B.returns, hown, fun w hw => hts w (List.mem_cons_of_mem _ hw), B.notSynchronized, hn, hK⟩ hR (fun q hq => by cases hq) hle
end
section
/-! rows of the layer, an instruction each (printed by wip/p1/rows.py) -/
section XI
variable {G : xG} {mt : xM} {R : Room} {Z : xZ} {pc : Nat} {lv : List (Nat × Value)} {st : List Value} {M : xMem} {k n : Nat}
theorem xat0 {j i : Nat} {v : Value} (h : lv[j]? = some (i, v)) : (xcl G lv)[j]? = some (i, xcv G v) := by rw [xcl, List.getElem?_map, h]; rfl
theorem xat {ls : Array Slot} {nL j i : Nat} {v : Value} (hl : lv_has ls nL (xcl G lv)) (h : lv[j]? = some (i, v)) : ls[i]? = some (.val (xcv G v)) := lv_at hl j (xat0 h)
def xsto (lv : List (Nat × Value)) (i : Nat) (v : Value) : List (Nat × Value) := (i, v) :: lv.filter (fun q => !(q.1 == i) && !(q.1 + 1 == i && q.2.category == 2))
theorem xcl_sto {i : Nat} {v : Value} {lv' : List (Nat × Value)} (h : xsto lv i v = lv') : (i, xcv G v) :: (xcl G lv).filter (fun q => !(q.1 == i) && !(q.1 + 1 == i && q.2.category == 2)) = xcl G lv' := by
  subst h
  simp only [xcl, xsto, List.filter_map, List.map_cons]
  congr 2
  refine List.filter_congr (fun q _ => ?_)
  simp only [Function.comp, xcv_cat]
theorem xi_iconst {a : Int} {v : Int32} (hd : decode mt.2.1 pc = .ok (.iconst a, 1)) (hv : Int32.ofInt a = v) (K : xW G mt R Z (pc + 1) lv (.int v :: st) M k n) : xW G mt R Z pc lv st M k n := fun p e s m args below meth c H locs ls F hR hL hl => lv_iconst F.1 F.2.1 hd hv (K p e s m args below meth c H locs ls F hR hL hl)
theorem xi_bipush {a : Int} {v : Int32} (hd : decode mt.2.1 pc = .ok (.bipush a, 2)) (hv : (Int8.ofInt a).toInt32 = v) (K : xW G mt R Z (pc + 2) lv (.int v :: st) M k n) : xW G mt R Z pc lv st M k n := fun p e s m args below meth c H locs ls F hR hL hl => lv_bipush F.1 F.2.1 hd hv (K p e s m args below meth c H locs ls F hR hL hl)
theorem xi_sipush {a : Int} {v : Int32} (hd : decode mt.2.1 pc = .ok (.sipush a, 3)) (hv : (Int16.ofInt a).toInt32 = v) (K : xW G mt R Z (pc + 3) lv (.int v :: st) M k n) : xW G mt R Z pc lv st M k n := fun p e s m args below meth c H locs ls F hR hL hl => lv_sipush F.1 F.2.1 hd hv (K p e s m args below meth c H locs ls F hR hL hl)
theorem xi_lconst {a : Fin 2} {v : Int64} (hd : decode mt.2.1 pc = .ok (.lconst a, 1)) (hv : Int64.ofNat (a : Nat) = v) (K : xW G mt R Z (pc + 1) lv (.long v :: st) M k n) : xW G mt R Z pc lv st M k n := fun p e s m args below meth c H locs ls F hR hL hl => lv_lconst F.1 F.2.1 hd hv (K p e s m args below meth c H locs ls F hR hL hl)
theorem xi_null (hd : decode mt.2.1 pc = .ok (.aconst_null, 1)) (K : xW G mt R Z (pc + 1) lv (.null :: st) M k n) : xW G mt R Z pc lv st M k n := fun p e s m args below meth c H locs ls F hR hL hl => lv_null F.1 F.2.1 hd (K p e s m args below meth c H locs ls F hR hL hl)
theorem xi_ldc {i : Nat} {v : Int32} (hd : decode mt.2.1 pc = .ok (.ldc i, 2)) (hw : Cond.constant mt.1.cls i v ∈ xWall) (K : xW G mt R Z (pc + 2) lv (.int v :: st) M k n) : xW G mt R Z pc lv st M k n := fun p e s m args below meth c H locs ls F hR hL hl => lv_ldc F.1 F.2.1 F.2.2.2.2.1 (F.2.2.2.2.2.1 _ hw) hd (K p e s m args below meth c H locs ls F hR hL hl)
theorem xi_ldcw {i : Nat} {v : Int32} (hd : decode mt.2.1 pc = .ok (.ldc_w i, 3)) (hw : Cond.constant mt.1.cls i v ∈ xWall) (K : xW G mt R Z (pc + 3) lv (.int v :: st) M k n) : xW G mt R Z pc lv st M k n := fun p e s m args below meth c H locs ls F hR hL hl => lv_ldcw F.1 F.2.1 F.2.2.2.2.1 (F.2.2.2.2.2.1 _ hw) hd (K p e s m args below meth c H locs ls F hR hL hl)
theorem xi_ldc2 {i : Nat} {v : Int64} (hd : decode mt.2.1 pc = .ok (.ldc2_w i, 3)) (hw : Cond.constantLong mt.1.cls i v ∈ xWall) (K : xW G mt R Z (pc + 3) lv (.long v :: st) M k n) : xW G mt R Z pc lv st M k n := fun p e s m args below meth c H locs ls F hR hL hl => lv_ldc2 F.1 F.2.1 F.2.2.2.2.1 (F.2.2.2.2.2.1 _ hw) hd (K p e s m args below meth c H locs ls F hR hL hl)
theorem xi_iload_n {f : Fin 4} {x : Int32} (j : Nat) (hd : decode mt.2.1 pc = .ok (.iload_n f, 1)) (hj : lv[j]? = some ((f : Nat), .int x)) (K : xW G mt R Z (pc + 1) lv (.int x :: st) M k n) : xW G mt R Z pc lv st M k n := fun p e s m args below meth c H locs ls F hR hL hl => lv_iload_n F.1 F.2.1 hd rfl (xat hl hj) (K p e s m args below meth c H locs ls F hR hL hl)
theorem xi_iload {i : Nat} {x : Int32} (j : Nat) (hd : decode mt.2.1 pc = .ok (.iload i, 2)) (hj : lv[j]? = some (i, .int x)) (K : xW G mt R Z (pc + 2) lv (.int x :: st) M k n) : xW G mt R Z pc lv st M k n := fun p e s m args below meth c H locs ls F hR hL hl => lv_iload F.1 F.2.1 hd (xat hl hj) (K p e s m args below meth c H locs ls F hR hL hl)
theorem xi_aload_n {f : Fin 4} {x : Nat} (j : Nat) (hd : decode mt.2.1 pc = .ok (.aload_n f, 1)) (hj : lv[j]? = some ((f : Nat), .ref x)) (K : xW G mt R Z (pc + 1) lv (.ref x :: st) M k n) : xW G mt R Z pc lv st M k n := fun p e s m args below meth c H locs ls F hR hL hl => lv_aload_n F.1 F.2.1 hd rfl (xat hl hj) (K p e s m args below meth c H locs ls F hR hL hl)
theorem xi_aload {i : Nat} {x : Nat} (j : Nat) (hd : decode mt.2.1 pc = .ok (.aload i, 2)) (hj : lv[j]? = some (i, .ref x)) (K : xW G mt R Z (pc + 2) lv (.ref x :: st) M k n) : xW G mt R Z pc lv st M k n := fun p e s m args below meth c H locs ls F hR hL hl => lv_aload F.1 F.2.1 hd (xat hl hj) (K p e s m args below meth c H locs ls F hR hL hl)
theorem xi_lload_n {f : Fin 4} {x : Int64} (j : Nat) (hd : decode mt.2.1 pc = .ok (.lload_n f, 1)) (hj : lv[j]? = some ((f : Nat), .long x)) (K : xW G mt R Z (pc + 1) lv (.long x :: st) M k n) : xW G mt R Z pc lv st M k n := fun p e s m args below meth c H locs ls F hR hL hl => lv_lload_n F.1 F.2.1 hd rfl (xat hl hj) (K p e s m args below meth c H locs ls F hR hL hl)
theorem xi_lload {i : Nat} {x : Int64} (j : Nat) (hd : decode mt.2.1 pc = .ok (.lload i, 2)) (hj : lv[j]? = some (i, .long x)) (K : xW G mt R Z (pc + 2) lv (.long x :: st) M k n) : xW G mt R Z pc lv st M k n := fun p e s m args below meth c H locs ls F hR hL hl => lv_lload F.1 F.2.1 hd (xat hl hj) (K p e s m args below meth c H locs ls F hR hL hl)
theorem xi_aload_nS {f : Fin 4} {x : UInt32} (j : Nat) (hd : decode mt.2.1 pc = .ok (.aload_n f, 1)) (hj : lv[j]? = some ((f : Nat), .float x)) (K : xW G mt R Z (pc + 1) lv (.float x :: st) M k n) : xW G mt R Z pc lv st M k n := fun p e s m args below meth c H locs ls F hR hL hl => lv_aload_n F.1 F.2.1 hd rfl (xat hl hj) (K p e s m args below meth c H locs ls F hR hL hl)
theorem xi_aload_nN {f : Fin 4} (j : Nat) (hd : decode mt.2.1 pc = .ok (.aload_n f, 1)) (hj : lv[j]? = some ((f : Nat), .null)) (K : xW G mt R Z (pc + 1) lv (.null :: st) M k n) : xW G mt R Z pc lv st M k n := fun p e s m args below meth c H locs ls F hR hL hl => lv_aload_nN F.1 F.2.1 hd rfl (xat hl hj) (K p e s m args below meth c H locs ls F hR hL hl)
theorem xi_aloadN {i : Nat} (j : Nat) (hd : decode mt.2.1 pc = .ok (.aload i, 2)) (hj : lv[j]? = some (i, .null)) (K : xW G mt R Z (pc + 2) lv (.null :: st) M k n) : xW G mt R Z pc lv st M k n := fun p e s m args below meth c H locs ls F hR hL hl => lv_aloadN F.1 F.2.1 hd (xat hl hj) (K p e s m args below meth c H locs ls F hR hL hl)
theorem xi_istore_n {lv' : List (Nat × Value)} {f : Fin 4} {x : Int32} (hd : decode mt.2.1 pc = .ok (.istore_n f, 1)) (hi : (f : Nat) < mt.2.2.1) (hs : xsto lv (f : Nat) (.int x) = lv') (K : xW G mt R Z (pc + 1) lv' st M k n) : xW G mt R Z pc lv ((.int x) :: st) M k n := fun p e s m args below meth c H locs ls F hR hL hl => lv_istore_n F.1 F.2.1 hd rfl hl hi (xcl_sto hs) (fun ls hl => K p e s m args below meth c H locs ls F hR hL hl)
theorem xi_istore {lv' : List (Nat × Value)} {i : Nat} {x : Int32} (hd : decode mt.2.1 pc = .ok (.istore i, 2)) (hi : i < mt.2.2.1) (hs : xsto lv i (.int x) = lv') (K : xW G mt R Z (pc + 2) lv' st M k n) : xW G mt R Z pc lv ((.int x) :: st) M k n := fun p e s m args below meth c H locs ls F hR hL hl => lv_istore F.1 F.2.1 hd hl hi (xcl_sto hs) (fun ls hl => K p e s m args below meth c H locs ls F hR hL hl)
theorem xi_astore_n {lv' : List (Nat × Value)} {f : Fin 4} {x : Nat} (hd : decode mt.2.1 pc = .ok (.astore_n f, 1)) (hi : (f : Nat) < mt.2.2.1) (hs : xsto lv (f : Nat) (.ref x) = lv') (K : xW G mt R Z (pc + 1) lv' st M k n) : xW G mt R Z pc lv ((.ref x) :: st) M k n := fun p e s m args below meth c H locs ls F hR hL hl => lv_astore_n F.1 F.2.1 hd rfl hl hi (xcl_sto hs) (fun ls hl => K p e s m args below meth c H locs ls F hR hL hl)
theorem xi_astore {lv' : List (Nat × Value)} {i : Nat} {x : Nat} (hd : decode mt.2.1 pc = .ok (.astore i, 2)) (hi : i < mt.2.2.1) (hs : xsto lv i (.ref x) = lv') (K : xW G mt R Z (pc + 2) lv' st M k n) : xW G mt R Z pc lv ((.ref x) :: st) M k n := fun p e s m args below meth c H locs ls F hR hL hl => lv_astore F.1 F.2.1 hd hl hi (xcl_sto hs) (fun ls hl => K p e s m args below meth c H locs ls F hR hL hl)
theorem xi_astore_nN {lv' : List (Nat × Value)} {f : Fin 4} (hd : decode mt.2.1 pc = .ok (.astore_n f, 1)) (hi : (f : Nat) < mt.2.2.1) (hs : xsto lv (f : Nat) .null = lv') (K : xW G mt R Z (pc + 1) lv' st M k n) : xW G mt R Z pc lv (.null :: st) M k n := fun p e s m args below meth c H locs ls F hR hL hl => lv_astore_nN F.1 F.2.1 hd rfl hl hi (xcl_sto hs) (fun ls hl => K p e s m args below meth c H locs ls F hR hL hl)
theorem xi_astoreN {lv' : List (Nat × Value)} {i : Nat} (hd : decode mt.2.1 pc = .ok (.astore i, 2)) (hi : i < mt.2.2.1) (hs : xsto lv i .null = lv') (K : xW G mt R Z (pc + 2) lv' st M k n) : xW G mt R Z pc lv (.null :: st) M k n := fun p e s m args below meth c H locs ls F hR hL hl => lv_astoreN F.1 F.2.1 hd hl hi (xcl_sto hs) (fun ls hl => K p e s m args below meth c H locs ls F hR hL hl)
theorem xi_iinc {i : Nat} {a : Int} {x v : Int32} {lv' : List (Nat × Value)} (j : Nat) (hd : decode mt.2.1 pc = .ok (.iinc i a, 3)) (hj : lv[j]? = some (i, .int x)) (hv : x + Int32.ofInt a = v) (hi : i < mt.2.2.1) (hs : xsto lv i (.int v) = lv') (K : xW G mt R Z (pc + 3) lv' st M k n) : xW G mt R Z pc lv st M k n := fun p e s m args below meth c H locs ls F hR hL hl => lv_iinc F.1 F.2.1 hd hl (xat0 hj) hv hi (xcl_sto hs) (fun ls hl => K p e s m args below meth c H locs ls F hR hL hl)
theorem xi_iadd {x y v : Int32} (hd : decode mt.2.1 pc = .ok (.iadd, 1)) (hv : x + y = v) (K : xW G mt R Z (pc + 1) lv (.int v :: st) M k n) : xW G mt R Z pc lv (.int y :: .int x :: st) M k n := fun p e s m args below meth c H locs ls F hR hL hl => lv_iadd F.1 F.2.1 hd (hv ▸ K p e s m args below meth c H locs ls F hR hL hl)
theorem xi_isub {x y v : Int32} (hd : decode mt.2.1 pc = .ok (.isub, 1)) (hv : x - y = v) (K : xW G mt R Z (pc + 1) lv (.int v :: st) M k n) : xW G mt R Z pc lv (.int y :: .int x :: st) M k n := fun p e s m args below meth c H locs ls F hR hL hl => lv_isub F.1 F.2.1 hd (hv ▸ K p e s m args below meth c H locs ls F hR hL hl)
theorem xi_imul {x y v : Int32} (hd : decode mt.2.1 pc = .ok (.imul, 1)) (hv : x * y = v) (K : xW G mt R Z (pc + 1) lv (.int v :: st) M k n) : xW G mt R Z pc lv (.int y :: .int x :: st) M k n := fun p e s m args below meth c H locs ls F hR hL hl => lv_imul F.1 F.2.1 hd (hv ▸ K p e s m args below meth c H locs ls F hR hL hl)
theorem xi_iand {x y v : Int32} (hd : decode mt.2.1 pc = .ok (.iand, 1)) (hv : x &&& y = v) (K : xW G mt R Z (pc + 1) lv (.int v :: st) M k n) : xW G mt R Z pc lv (.int y :: .int x :: st) M k n := fun p e s m args below meth c H locs ls F hR hL hl => lv_iand F.1 F.2.1 hd (hv ▸ K p e s m args below meth c H locs ls F hR hL hl)
theorem xi_ior {x y v : Int32} (hd : decode mt.2.1 pc = .ok (.ior, 1)) (hv : x ||| y = v) (K : xW G mt R Z (pc + 1) lv (.int v :: st) M k n) : xW G mt R Z pc lv (.int y :: .int x :: st) M k n := fun p e s m args below meth c H locs ls F hR hL hl => lv_ior F.1 F.2.1 hd (hv ▸ K p e s m args below meth c H locs ls F hR hL hl)
theorem xi_ixor {x y v : Int32} (hd : decode mt.2.1 pc = .ok (.ixor, 1)) (hv : x ^^^ y = v) (K : xW G mt R Z (pc + 1) lv (.int v :: st) M k n) : xW G mt R Z pc lv (.int y :: .int x :: st) M k n := fun p e s m args below meth c H locs ls F hR hL hl => lv_ixor F.1 F.2.1 hd (hv ▸ K p e s m args below meth c H locs ls F hR hL hl)
theorem xi_ishl {x y v : Int32} (hd : decode mt.2.1 pc = .ok (.ishl, 1)) (hv : x <<< (y &&& 31) = v) (K : xW G mt R Z (pc + 1) lv (.int v :: st) M k n) : xW G mt R Z pc lv (.int y :: .int x :: st) M k n := fun p e s m args below meth c H locs ls F hR hL hl => lv_ishl F.1 F.2.1 hd (hv ▸ K p e s m args below meth c H locs ls F hR hL hl)
theorem xi_ishr {x y v : Int32} (hd : decode mt.2.1 pc = .ok (.ishr, 1)) (hv : x >>> (y &&& 31) = v) (K : xW G mt R Z (pc + 1) lv (.int v :: st) M k n) : xW G mt R Z pc lv (.int y :: .int x :: st) M k n := fun p e s m args below meth c H locs ls F hR hL hl => lv_ishr F.1 F.2.1 hd (hv ▸ K p e s m args below meth c H locs ls F hR hL hl)
theorem xi_iushr {x y v : Int32} (hd : decode mt.2.1 pc = .ok (.iushr, 1)) (hv : (x.toUInt32 >>> (y.toUInt32 &&& Int32.toUInt32 31)).toInt32 = v) (K : xW G mt R Z (pc + 1) lv (.int v :: st) M k n) : xW G mt R Z pc lv (.int y :: .int x :: st) M k n := fun p e s m args below meth c H locs ls F hR hL hl => lv_iushr F.1 F.2.1 hd hv (K p e s m args below meth c H locs ls F hR hL hl)
theorem xi_idiv {x y v : Int32} (hd : decode mt.2.1 pc = .ok (.idiv, 1)) (hne : ¬ y = 0) (hv : x / y = v) (K : xW G mt R Z (pc + 1) lv (.int v :: st) M k n) : xW G mt R Z pc lv (.int y :: .int x :: st) M k n := fun p e s m args below meth c H locs ls F hR hL hl => lv_idiv F.1 F.2.1 hd hne (hv ▸ K p e s m args below meth c H locs ls F hR hL hl)
theorem xi_irem {x y v : Int32} (hd : decode mt.2.1 pc = .ok (.irem, 1)) (hne : ¬ y = 0) (hv : x - x / y * y = v) (K : xW G mt R Z (pc + 1) lv (.int v :: st) M k n) : xW G mt R Z pc lv (.int y :: .int x :: st) M k n := fun p e s m args below meth c H locs ls F hR hL hl => lv_irem F.1 F.2.1 hd hne (hv ▸ K p e s m args below meth c H locs ls F hR hL hl)
theorem xi_ineg {x v : Int32} (hd : decode mt.2.1 pc = .ok (.ineg, 1)) (hv : -x = v) (K : xW G mt R Z (pc + 1) lv (.int v :: st) M k n) : xW G mt R Z pc lv (.int x :: st) M k n := fun p e s m args below meth c H locs ls F hR hL hl => lv_ineg F.1 F.2.1 hd (hv ▸ K p e s m args below meth c H locs ls F hR hL hl)
theorem xi_i2l {x : Int32} {v : Int64} (hd : decode mt.2.1 pc = .ok (.i2l, 1)) (hv : x.toInt64 = v) (K : xW G mt R Z (pc + 1) lv (.long v :: st) M k n) : xW G mt R Z pc lv (.int x :: st) M k n := fun p e s m args below meth c H locs ls F hR hL hl => lv_i2l F.1 F.2.1 hd hv (K p e s m args below meth c H locs ls F hR hL hl)
theorem xi_i2b {x v : Int32} (hd : decode mt.2.1 pc = .ok (.i2b, 1)) (hv : x.toInt8.toInt32 = v) (K : xW G mt R Z (pc + 1) lv (.int v :: st) M k n) : xW G mt R Z pc lv (.int x :: st) M k n := fun p e s m args below meth c H locs ls F hR hL hl => lv_i2b F.1 F.2.1 hd hv (K p e s m args below meth c H locs ls F hR hL hl)
theorem xi_i2c {x v : Int32} (hd : decode mt.2.1 pc = .ok (.i2c, 1)) (hv : (x.toUInt32 % 65536).toInt32 = v) (K : xW G mt R Z (pc + 1) lv (.int v :: st) M k n) : xW G mt R Z pc lv (.int x :: st) M k n := fun p e s m args below meth c H locs ls F hR hL hl => lv_i2c F.1 F.2.1 hd hv (K p e s m args below meth c H locs ls F hR hL hl)
theorem xi_lcmp {x y : Int64} {v : Int32} (hd : decode mt.2.1 pc = .ok (.lcmp, 1)) (hv : lg_cmp x y = v) (K : xW G mt R Z (pc + 1) lv (.int v :: st) M k n) : xW G mt R Z pc lv (.long y :: .long x :: st) M k n := fun p e s m args below meth c H locs ls F hR hL hl => W.lcmp F.1 F.2.1 hd (hv ▸ K p e s m args below meth c H locs ls F hR hL hl)
theorem xi_dup {a : Value} (hd : decode mt.2.1 pc = .ok (.dup, 1)) (ha : a.category = 1) (K : xW G mt R Z (pc + 1) lv (a :: a :: st) M k n) : xW G mt R Z pc lv (a :: st) M k n := fun p e s m args below meth c H locs ls F hR hL hl => lv_dup F.1 F.2.1 hd (by rw [xcv_cat]; exact ha) (K p e s m args below meth c H locs ls F hR hL hl)
theorem xi_pop {a : Value} (hd : decode mt.2.1 pc = .ok (.pop, 1)) (ha : a.category = 1) (K : xW G mt R Z (pc + 1) lv st M k n) : xW G mt R Z pc lv (a :: st) M k n := fun p e s m args below meth c H locs ls F hR hL hl => lv_pop (va := xcv G a) F.1 F.2.1 hd (by rw [xcv_cat]; exact ha) (K p e s m args below meth c H locs ls F hR hL hl)
theorem xi_dup2 {a b : Value} (hd : decode mt.2.1 pc = .ok (.dup2, 1)) (ha : a.category = 1) (hb : b.category = 1) (K : xW G mt R Z (pc + 1) lv (a :: b :: a :: b :: st) M k n) : xW G mt R Z pc lv (a :: b :: st) M k n := fun p e s m args below meth c H locs ls F hR hL hl => lv_dup2_11 F.1 F.2.1 hd (by rw [xcv_cat]; exact ha) (by rw [xcv_cat]; exact hb) (K p e s m args below meth c H locs ls F hR hL hl)
theorem xi_if_eq {x : Int32} {off : Int} {tgt : Nat} (hd : decode mt.2.1 pc = .ok (.ifCond .eq off, 3)) (ht : (pc : Int) + off = (tgt : Int)) (kt : x = 0 → xW G mt R Z tgt lv st M k n) (kf : ¬ x = 0 → xW G mt R Z (pc + 3) lv st M k n) : xW G mt R Z pc lv (.int x :: st) M k n := fun p e s m args below meth c H locs ls F hR hL hl => lv_if_eq F.1 F.2.1 hd ht (fun h => kt h p e s m args below meth c H locs ls F hR hL hl) (fun h => kf h p e s m args below meth c H locs ls F hR hL hl)
theorem xi_if_eq_t {x : Int32} {off : Int} {tgt : Nat} (hd : decode mt.2.1 pc = .ok (.ifCond .eq off, 3)) (ht : (pc : Int) + off = (tgt : Int)) (h : x = 0) (kt : xW G mt R Z tgt lv st M k n) : xW G mt R Z pc lv (.int x :: st) M k n := xi_if_eq hd ht (fun _ => kt) (fun h' => absurd h h')
theorem xi_if_eq_f {x : Int32} {off : Int} {tgt : Nat} (hd : decode mt.2.1 pc = .ok (.ifCond .eq off, 3)) (ht : (pc : Int) + off = (tgt : Int)) (h : ¬ x = 0) (kf : xW G mt R Z (pc + 3) lv st M k n) : xW G mt R Z pc lv (.int x :: st) M k n := xi_if_eq hd ht (fun h' => absurd h' h) (fun _ => kf)
theorem xi_if_ne {x : Int32} {off : Int} {tgt : Nat} (hd : decode mt.2.1 pc = .ok (.ifCond .ne off, 3)) (ht : (pc : Int) + off = (tgt : Int)) (kt : ¬ x = 0 → xW G mt R Z tgt lv st M k n) (kf : x = 0 → xW G mt R Z (pc + 3) lv st M k n) : xW G mt R Z pc lv (.int x :: st) M k n := fun p e s m args below meth c H locs ls F hR hL hl => lv_if_ne F.1 F.2.1 hd ht (fun h => kt h p e s m args below meth c H locs ls F hR hL hl) (fun h => kf h p e s m args below meth c H locs ls F hR hL hl)
theorem xi_if_ne_t {x : Int32} {off : Int} {tgt : Nat} (hd : decode mt.2.1 pc = .ok (.ifCond .ne off, 3)) (ht : (pc : Int) + off = (tgt : Int)) (h : ¬ x = 0) (kt : xW G mt R Z tgt lv st M k n) : xW G mt R Z pc lv (.int x :: st) M k n := xi_if_ne hd ht (fun _ => kt) (fun h' => absurd h' h)
theorem xi_if_ne_f {x : Int32} {off : Int} {tgt : Nat} (hd : decode mt.2.1 pc = .ok (.ifCond .ne off, 3)) (ht : (pc : Int) + off = (tgt : Int)) (h : x = 0) (kf : xW G mt R Z (pc + 3) lv st M k n) : xW G mt R Z pc lv (.int x :: st) M k n := xi_if_ne hd ht (fun h' => absurd h h') (fun _ => kf)
theorem xi_if_lt {x : Int32} {off : Int} {tgt : Nat} (hd : decode mt.2.1 pc = .ok (.ifCond .lt off, 3)) (ht : (pc : Int) + off = (tgt : Int)) (kt : x < 0 → xW G mt R Z tgt lv st M k n) (kf : ¬ x < 0 → xW G mt R Z (pc + 3) lv st M k n) : xW G mt R Z pc lv (.int x :: st) M k n := fun p e s m args below meth c H locs ls F hR hL hl => lv_if_lt F.1 F.2.1 hd ht (fun h => kt h p e s m args below meth c H locs ls F hR hL hl) (fun h => kf h p e s m args below meth c H locs ls F hR hL hl)
theorem xi_if_lt_t {x : Int32} {off : Int} {tgt : Nat} (hd : decode mt.2.1 pc = .ok (.ifCond .lt off, 3)) (ht : (pc : Int) + off = (tgt : Int)) (h : x < 0) (kt : xW G mt R Z tgt lv st M k n) : xW G mt R Z pc lv (.int x :: st) M k n := xi_if_lt hd ht (fun _ => kt) (fun h' => absurd h h')
theorem xi_if_lt_f {x : Int32} {off : Int} {tgt : Nat} (hd : decode mt.2.1 pc = .ok (.ifCond .lt off, 3)) (ht : (pc : Int) + off = (tgt : Int)) (h : ¬ x < 0) (kf : xW G mt R Z (pc + 3) lv st M k n) : xW G mt R Z pc lv (.int x :: st) M k n := xi_if_lt hd ht (fun h' => absurd h' h) (fun _ => kf)
theorem xi_if_ge {x : Int32} {off : Int} {tgt : Nat} (hd : decode mt.2.1 pc = .ok (.ifCond .ge off, 3)) (ht : (pc : Int) + off = (tgt : Int)) (kt : 0 ≤ x → xW G mt R Z tgt lv st M k n) (kf : ¬ 0 ≤ x → xW G mt R Z (pc + 3) lv st M k n) : xW G mt R Z pc lv (.int x :: st) M k n := fun p e s m args below meth c H locs ls F hR hL hl => lv_if_ge F.1 F.2.1 hd ht (fun h => kt h p e s m args below meth c H locs ls F hR hL hl) (fun h => kf h p e s m args below meth c H locs ls F hR hL hl)
theorem xi_if_ge_t {x : Int32} {off : Int} {tgt : Nat} (hd : decode mt.2.1 pc = .ok (.ifCond .ge off, 3)) (ht : (pc : Int) + off = (tgt : Int)) (h : 0 ≤ x) (kt : xW G mt R Z tgt lv st M k n) : xW G mt R Z pc lv (.int x :: st) M k n := xi_if_ge hd ht (fun _ => kt) (fun h' => absurd h h')
theorem xi_if_ge_f {x : Int32} {off : Int} {tgt : Nat} (hd : decode mt.2.1 pc = .ok (.ifCond .ge off, 3)) (ht : (pc : Int) + off = (tgt : Int)) (h : ¬ 0 ≤ x) (kf : xW G mt R Z (pc + 3) lv st M k n) : xW G mt R Z pc lv (.int x :: st) M k n := xi_if_ge hd ht (fun h' => absurd h' h) (fun _ => kf)
theorem xi_if_gt {x : Int32} {off : Int} {tgt : Nat} (hd : decode mt.2.1 pc = .ok (.ifCond .gt off, 3)) (ht : (pc : Int) + off = (tgt : Int)) (kt : 0 < x → xW G mt R Z tgt lv st M k n) (kf : ¬ 0 < x → xW G mt R Z (pc + 3) lv st M k n) : xW G mt R Z pc lv (.int x :: st) M k n := fun p e s m args below meth c H locs ls F hR hL hl => lv_if_gt F.1 F.2.1 hd ht (fun h => kt h p e s m args below meth c H locs ls F hR hL hl) (fun h => kf h p e s m args below meth c H locs ls F hR hL hl)
theorem xi_if_gt_t {x : Int32} {off : Int} {tgt : Nat} (hd : decode mt.2.1 pc = .ok (.ifCond .gt off, 3)) (ht : (pc : Int) + off = (tgt : Int)) (h : 0 < x) (kt : xW G mt R Z tgt lv st M k n) : xW G mt R Z pc lv (.int x :: st) M k n := xi_if_gt hd ht (fun _ => kt) (fun h' => absurd h h')
theorem xi_if_gt_f {x : Int32} {off : Int} {tgt : Nat} (hd : decode mt.2.1 pc = .ok (.ifCond .gt off, 3)) (ht : (pc : Int) + off = (tgt : Int)) (h : ¬ 0 < x) (kf : xW G mt R Z (pc + 3) lv st M k n) : xW G mt R Z pc lv (.int x :: st) M k n := xi_if_gt hd ht (fun h' => absurd h' h) (fun _ => kf)
theorem xi_if_le {x : Int32} {off : Int} {tgt : Nat} (hd : decode mt.2.1 pc = .ok (.ifCond .le off, 3)) (ht : (pc : Int) + off = (tgt : Int)) (kt : x ≤ 0 → xW G mt R Z tgt lv st M k n) (kf : ¬ x ≤ 0 → xW G mt R Z (pc + 3) lv st M k n) : xW G mt R Z pc lv (.int x :: st) M k n := fun p e s m args below meth c H locs ls F hR hL hl => lv_if_le F.1 F.2.1 hd ht (fun h => kt h p e s m args below meth c H locs ls F hR hL hl) (fun h => kf h p e s m args below meth c H locs ls F hR hL hl)
theorem xi_if_le_t {x : Int32} {off : Int} {tgt : Nat} (hd : decode mt.2.1 pc = .ok (.ifCond .le off, 3)) (ht : (pc : Int) + off = (tgt : Int)) (h : x ≤ 0) (kt : xW G mt R Z tgt lv st M k n) : xW G mt R Z pc lv (.int x :: st) M k n := xi_if_le hd ht (fun _ => kt) (fun h' => absurd h h')
theorem xi_if_le_f {x : Int32} {off : Int} {tgt : Nat} (hd : decode mt.2.1 pc = .ok (.ifCond .le off, 3)) (ht : (pc : Int) + off = (tgt : Int)) (h : ¬ x ≤ 0) (kf : xW G mt R Z (pc + 3) lv st M k n) : xW G mt R Z pc lv (.int x :: st) M k n := xi_if_le hd ht (fun h' => absurd h' h) (fun _ => kf)
theorem xi_icmp_eq {x y : Int32} {off : Int} {tgt : Nat} (hd : decode mt.2.1 pc = .ok (.if_icmp .eq off, 3)) (ht : (pc : Int) + off = (tgt : Int)) (kt : x = y → xW G mt R Z tgt lv st M k n) (kf : ¬ x = y → xW G mt R Z (pc + 3) lv st M k n) : xW G mt R Z pc lv (.int y :: .int x :: st) M k n := fun p e s m args below meth c H locs ls F hR hL hl => lv_icmp_eq F.1 F.2.1 hd ht (fun h => kt h p e s m args below meth c H locs ls F hR hL hl) (fun h => kf h p e s m args below meth c H locs ls F hR hL hl)
theorem xi_icmp_eq_t {x y : Int32} {off : Int} {tgt : Nat} (hd : decode mt.2.1 pc = .ok (.if_icmp .eq off, 3)) (ht : (pc : Int) + off = (tgt : Int)) (h : x = y) (kt : xW G mt R Z tgt lv st M k n) : xW G mt R Z pc lv (.int y :: .int x :: st) M k n := xi_icmp_eq hd ht (fun _ => kt) (fun h' => absurd h h')
theorem xi_icmp_eq_f {x y : Int32} {off : Int} {tgt : Nat} (hd : decode mt.2.1 pc = .ok (.if_icmp .eq off, 3)) (ht : (pc : Int) + off = (tgt : Int)) (h : ¬ x = y) (kf : xW G mt R Z (pc + 3) lv st M k n) : xW G mt R Z pc lv (.int y :: .int x :: st) M k n := xi_icmp_eq hd ht (fun h' => absurd h' h) (fun _ => kf)
theorem xi_icmp_ne {x y : Int32} {off : Int} {tgt : Nat} (hd : decode mt.2.1 pc = .ok (.if_icmp .ne off, 3)) (ht : (pc : Int) + off = (tgt : Int)) (kt : ¬ x = y → xW G mt R Z tgt lv st M k n) (kf : x = y → xW G mt R Z (pc + 3) lv st M k n) : xW G mt R Z pc lv (.int y :: .int x :: st) M k n := fun p e s m args below meth c H locs ls F hR hL hl => lv_icmp_ne F.1 F.2.1 hd ht (fun h => kt h p e s m args below meth c H locs ls F hR hL hl) (fun h => kf h p e s m args below meth c H locs ls F hR hL hl)
theorem xi_icmp_ne_t {x y : Int32} {off : Int} {tgt : Nat} (hd : decode mt.2.1 pc = .ok (.if_icmp .ne off, 3)) (ht : (pc : Int) + off = (tgt : Int)) (h : ¬ x = y) (kt : xW G mt R Z tgt lv st M k n) : xW G mt R Z pc lv (.int y :: .int x :: st) M k n := xi_icmp_ne hd ht (fun _ => kt) (fun h' => absurd h' h)
theorem xi_icmp_ne_f {x y : Int32} {off : Int} {tgt : Nat} (hd : decode mt.2.1 pc = .ok (.if_icmp .ne off, 3)) (ht : (pc : Int) + off = (tgt : Int)) (h : x = y) (kf : xW G mt R Z (pc + 3) lv st M k n) : xW G mt R Z pc lv (.int y :: .int x :: st) M k n := xi_icmp_ne hd ht (fun h' => absurd h h') (fun _ => kf)
theorem xi_icmp_lt {x y : Int32} {off : Int} {tgt : Nat} (hd : decode mt.2.1 pc = .ok (.if_icmp .lt off, 3)) (ht : (pc : Int) + off = (tgt : Int)) (kt : x < y → xW G mt R Z tgt lv st M k n) (kf : ¬ x < y → xW G mt R Z (pc + 3) lv st M k n) : xW G mt R Z pc lv (.int y :: .int x :: st) M k n := fun p e s m args below meth c H locs ls F hR hL hl => lv_icmp_lt F.1 F.2.1 hd ht (fun h => kt h p e s m args below meth c H locs ls F hR hL hl) (fun h => kf h p e s m args below meth c H locs ls F hR hL hl)
theorem xi_icmp_lt_t {x y : Int32} {off : Int} {tgt : Nat} (hd : decode mt.2.1 pc = .ok (.if_icmp .lt off, 3)) (ht : (pc : Int) + off = (tgt : Int)) (h : x < y) (kt : xW G mt R Z tgt lv st M k n) : xW G mt R Z pc lv (.int y :: .int x :: st) M k n := xi_icmp_lt hd ht (fun _ => kt) (fun h' => absurd h h')
theorem xi_icmp_lt_f {x y : Int32} {off : Int} {tgt : Nat} (hd : decode mt.2.1 pc = .ok (.if_icmp .lt off, 3)) (ht : (pc : Int) + off = (tgt : Int)) (h : ¬ x < y) (kf : xW G mt R Z (pc + 3) lv st M k n) : xW G mt R Z pc lv (.int y :: .int x :: st) M k n := xi_icmp_lt hd ht (fun h' => absurd h' h) (fun _ => kf)
theorem xi_icmp_ge {x y : Int32} {off : Int} {tgt : Nat} (hd : decode mt.2.1 pc = .ok (.if_icmp .ge off, 3)) (ht : (pc : Int) + off = (tgt : Int)) (kt : y ≤ x → xW G mt R Z tgt lv st M k n) (kf : ¬ y ≤ x → xW G mt R Z (pc + 3) lv st M k n) : xW G mt R Z pc lv (.int y :: .int x :: st) M k n := fun p e s m args below meth c H locs ls F hR hL hl => lv_icmp_ge F.1 F.2.1 hd ht (fun h => kt h p e s m args below meth c H locs ls F hR hL hl) (fun h => kf h p e s m args below meth c H locs ls F hR hL hl)
theorem xi_icmp_ge_t {x y : Int32} {off : Int} {tgt : Nat} (hd : decode mt.2.1 pc = .ok (.if_icmp .ge off, 3)) (ht : (pc : Int) + off = (tgt : Int)) (h : y ≤ x) (kt : xW G mt R Z tgt lv st M k n) : xW G mt R Z pc lv (.int y :: .int x :: st) M k n := xi_icmp_ge hd ht (fun _ => kt) (fun h' => absurd h h')
theorem xi_icmp_ge_f {x y : Int32} {off : Int} {tgt : Nat} (hd : decode mt.2.1 pc = .ok (.if_icmp .ge off, 3)) (ht : (pc : Int) + off = (tgt : Int)) (h : ¬ y ≤ x) (kf : xW G mt R Z (pc + 3) lv st M k n) : xW G mt R Z pc lv (.int y :: .int x :: st) M k n := xi_icmp_ge hd ht (fun h' => absurd h' h) (fun _ => kf)
theorem xi_icmp_gt {x y : Int32} {off : Int} {tgt : Nat} (hd : decode mt.2.1 pc = .ok (.if_icmp .gt off, 3)) (ht : (pc : Int) + off = (tgt : Int)) (kt : y < x → xW G mt R Z tgt lv st M k n) (kf : ¬ y < x → xW G mt R Z (pc + 3) lv st M k n) : xW G mt R Z pc lv (.int y :: .int x :: st) M k n := fun p e s m args below meth c H locs ls F hR hL hl => lv_icmp_gt F.1 F.2.1 hd ht (fun h => kt h p e s m args below meth c H locs ls F hR hL hl) (fun h => kf h p e s m args below meth c H locs ls F hR hL hl)
theorem xi_icmp_gt_t {x y : Int32} {off : Int} {tgt : Nat} (hd : decode mt.2.1 pc = .ok (.if_icmp .gt off, 3)) (ht : (pc : Int) + off = (tgt : Int)) (h : y < x) (kt : xW G mt R Z tgt lv st M k n) : xW G mt R Z pc lv (.int y :: .int x :: st) M k n := xi_icmp_gt hd ht (fun _ => kt) (fun h' => absurd h h')
theorem xi_icmp_gt_f {x y : Int32} {off : Int} {tgt : Nat} (hd : decode mt.2.1 pc = .ok (.if_icmp .gt off, 3)) (ht : (pc : Int) + off = (tgt : Int)) (h : ¬ y < x) (kf : xW G mt R Z (pc + 3) lv st M k n) : xW G mt R Z pc lv (.int y :: .int x :: st) M k n := xi_icmp_gt hd ht (fun h' => absurd h' h) (fun _ => kf)
theorem xi_icmp_le {x y : Int32} {off : Int} {tgt : Nat} (hd : decode mt.2.1 pc = .ok (.if_icmp .le off, 3)) (ht : (pc : Int) + off = (tgt : Int)) (kt : x ≤ y → xW G mt R Z tgt lv st M k n) (kf : ¬ x ≤ y → xW G mt R Z (pc + 3) lv st M k n) : xW G mt R Z pc lv (.int y :: .int x :: st) M k n := fun p e s m args below meth c H locs ls F hR hL hl => lv_icmp_le F.1 F.2.1 hd ht (fun h => kt h p e s m args below meth c H locs ls F hR hL hl) (fun h => kf h p e s m args below meth c H locs ls F hR hL hl)
theorem xi_icmp_le_t {x y : Int32} {off : Int} {tgt : Nat} (hd : decode mt.2.1 pc = .ok (.if_icmp .le off, 3)) (ht : (pc : Int) + off = (tgt : Int)) (h : x ≤ y) (kt : xW G mt R Z tgt lv st M k n) : xW G mt R Z pc lv (.int y :: .int x :: st) M k n := xi_icmp_le hd ht (fun _ => kt) (fun h' => absurd h h')
theorem xi_icmp_le_f {x y : Int32} {off : Int} {tgt : Nat} (hd : decode mt.2.1 pc = .ok (.if_icmp .le off, 3)) (ht : (pc : Int) + off = (tgt : Int)) (h : ¬ x ≤ y) (kf : xW G mt R Z (pc + 3) lv st M k n) : xW G mt R Z pc lv (.int y :: .int x :: st) M k n := xi_icmp_le hd ht (fun h' => absurd h' h) (fun _ => kf)
theorem xi_goto {off : Int} {tgt : Nat} (hd : decode mt.2.1 pc = .ok (.goto off, 3)) (ht : (pc : Int) + off = (tgt : Int)) (K : xW G mt R Z tgt lv st M k n) : xW G mt R Z pc lv st M k n := fun p e s m args below meth c H locs ls F hR hL hl => lv_goto F.1 F.2.1 hd ht (K p e s m args below meth c H locs ls F hR hL hl)
theorem xi_ifnull {x : Nat} {off : Int} (hd : decode mt.2.1 pc = .ok (.ifnull off, 3)) (K : xW G mt R Z (pc + 3) lv st M k n) : xW G mt R Z pc lv (.ref x :: st) M k n := fun p e s m args below meth c H locs ls F hR hL hl => lv_ifnull F.1 F.2.1 hd (K p e s m args below meth c H locs ls F hR hL hl)
theorem xi_ifnullN {off : Int} {tgt : Nat} (hd : decode mt.2.1 pc = .ok (.ifnull off, 3)) (ht : (pc : Int) + off = (tgt : Int)) (K : xW G mt R Z tgt lv st M k n) : xW G mt R Z pc lv (.null :: st) M k n := fun p e s m args below meth c H locs ls F hR hL hl => lv_ifnullN F.1 F.2.1 hd ht (K p e s m args below meth c H locs ls F hR hL hl)
theorem xi_ifnonnull {x : Nat} {off : Int} {tgt : Nat} (hd : decode mt.2.1 pc = .ok (.ifnonnull off, 3)) (ht : (pc : Int) + off = (tgt : Int)) (K : xW G mt R Z tgt lv st M k n) : xW G mt R Z pc lv (.ref x :: st) M k n := fun p e s m args below meth c H locs ls F hR hL hl => lv_ifnonnull F.1 F.2.1 hd ht (K p e s m args below meth c H locs ls F hR hL hl)
theorem xi_ifnonnullN {off : Int} (hd : decode mt.2.1 pc = .ok (.ifnonnull off, 3)) (K : xW G mt R Z (pc + 3) lv st M k n) : xW G mt R Z pc lv (.null :: st) M k n := fun p e s m args below meth c H locs ls F hR hL hl => lv_ifnonnullN F.1 F.2.1 hd (K p e s m args below meth c H locs ls F hR hL hl)
theorem xi_tableIn {df lo hi : Int} {offs : Array Int} {len : Nat} {x : Int32} {off : Int} {tgt : Nat} (hd : decode mt.2.1 pc = .ok (.tableswitch df lo hi offs, len)) (h1 : ¬ x.toInt < lo) (h2 : ¬ hi < x.toInt) (ho : offs[(x.toInt - lo).toNat]? = some off) (ht : (pc : Int) + off = (tgt : Int)) (K : xW G mt R Z tgt lv st M k n) : xW G mt R Z pc lv (.int x :: st) M k n := fun p e s m args below meth c H locs ls F hR hL hl => lv_tableIn F.1 F.2.1 hd h1 h2 ho ht (K p e s m args below meth c H locs ls F hR hL hl)
theorem xi_tableOut {df lo hi : Int} {offs : Array Int} {len : Nat} {x : Int32} {tgt : Nat} (hd : decode mt.2.1 pc = .ok (.tableswitch df lo hi offs, len)) (h : x.toInt < lo ∨ hi < x.toInt) (ht : (pc : Int) + df = (tgt : Int)) (K : xW G mt R Z tgt lv st M k n) : xW G mt R Z pc lv (.int x :: st) M k n := fun p e s m args below meth c H locs ls F hR hL hl => lv_tableOut F.1 F.2.1 hd h ht (K p e s m args below meth c H locs ls F hR hL hl)
theorem xi_iret {Q : Option Value → xMem → Prop} {mc ms : Nat} {v : Int32} {ty : FieldType} (hd : decode mt.2.1 pc = .ok (.ireturn, 1)) (hr : mt.2.2.2 = some ty) (hn : narrow ty (.int v) = .int v) (hk : k ≤ mc) (hs : n ≤ ms) (hq : Q (some (.int v)) M) : xW G mt R (xQ G Q mc ms) pc lv [.int v] M k n := fun p e s m args below meth c H locs ls F hR hL hl => W.widen hk hs (W.zret F.1 F.2.1 (F.2.2.2.1.trans hr) hn (fun t ht _ => ⟨some (.int v), M, rfl, hq, by rw [ht]; exact hR⟩) hL hd F.2.2.2.2.2.2.1)
theorem xi_vret {Q : Option Value → xMem → Prop} {mc ms : Nat} (hd : decode mt.2.1 pc = .ok (.return_, 1)) (hr : mt.2.2.2 = none) (hk : k ≤ mc) (hs : n ≤ ms) (hq : Q none M) : xW G mt R (xQ G Q mc ms) pc lv [] M k n := fun p e s m args below meth c H locs ls F hR hL hl => W.widen hk hs (W.vret F.1 F.2.1 (F.2.2.2.1.trans hr) (fun t ht _ => ⟨none, M, rfl, hq, by rw [ht]; exact hR⟩) hL hd F.2.2.2.2.2.2.1)
theorem xi_aret {Q : Option Value → xMem → Prop} {mc ms : Nat} {x : Nat} {ty : FieldType} (hd : decode mt.2.1 pc = .ok (.areturn, 1)) (hr : mt.2.2.2 = some ty) (hty : (∃ a, ty = .object a) ∨ ∃ t, ty = .array t) (hk : k ≤ mc) (hs : n ≤ ms) (hq : Q (some (.ref x)) M) : xW G mt R (xQ G Q mc ms) pc lv [.ref x] M k n := fun p e s m args below meth c H locs ls F hR hL hl => W.widen hk hs (W.aret F.1 F.2.1 (F.2.2.2.1.trans hr) hty (Or.inr ⟨_, rfl⟩) (fun t ht _ => ⟨some (.ref x), M, rfl, hq, by rw [ht]; exact hR⟩) hL hd F.2.2.2.2.2.2.1)
theorem xi_aretN {Q : Option Value → xMem → Prop} {mc ms : Nat} {ty : FieldType} (hd : decode mt.2.1 pc = .ok (.areturn, 1)) (hr : mt.2.2.2 = some ty) (hty : (∃ a, ty = .object a) ∨ ∃ t, ty = .array t) (hk : k ≤ mc) (hs : n ≤ ms) (hq : Q (some .null) M) : xW G mt R (xQ G Q mc ms) pc lv [.null] M k n := fun p e s m args below meth c H locs ls F hR hL hl => W.widen hk hs (W.aret (v := .null) F.1 F.2.1 (F.2.2.2.1.trans hr) hty (Or.inl rfl) (fun t ht _ => ⟨some .null, M, rfl, hq, by rw [ht]; exact hR⟩) hL hd F.2.2.2.2.2.2.1)
end XI
end
section
/-! rows of the layer: cells and calls -/
/-- what the tables say of a class of which objects are made -/
def xok (r : vw_C) : Prop := (∀ w ∈ u_ws r.1 r.2.1 r.2.2, w ∈ xWall) ∧ (∃ ty : Nat → FieldType, ∀ k, k < r.2.2 → parseFieldDescriptor (r.2.1 k).2.2.1 = some (ty k)) ∧ ∀ a, a < r.2.2 → ∀ b, b < r.2.2 → a ≠ b → (r.2.1 a).2.1 ≠ (r.2.1 b).2.1
theorem xws {C : String} {T : u_T} {N : Nat} (h : ∀ k, k < N → u_lay C T k ∈ xWall) : ∀ w ∈ u_ws C T N, w ∈ xWall := by
  intro w hw
  obtain ⟨k, hk, rfl⟩ := List.mem_map.mp hw
  exact h k (List.mem_range.mp hk)
section XR
variable {G : xG} {M : xMem} {H H1 : Heap}
theorem xR.lt (h : xR G M H) {i : Nat} {c : va_E} (hi : M[i]? = some c) : G.2.2.2.1 + i < H.size := by
  have := (List.getElem?_eq_some_iff.mp hi).1
  rw [h.1]; omega
theorem xR.one (h : xR G M H) {i : Nat} {c : va_E} (hi : M[i]? = some c) : va_P G.2.1 xcls [(G.2.2.2.1 + i, xce G c)] H := by
  intro k q hk
  have hz : k < 1 := (List.getElem?_eq_some_iff.mp hk).1
  have e : k = 0 := by omega
  subst e
  cases hk
  exact h.2.1 i c hi
theorem xR.set (h : xR G M H) {i : Nat} {c0 c : va_E} (hi : M[i]? = some c0) (he : va_at G.2.1 xcls (G.2.2.2.1 + i, xce G c) H1) (z : H1.size = H.size) (oq : ∀ q : Nat, q ≠ G.2.2.2.1 + i → H1[q]? = H[q]?) : xR G (M.set i c) H1 := by
  have hl := (List.getElem?_eq_some_iff.mp hi).1
  refine ⟨by rw [z, h.1, List.length_set], fun j d hj => ?_, fun q hq => ?_⟩
  · by_cases hji : j = i
    · subst hji
      rw [List.getElem?_set_self hl] at hj
      cases hj
      exact he
    · rw [List.getElem?_set_ne (Ne.symm hji)] at hj
      exact (h.2.1 j d hj).kept (oq _ (fun e => hji (by omega)))
  · rw [oq q (by omega)]
    exact h.2.2 q hq
theorem xR.push (h : xR G M H) {c : va_E} (he : va_at G.2.1 xcls (G.2.2.2.1 + M.length, xce G c) H1) (z : H1.size = H.size + 1) (o : ∀ q : Nat, q < H.size → H1[q]? = H[q]?) : xR G (M ++ [c]) H1 := by
  refine ⟨by rw [z, h.1, List.length_append]; rfl, fun j d hj => ?_, fun q hq => ?_⟩
  · by_cases hjl : j < M.length
    · rw [List.getElem?_append_left hjl] at hj
      exact (h.2.1 j d hj).kept (o _ (by have := h.lt hj; exact this))
    · rw [List.getElem?_append_right (by omega)] at hj
      have hz : j - M.length < 1 := (List.getElem?_eq_some_iff.mp hj).1
      have e : j = M.length := by omega
      subst e
      rw [Nat.sub_self] at hj
      cases hj
      exact he
  · rw [o q (by rw [h.1]; omega)]
    exact h.2.2 q hq
end XR
theorem xlocs {b : Nat} {locs : List Loc} {x : Loc} (h : ∀ q ∈ locs, b ≤ q.base) (hx : b ≤ x.base) : ∀ q ∈ locs ++ [x], b ≤ q.base := by
  intro q hq
  rcases List.mem_append.mp hq with h1 | h1
  · exact h q h1
  · rw [List.mem_singleton.mp h1]; exact hx
section XM
variable {G : xG} {mt : xM} {R : Room} {Z : xZ} {pc : Nat} {lv : List (Nat × Value)} {st : List Value} {M : xMem} {k n : Nat}
/-- a field is read -/
theorem xi_get {i ci f idx N : Nat} {C : String} {T : u_T} {fs : List Value} {v : Value} (hd : decode mt.2.1 pc = .ok (.getfield idx, 3)) (hM : M[i]? = some (.inr (ci, fs))) (hc : xcls[ci]? = some (C, T, N)) (ho : xok (C, T, N)) (hf : f < N) (hw : Cond.fieldLink mt.1.cls idx (T f).1 (T f).2.1 (T f).2.2.1 ∈ xWall) (hv : fs[f]? = some v)
    (K : xW G mt R Z (pc + 3) lv (v :: st) M k n) : xW G mt R Z pc lv (.ref i :: st) M k n := by
  intro p e s m args below meth c H locs ls F hR hL hl
  exact va_get (D := G.2.1) (cl := xcls) (tys := xtys G) (ws := [(G.2.2.2.1 + i, xce G (.inr (ci, fs)))]) (C := C) (T := T) (N := N) (ci := ci) (fs := fs.map (xcv G)) (v := xcv G v) F.1 F.2.1 F.2.2.2.2.2.1 ho.1 F.2.2.2.2.1 F.2.2.2.2.2.2.2.2.1 (hR.one hM) 0 rfl hc f hf (F.2.2.2.2.2.1 _ hw) (fun _ h => h) (by rw [List.getElem?_map, hv]; rfl) hd (K p e s m args below meth c H locs ls F hR hL hl)
theorem xfit (G : xG) {ty : FieldType} {v : Value} (hty : ∀ w, v = .float w → False) (hn : narrow ty v = v) (hf : fits ty v = true) : narrow ty (xcv G v) = xcv G v ∧ fits ty (xcv G v) = true := by
  cases v with
  | ref i => exact ⟨by cases ty <;> rfl, by cases ty <;> first | exact hf | rfl⟩
  | float w => exact (hty w rfl).elim
  | _ => exact ⟨hn, hf⟩
/-- a field is written -/
theorem xi_put {i ci f idx N : Nat} {C : String} {T : u_T} {fs : List Value} {v : Value} {ty : FieldType} {M' : xMem} (hd : decode mt.2.1 pc = .ok (.putfield idx, 3)) (hM : M[i]? = some (.inr (ci, fs))) (hc : xcls[ci]? = some (C, T, N)) (ho : xok (C, T, N)) (hf : f < N) (hw : Cond.fieldLink mt.1.cls idx (T f).1 (T f).2.1 (T f).2.2.1 ∈ xWall) (hfin : (T f).2.2.2 = false) (hp : parseFieldDescriptor (T f).2.2.1 = some ty) (hs : ∀ w, v = .float w → False) (hn : narrow ty v = v) (hfit : fits ty v = true) (hlen : f < fs.length) (hM' : M.set i (.inr (ci, fs.set f v)) = M')
    (K : xW G mt R Z (pc + 3) lv st M' k n) : xW G mt R Z pc lv (v :: .ref i :: st) M k n := by
  intro p e s m args below meth c H locs ls F hR hL hl
  obtain ⟨ty0, hty⟩ := ho.2.1
  have hts := F.2.2.2.2.2.1
  have hKa := F.2.2.2.2.2.2.2.2.1
  have hap := va_apart (own := mt.1.cls) hts ho.1 ty0 hty ho.2.2 hKa hc
  obtain ⟨r, h1, cell, q1, q2, q3, q4⟩ := (hR.one hM) 0 _ rfl
  have hr : r = (C, T, N) := Option.some.inj (h1.symm.trans hc)
  subst hr
  obtain ⟨hS, hfc, kC, hkC, hkind⟩ := hKa.1 ci _ hc
  obtain ⟨cf, kf, fi, fd, hi, hsl⟩ := hS f hf
  have hlay := hts _ (ho.1 _ (u_in_lay hf))
  unfold u_lay at hlay
  rw [if_neg (by show ¬ (T f).2.2.2 = true; rw [hfin]; decide)] at hlay
  have hst := (u_facts hfc hkC (u_lays hts ho.1 hf) hi).1
  have h6 := u_store hfc hkC hkind hlay hi hp (xfit G hs hn hfit).1 (xfit G hs hn hfit).2
  refine W.putK (a := G.2.2.2.1 + i) (v := xcv G v) F.1 F.2.1 (f := fd) ⟨F.2.2.2.2.1, hts _ hw, ⟨_, _, _, hi⟩, hst⟩ (by rw [q2]; exact h6) q1 q3 (by rw [hsl]; exact k2_hasslot (q4 f hf)) rfl rfl hd fun H' e1 e2 e3 => ?_
  rw [hsl] at e1 ⊢
  subst hM'
  refine K p e s m args below meth c H' _ ls F (hR.set (c := .inr (ci, fs.set f v)) hM ⟨_, hc, ?_⟩ e2 e3) (xlocs hL (Nat.le_add_right _ _)) hl
  have hset : (fs.set f v).map (xcv G) = (fs.map (xcv G)).set f (xcv G v) := by rw [List.map_set]
  show t_OB _ _ _ _ _ (vp_V ((fs.set f v).map (xcv G)))
  rw [hset]
  exact t_OB.to (V := updV (vp_V (fs.map (xcv G))) f (xcv G v)) ⟨_, e1, q2, q3, t_set q4 hap hf (xcv G v)⟩ (fun j _ => vp_updV_set (by rw [List.length_map]; exact hlen) (xcv G v) j)
/-- a final field is written, in the constructor -/
theorem xi_putF {i ci f idx N : Nat} {C : String} {T : u_T} {fs : List Value} {v : Value} {ty : FieldType} {M' : xMem} (hd : decode mt.2.1 pc = .ok (.putfield idx, 3)) (hM : M[i]? = some (.inr (ci, fs))) (hc : xcls[ci]? = some (C, T, N)) (ho : xok (C, T, N)) (hf : f < N) (hw : Cond.fieldLink mt.1.cls idx (T f).1 (T f).2.1 (T f).2.2.1 ∈ xWall) (hfin : (T f).2.2.2 = true) (hinit : mt.1.name = "<init>") (hdecl : (T f).1 = mt.1.cls) (hp : parseFieldDescriptor (T f).2.2.1 = some ty) (hs : ∀ w, v = .float w → False) (hn : narrow ty v = v) (hfit : fits ty v = true) (hlen : f < fs.length) (hM' : M.set i (.inr (ci, fs.set f v)) = M')
    (K : xW G mt R Z (pc + 3) lv st M' k n) : xW G mt R Z pc lv (v :: .ref i :: st) M k n := by
  intro p e s m args below meth c H locs ls F hR hL hl
  obtain ⟨ty0, hty⟩ := ho.2.1
  have hts := F.2.2.2.2.2.1
  have hKa := F.2.2.2.2.2.2.2.2.1
  have hown := F.2.2.2.2.1
  have hap := va_apart (own := mt.1.cls) hts ho.1 ty0 hty ho.2.2 hKa hc
  obtain ⟨r, h1, cell, q1, q2, q3, q4⟩ := (hR.one hM) 0 _ rfl
  have hr : r = (C, T, N) := Option.some.inj (h1.symm.trans hc)
  subst hr
  obtain ⟨hS, hfc, kC, hkC, hkind⟩ := hKa.1 ci _ hc
  obtain ⟨cf, kf, fi, fd, hi, hsl⟩ := hS f hf
  have hlay := hts _ (ho.1 _ (u_in_lay hf))
  unfold u_lay at hlay
  rw [if_pos hfin] at hlay
  have hst := (u_facts hfc hkC (u_lays hts ho.1 hf) hi).1
  have hcf : m.cls = cf := by
    obtain ⟨_, _, c', _, _, _, -, -, hf', -, -, -, hown2, -⟩ := Cond.laysFinal_spec hlay
    have e1 : c' = cf := by have := hi.symm.trans hf'; simp at this; exact this.1.symm
    rw [hdecl] at hown2
    rw [← e1]; exact Option.some.inj (hown.symm.trans hown2)
  have h6 := u_fits hfc hkC hkind (Or.inr hlay) hi hp (xfit G hs hn hfit).1 (xfit G hs hn hfit).2
  refine W.putFinK (a := G.2.2.2.1 + i) (v := xcv G v) F.1 F.2.1 hown (hts _ hw) hi hst hcf (F.2.2.2.2.2.2.2.1.trans hinit) (by rw [q2]; exact h6) q1 q3 (by rw [hsl]; exact k2_hasslot (q4 f hf)) rfl rfl hd fun H' e1 e2 e3 => ?_
  rw [hsl] at e1 ⊢
  subst hM'
  refine K p e s m args below meth c H' _ ls F (hR.set (c := .inr (ci, fs.set f v)) hM ⟨_, hc, ?_⟩ e2 e3) (xlocs hL (Nat.le_add_right _ _)) hl
  have hset : (fs.set f v).map (xcv G) = (fs.map (xcv G)).set f (xcv G v) := by rw [List.map_set]
  show t_OB _ _ _ _ _ (vp_V ((fs.set f v).map (xcv G)))
  rw [hset]
  exact t_OB.to (V := updV (vp_V (fs.map (xcv G))) f (xcv G v)) ⟨_, e1, q2, q3, t_set q4 hap hf (xcv G v)⟩ (fun j _ => vp_updV_set (by rw [List.length_map]; exact hlen) (xcv G v) j)
/-- arrays of ints -/
theorem xi_iaload {i N : Nat} {f : Nat → Int32} {j v : Int32} (hd : decode mt.2.1 pc = .ok (.iaload, 1)) (hM : M[i]? = some (.inl (0, N, .inl f))) (hin : vp_in j N) (hv : f j.toNatClampNeg = v)
    (K : xW G mt R Z (pc + 1) lv (.int v :: st) M k n) : xW G mt R Z pc lv (.int j :: .ref i :: st) M k n := by
  subst hv
  intro p e s m args below meth c H locs ls F hR hL hl
  exact va_iald (tys := xtys G) (ws := [(G.2.2.2.1 + i, xce G (.inl (0, N, .inl f)))]) F.1 F.2.1 F.2.2.2.2.2.2.2.2.1 (hR.one hM) 0 0 rfl rfl hin hd (K p e s m args below meth c H locs ls F hR hL hl)
theorem xi_baload {i N : Nat} {f : Nat → Int32} {j v : Int32} (hd : decode mt.2.1 pc = .ok (.baload, 1)) (hM : M[i]? = some (.inl (1, N, .inl f))) (hin : vp_in j N) (hv : f j.toNatClampNeg = v)
    (K : xW G mt R Z (pc + 1) lv (.int v :: st) M k n) : xW G mt R Z pc lv (.int j :: .ref i :: st) M k n := by
  subst hv
  intro p e s m args below meth c H locs ls F hR hL hl
  exact va_bald (tys := xtys G) (ws := [(G.2.2.2.1 + i, xce G (.inl (1, N, .inl f)))]) F.1 F.2.1 F.2.2.2.2.2.2.2.2.1 (hR.one hM) 0 1 rfl rfl hin hd (K p e s m args below meth c H locs ls F hR hL hl)
theorem xi_alen {i t N : Nat} {f : Nat → Int32} {v : Int32} {ty : FieldType} (hd : decode mt.2.1 pc = .ok (.arraylength, 1)) (hM : M[i]? = some (.inl (t, N, .inl f))) (ht : (xtys G)[t]? = some (G.2.2.1 t, ty)) (hv : Int32.ofNat N = v)
    (K : xW G mt R Z (pc + 1) lv (.int v :: st) M k n) : xW G mt R Z pc lv (.ref i :: st) M k n := by
  intro p e s m args below meth c H locs ls F hR hL hl
  exact va_alen (tys := xtys G) (ws := [(G.2.2.2.1 + i, xce G (.inl (t, N, .inl f)))]) F.1 F.2.1 F.2.2.2.2.2.2.2.2.1 (hR.one hM) 0 t rfl ht hv hd (K p e s m args below meth c H locs ls F hR hL hl)
theorem xi_aaload {i t N : Nat} {C : String} {f : Nat → Option Nat} {j : Int32} {v : Value} (hd : decode mt.2.1 pc = .ok (.aaload, 1)) (hM : M[i]? = some (.inl (t, N, .inr (.inr (.inr (.inr f)))))) (ht : (xtys G)[t]? = some (G.2.2.1 t, .object C)) (hin : vp_in j N) (hv : va_rf (f j.toNatClampNeg) = v)
    (K : xW G mt R Z (pc + 1) lv (v :: st) M k n) : xW G mt R Z pc lv (.int j :: .ref i :: st) M k n := by
  subst hv
  intro p e s m args below meth c H locs ls F hR hL hl
  refine va_aldq (tys := xtys G) (ws := [(G.2.2.2.1 + i, xce G (.inl (t, N, .inr (.inr (.inr (.inr f)))))) ]) F.1 F.2.1 F.2.2.2.2.2.2.2.2.1 (hR.one hM) 0 t rfl ht hin hd ?_
  have hk := K p e s m args below meth c H locs ls F hR hL hl
  have e : xcs G (va_rf (f j.toNatClampNeg) :: st) = va_rf ((f j.toNatClampNeg).map (fun q => G.2.2.2.1 + q)) :: xcs G st := by
    cases f j.toNatClampNeg <;> rfl
  rw [e] at hk
  exact hk
theorem xi_iastore {i N : Nat} {f : Nat → Int32} {j x : Int32} {M' : xMem} (hd : decode mt.2.1 pc = .ok (.iastore, 1)) (hM : M[i]? = some (.inl (0, N, .inl f))) (hin : vp_in j N) (hM' : M.set i (.inl (0, N, .inl (upd f j.toNatClampNeg x))) = M')
    (K : xW G mt R Z (pc + 1) lv st M' k n) : xW G mt R Z pc lv (.int x :: .int j :: .ref i :: st) M k n := by
  intro p e s m args below meth c H locs ls F hR hL hl
  have hKa := F.2.2.2.2.2.2.2.2.1
  subst hM'
  refine W.iast (a := G.2.2.2.1 + i) F.1 F.2.1 (hR.2.1 i _ hM) ((hKa.2 0 _ rfl).1 N (fun j => .int (f j))) (fun q => by cases q) (by show ¬ (j < 0 ∨ (arrV _ _ _).slots.size ≤ _); rw [arrV_size]; exact hin) rfl rfl hd fun H1 e1 z oq => ?_
  refine K p e s m args below meth c H1 _ ls F (hR.set (c := .inl (0, N, .inl (upd f j.toNatClampNeg x))) hM ?_ z oq) (xlocs hL (Nat.le_add_right _ _)) hl
  show H1[G.2.2.2.1 + i]? = some (vp_cell _ _)
  rw [e1]
  show some ((arrV _ _ _).setSlot _ _) = _
  rw [vp_cell_i, arrV_store]
  congr 2
  funext q
  by_cases hq : q = j.toNatClampNeg
  · subst hq
    simp [updV, upd]
  · simp [updV, upd, hq]
theorem xi_bastore {i N : Nat} {f : Nat → Int32} {j x : Int32} {M' : xMem} (hd : decode mt.2.1 pc = .ok (.bastore, 1)) (hM : M[i]? = some (.inl (1, N, .inl f))) (hin : vp_in j N) (hM' : M.set i (.inl (1, N, .inl (upd f j.toNatClampNeg x.toInt8.toInt32))) = M')
    (K : xW G mt R Z (pc + 1) lv st M' k n) : xW G mt R Z pc lv (.int x :: .int j :: .ref i :: st) M k n := by
  intro p e s m args below meth c H locs ls F hR hL hl
  have hKa := F.2.2.2.2.2.2.2.2.1
  subst hM'
  refine W.bast (a := G.2.2.2.1 + i) F.1 F.2.1 (hR.2.1 i _ hM) ((hKa.2 1 _ rfl).1 N (fun j => .int (f j))) (fun q => by cases q) (by show ¬ (j < 0 ∨ (arrV _ _ _).slots.size ≤ _); rw [arrV_size]; exact hin) rfl rfl hd fun H1 e1 z oq => ?_
  refine K p e s m args below meth c H1 _ ls F (hR.set (c := .inl (1, N, .inl (upd f j.toNatClampNeg x.toInt8.toInt32))) hM ?_ z oq) (xlocs hL (Nat.le_add_right _ _)) hl
  show H1[G.2.2.2.1 + i]? = some (vp_cell _ _)
  rw [e1]
  show some ((arrV _ _ _).setSlot _ _) = _
  rw [vp_cell_i, arrV_store]
  congr 2
  funext q
  by_cases hq : q = j.toNatClampNeg
  · subst hq
    simp [updV, upd, narrow_byte]
  · simp [updV, upd, hq]
theorem xi_aastore {i t N x ci : Nat} {r : vw_C} {vs : List Value} {f : Nat → Option Nat} {j : Int32} {M' : xMem} (hd : decode mt.2.1 pc = .ok (.aastore, 1)) (hM : M[i]? = some (.inl (t, N, .inr (.inr (.inr (.inr f)))))) (ht : (xtys G)[t]? = some (G.2.2.1 t, .object r.1)) (hv : M[x]? = some (.inr (ci, vs))) (hc : xcls[ci]? = some r) (hin : vp_in j N) (hM' : M.set i (.inl (t, N, .inr (.inr (.inr (.inr (va_up f j.toNatClampNeg (some x))))))) = M')
    (K : xW G mt R Z (pc + 1) lv st M' k n) : xW G mt R Z pc lv (.ref x :: .int j :: .ref i :: st) M k n := by
  intro p e s m args below meth c H locs ls F hR hL hl
  have hKa := F.2.2.2.2.2.2.2.2.1
  subst hM'
  have hlt : j.toNatClampNeg < N := Nat.not_le.mp fun q => hin (Or.inr q)
  have h0 : ¬ j < 0 := fun q => hin (Or.inl q)
  obtain ⟨r', hr', cellV, g1, g2, g3, -⟩ := hR.2.1 x _ hv
  have hcls := (hKa.1 ci r hc).2
  obtain ⟨kA, comp, k1, k2, k3, -⟩ := (hKa.2 t _ ht).2
  have hcomp : comp = G.2.1.1 ci := Option.some.inj (k3.symm.trans hcls.1)
  subst hcomp
  obtain ⟨kC, hkC, -⟩ := hcls.2
  refine W.aast (a := G.2.2.2.1 + i) (v := G.2.2.2.1 + x) F.1 F.2.1 (hR.2.1 i _ hM) (fun q h => by cases h) (fun h => by cases h) k1 k2 rfl hkC ⟨h0, by show _ < (arrV _ _ _).slots.size; rw [arrV_size]; exact hlt⟩ g1 (fun q h => by rw [g3] at h; cases h) (by rw [g2]; exact hkC) (by rw [g2]; exact va_assign hcls) rfl rfl hd fun H1 e1 z oq => ?_
  refine K p e s m args below meth c H1 _ ls F (hR.set (c := .inl (t, N, .inr (.inr (.inr (.inr (va_up f j.toNatClampNeg (some x))))))) hM ?_ z oq) (xlocs hL (Nat.le_add_right _ _)) hl
  show H1[G.2.2.2.1 + i]? = some (vp_cell _ _)
  rw [e1]
  show some ((arrV _ _ _).setSlot _ _) = _
  rw [vp_cell_q, arrV_store]
  congr 2
  funext q
  by_cases hq : q = j.toNatClampNeg
  · subst hq
    simp [updV, va_up, va_rf]
  · simp [updV, va_up, hq]
end XM
end
section
/-! rows of the layer: making, calls, strings, the script -/
section XN
variable {G : xG} {mt : xM} {R : Room} {Z : xZ} {pc : Nat} {lv : List (Nat × Value)} {st : List Value} {M : xMem} {k n : Nat}
theorem xi_new {i ci idx N : Nat} {C : String} {T : u_T} {fs : List Value} {M' : xMem} (hd : decode mt.2.1 pc = .ok (.new idx, 3)) (hc : xcls[ci]? = some (C, T, N)) (ho : xok (C, T, N)) (hw : Cond.classLink mt.1.cls idx C ∈ xWall) (hin : Cond.instantiable C N ∈ xWall) (hini : Cond.initialized C ∈ xWall) (hfs : ∀ j, j < N → (parseFieldDescriptor (T j).2.2.1).map defaultValue = some (vp_V fs j)) (hfx : fs.map (xcv G) = fs) (hlen : M.length = i) (hM' : M ++ [.inr (ci, fs)] = M') (hcells : k + 1 ≤ R.cells) (hslots : n + N ≤ R.slots)
    (K : xW G mt R Z (pc + 3) lv (.ref i :: st) M' (k + 1) (n + N)) : xW G mt R Z pc lv st M k n := by
  intro p e s m args below meth c H locs ls F hR hL hl
  obtain ⟨ty0, hty⟩ := ho.2.1
  have hts := F.2.2.2.2.2.1
  have hKa := F.2.2.2.2.2.2.2.2.1
  have hKn := hKa.1 ci _ hc
  subst hlen
  subst hM'
  refine W.newcK F.1 F.2.1 F.2.2.2.2.1 (hts _ hw) (hts _ hin) (hts _ hini) rfl hd hcells hslots hKn.2.1 hR.1 fun H1 kC hkC e1 z1 o1 => ?_
  refine K p e s m args below meth c H1 locs ls F (hR.push (c := .inr (ci, fs)) ⟨_, hc, ?_⟩ (by rw [z1, hR.1]) (fun q hq => o1 q (by rw [← hR.1]; exact hq))) hL hl
  show t_OB _ _ _ _ _ (vp_V (fs.map (xcv G)))
  rw [hfx]
  refine (u_born ty0 hts ho.1 hKn hkC e1 hty).to (fun j hj => ?_)
  have h1 := hfs j hj
  have h2 := hty j hj
  dsimp only at h2
  rw [h2] at h1
  exact Option.some.inj h1
theorem xi_newI {i N : Nat} {x : Int32} {M' : xMem} (hd : decode mt.2.1 pc = .ok (.newarray .int, 2)) (hw : Cond.arrayClass .int ∈ xWall) (hx : ¬ x < 0) (hN : x.toNatClampNeg = N) (hb : N * 4 ≤ 536870912) (hlen : M.length = i) (hM' : M ++ [.inl (0, N, .inl (fun _ => 0))] = M') (hcells : k + 1 ≤ R.cells) (hslots : n + N ≤ R.slots)
    (K : xW G mt R Z (pc + 2) lv (.ref i :: st) M' (k + 1) (n + N)) : xW G mt R Z pc lv (.int x :: st) M k n := by
  intro p e s m args below meth c H locs ls F hR hL hl
  have hKa := F.2.2.2.2.2.2.2.2.1
  subst hlen
  subst hM'
  refine va_newaK (atype := .int) F.1 F.2.1 (F.2.2.2.2.2.1 _ hw) rfl hd rfl hx hN hb hcells hslots hR.1 fun H1 cA e1 z1 o1 hAr hNm => ?_
  have hcA : cA = G.2.2.1 0 := Option.some.inj (hNm.symm.trans (hKa.2 0 _ rfl).2)
  subst hcA
  exact K p e s m args below meth c H1 locs ls F (hR.push (c := .inl (0, N, .inl (fun _ => 0))) e1 (by rw [z1, hR.1]) (fun q hq => o1 q (by rw [← hR.1]; exact hq))) hL hl
theorem xi_newB {i N : Nat} {x : Int32} {M' : xMem} (hd : decode mt.2.1 pc = .ok (.newarray .byte, 2)) (hw : Cond.arrayClass .byte ∈ xWall) (hx : ¬ x < 0) (hN : x.toNatClampNeg = N) (hb : N * 1 ≤ 536870912) (hlen : M.length = i) (hM' : M ++ [.inl (1, N, .inl (fun _ => 0))] = M') (hcells : k + 1 ≤ R.cells) (hslots : n + N ≤ R.slots)
    (K : xW G mt R Z (pc + 2) lv (.ref i :: st) M' (k + 1) (n + N)) : xW G mt R Z pc lv (.int x :: st) M k n := by
  intro p e s m args below meth c H locs ls F hR hL hl
  have hKa := F.2.2.2.2.2.2.2.2.1
  subst hlen
  subst hM'
  refine va_newaK (atype := .byte) F.1 F.2.1 (F.2.2.2.2.2.1 _ hw) rfl hd rfl hx hN hb hcells hslots hR.1 fun H1 cA e1 z1 o1 hAr hNm => ?_
  have hcA : cA = G.2.2.1 1 := Option.some.inj (hNm.symm.trans (hKa.2 1 _ rfl).2)
  subst hcA
  exact K p e s m args below meth c H1 locs ls F (hR.push (c := .inl (1, N, .inl (fun _ => 0))) e1 (by rw [z1, hR.1]) (fun q hq => o1 q (by rw [← hR.1]; exact hq))) hL hl
theorem xi_newQ {i t N idx : Nat} {C : String} {x : Int32} {M' : xMem} (hd : decode mt.2.1 pc = .ok (.anewarray idx, 3)) (hw : Cond.classLink mt.1.cls idx C ∈ xWall) (hC : C ∈ xaos) (ht : (xtys G)[t]? = some (G.2.2.1 t, .object C)) (hx : ¬ x < 0) (hN : x.toNatClampNeg = N) (hb : N * 4 ≤ 536870912) (hlen : M.length = i) (hM' : M ++ [.inl (t, N, .inr (.inr (.inr (.inr (fun _ => none)))))] = M') (hcells : k + 1 ≤ R.cells) (hslots : n + N ≤ R.slots)
    (K : xW G mt R Z (pc + 3) lv (.ref i :: st) M' (k + 1) (n + N)) : xW G mt R Z pc lv (.int x :: st) M k n := by
  intro p e s m args below meth c H locs ls F hR hL hl
  have hKa := F.2.2.2.2.2.2.2.2.1
  subst hlen
  subst hM'
  subst hN
  refine W.anew F.1 F.2.1 F.2.2.2.2.1 (F.2.2.2.2.2.1 _ hw) (va_AO.use (F.2.2.2.2.2.2.2.2.2.2.1 C hC)) rfl hd rfl hx hb hcells hslots fun cA kA comp f1 f2 f3 f4 => ?_
  generalize hH1 : H.push ({ cls := cA, slots := Array.replicate x.toNatClampNeg .null, vm := .none } : Cell) = H1
  have z1 : H1.size = H.size + 1 := by rw [← hH1, Array.size_push]
  have e1 : H1[H.size]? = some (arrV cA x.toNatClampNeg (fun _ => .null)) := by rw [← hH1, Array.getElem?_push_size, ← arrV_new]
  have o1 : ∀ q : Nat, q < H.size → H1[q]? = H[q]? := fun q hq => by rw [← hH1, Array.getElem?_push, if_neg (Nat.ne_of_lt hq)]
  obtain ⟨-, -, -, -, -, g4⟩ := (hKa.2 t _ ht).2
  have hcA : cA = G.2.2.1 t := Option.some.inj (f1.symm.trans g4)
  subst hcA
  have hk := K p e s m args below meth c H1 locs ls F (hR.push (c := .inl (t, x.toNatClampNeg, .inr (.inr (.inr (.inr (fun _ => none)))))) (by show H1[_]? = _; rw [← hR.1]; exact e1) z1 o1) hL hl
  show W _ _ _ _ _ _ _ _ _ _ _ _ _ _ _ (F0 m (pc + 3) ls (.ref H.size :: xcs G st))
  rw [hR.1]
  exact hk
/-- Object's constructor -/
theorem xi_obj {i idx : Nat} (hd : decode mt.2.1 pc = .ok (.invokespecial idx, 3)) (hw : Cond.methodLink mt.1.cls idx objectInit ∈ xWall) (hi : Cond.instanceMethod objectInit ∈ xWall) (hc : Cond.code objectInit ⟨#[0xb1]⟩ 1 none ∈ xWall) (hst : (st.map fun v => v.category).sum ≤ 8) (hfr : 1 ≤ R.frames) (hlo : 20 ≤ R.locals)
    (K : xW G mt R Z (pc + 3) lv st M k n) : xW G mt R Z pc lv (.ref i :: st) M k n := by
  intro p e s m args below meth c H locs ls F hR hL hl
  have hts := F.2.2.2.2.2.1
  refine W.objInit F.1 F.2.1 F.2.2.2.2.1 (hts _ hw) (hts _ hi) (hts _ hc) rfl (by show ls.size = _; rw [hl.1, F.2.2.1]) (a := G.2.2.2.1 + i) (rest := xcs G st) rfl hd hfr ?_ (K p e s m args below meth c H locs ls F hR hL hl)
  have e : ((xcs G st).map fun v => v.category).sum = (st.map fun v => v.category).sum := by
    unfold xcs
    rw [List.map_map]
    congr 1
    exact List.map_congr_left (fun v _ => xcv_cat G v)
  show 2 * 0 + _ + 12 ≤ _
  rw [e]
  omega
/-- what a call of mt' needs of the tables -/
def xMok (mt' : xM) (na : Nat) : Prop := Cond.code mt'.1 mt'.2.1 mt'.2.2.1 mt'.2.2.2 ∈ xWall ∧ Cond.initialized mt'.1.cls ∈ xWall ∧ (mt'.1.cls ≠ "java/lang/invoke/MethodHandle" ∧ mt'.1.cls ≠ "java/lang/invoke/VarHandle" ∧ (parseMethodDescriptor mt'.1.desc).map (fun d => d.parameters.length) = some na)
theorem xgood {mt' : xM} {na : Nat} (h : xMok mt' na) : GoodIn xWall (.code mt'.1 mt'.2.1 mt'.2.2.1 mt'.2.2.2 :: xWall) := by
  intro w hw
  have hm : w ∈ xWall := by
    rcases List.mem_cons.mp hw with h1 | h1
    · rw [h1]; exact h.1
    · exact h1
  exact ⟨hm, good_of_word (xWall_good hm)⟩
theorem xblind (G : xG) (as : List Value) (M : xMem) : FrameBlind (xPc G as M) := fun a U g mk h => ⟨h.1, h.2.1, xK.same (u := U) (U := U.calling g mk a) rfl h.2.2⟩
theorem xroom (G : xG) {m : MethodId} {ls : Array Slot} {rest : List Value} (h : (rest.map fun v => v.category).sum ≤ 8) (st0 : List Value) : 2 * (F0 m pc ls st0).monitorRoom + ((xcs G rest).map fun v => v.category).sum ≤ 8 := by
  have e : ((xcs G rest).map fun v => v.category).sum = (rest.map fun v => v.category).sum := by
    unfold xcs
    rw [List.map_map]
    congr 1
    exact List.map_congr_left (fun v _ => xcv_cat G v)
  show 2 * 0 + _ ≤ 8
  rw [e]
  omega
theorem xafter {p : Program} {e : Env} {s : State} {m : MethodId} {args a : Array Value} {below : List Frame} {meth : Method} {c : Code} {H : Heap} {locs : List Loc} {ls : Array Slot} {mc ms : Nat} {st0 rest : List Value} {Q : Option Value → xMem → Prop} (hr : va_Run p G.1 e R s m args below meth c H locs k n mc ms (F0 m pc ls st0) (xcs G rest) (xQc G Q a) (fun q => G.2.2.2.1 ≤ q)) (F : xF G mt p s m args meth c) (hL : ∀ q ∈ locs, G.2.2.2.1 ≤ q.base) (hl : lv_has ls mt.2.2.1 (xcl G lv))
    (K : ∀ (v : Option Value) (M' : xMem), Q v M' → xW G mt R Z (pc + 3) lv (v.toList ++ rest) M' (k + mc) (n + ms)) : W p G.1 e R s m args below meth c H locs k n (Z below args s) (F0 m pc ls st0) := by
  intro T hT X
  obtain ⟨v, st₀, t, T', L, h0, X', hLL, e1, e2, ⟨v0, M', hv, hq, hrel⟩, hst⟩ := hr T hT X
  cases hv
  obtain ⟨t2, a1, b1⟩ := K v0 M' hq p e s m args below meth c T'.heap (locs ++ L) ls F (by rw [e1]; exact hrel) (fun q hq => (List.mem_append.mp hq).elim (hL q) (hLL q)) hl T' rfl X'
  refine ⟨t2, hst t2 ?_, b1⟩
  cases v0 with
  | none => exact a1
  | some v => exact a1
theorem xcs_rev (G : xG) (as rest : List Value) : xcs G (as.reverse ++ rest) = (xcs G as).reverse ++ xcs G rest := by
  unfold xcs
  rw [List.map_append, List.map_reverse]
theorem xi_callV {mt' : xM} {i ci idx na d mc ms : Nat} {as rest st0 fs : List Value} {r : vw_C} {Q : Option Value → xMem → Prop} (hd : decode mt.2.1 pc = .ok (.invokevirtual idx, 3)) (hC : xC G mt' d mc ms (.ref i :: as) M Q) (hm : xMok mt' na) (hi : Cond.instanceMethod mt'.1 ∈ xWall) (hs : Cond.selects mt'.1.cls mt'.1 mt'.1 ∈ xWall) (hw : Cond.methodLink mt.1.cls idx mt'.1 ∈ xWall) (hM : M[i]? = some (.inr (ci, fs))) (hc : xcls[ci]? = some r) (hcls : r.1 = mt'.1.cls) (hna : as.length = na) (hst : st0 = as.reverse ++ .ref i :: rest) (hrest : (rest.map fun v => v.category).sum ≤ 8) (hfr : d + 2 ≤ R.frames) (hlo : 8 + (mt'.2.2.1 + 11) + 64 * (d + 1) ≤ R.locals) (hce : k + mc ≤ R.cells) (hsl : n + ms ≤ R.slots)
    (K : ∀ (v : Option Value) (M' : xMem), Q v M' → xW G mt R Z (pc + 3) lv (v.toList ++ rest) M' (k + mc) (n + ms)) : xW G mt R Z pc lv st0 M k n := by
  intro p e s m args below meth c H locs ls F hR hL hl
  have hts := F.2.2.2.2.2.1
  refine xafter (va_runV (C := mt'.1.cls) (b := G.2.2.2.1 + i) (As := xcs G as) (rest := xcs G rest) ⟨F.1, F.2.1, F.2.2.1, F.2.2.2.2.1, hts⟩ hC ⟨callB_of na hts (xgood hm) rfl rfl rfl (hts _ hm.2.1) (hts _ hw) hm.2.2 ⟨hfr, hlo⟩, hts _ hi, hts _ hs⟩ ⟨xblind G _ _, ?_, fun U hU hW => ⟨rfl, by rw [hU]; exact hR, F.2.2.2.2.2.2.2.2.warm hW⟩⟩ rfl (by unfold xcs; rw [List.length_map]; exact hna) hl.1 ?_ (xroom G hrest _) hd ⟨hce, hsl⟩) F hL hl K
  · have h1 := va_recv F.2.2.2.2.2.2.2.2.1 (hR.one hM) hc (q0 := 0) rfl
    rw [hcls] at h1
    exact h1
  · show xcs G st0 = _
    rw [hst, xcs_rev]
    rfl
theorem xi_callS {mt' : xM} {idx na d mc ms : Nat} {as rest st0 : List Value} {Q : Option Value → xMem → Prop} (hd : decode mt.2.1 pc = .ok (.invokestatic idx, 3)) (hC : xC G mt' d mc ms as M Q) (hm : xMok mt' na) (hi : Cond.static mt'.1 ∈ xWall) (hw : Cond.methodLink mt.1.cls idx mt'.1 ∈ xWall) (hna : as.length = na) (hst : st0 = as.reverse ++ rest) (hrest : (rest.map fun v => v.category).sum ≤ 8) (hfr : d + 2 ≤ R.frames) (hlo : 8 + (mt'.2.2.1 + 11) + 64 * (d + 1) ≤ R.locals) (hce : k + mc ≤ R.cells) (hsl : n + ms ≤ R.slots)
    (K : ∀ (v : Option Value) (M' : xMem), Q v M' → xW G mt R Z (pc + 3) lv (v.toList ++ rest) M' (k + mc) (n + ms)) : xW G mt R Z pc lv st0 M k n := by
  intro p e s m args below meth c H locs ls F hR hL hl
  have hts := F.2.2.2.2.2.1
  refine xafter (va_runS (As := xcs G as) (rest := xcs G rest) ⟨F.1, F.2.1, F.2.2.1, F.2.2.2.2.1, hts⟩ hC ⟨callB_of na hts (xgood hm) rfl rfl rfl (hts _ hm.2.1) (hts _ hw) hm.2.2 ⟨hfr, hlo⟩, hts _ hi⟩ ⟨xblind G _ _, fun U hU hW => ⟨rfl, by rw [hU]; exact hR, F.2.2.2.2.2.2.2.2.warm hW⟩⟩ rfl (by unfold xcs; rw [List.length_map]; exact hna) hl.1 ?_ (xroom G hrest _) hd ⟨hce, hsl⟩) F hL hl K
  show xcs G st0 = _
  rw [hst, xcs_rev]
theorem xi_callI {mt' : xM} {i idx na d mc ms : Nat} {as rest st0 : List Value} {Q : Option Value → xMem → Prop} (hd : decode mt.2.1 pc = .ok (.invokespecial idx, 3)) (hC : xC G mt' d mc ms (.ref i :: as) M Q) (hm : xMok mt' na) (hi : Cond.instanceMethod mt'.1 ∈ xWall) (hw : Cond.methodLink mt.1.cls idx mt'.1 ∈ xWall) (hnm : mt'.1.name = "<init>") (hret : mt'.2.2.2 = none) (hna : as.length = na) (hst : st0 = as.reverse ++ .ref i :: rest) (hrest : (rest.map fun v => v.category).sum ≤ 8) (hfr : d + 2 ≤ R.frames) (hlo : 8 + (mt'.2.2.1 + 11) + 64 * (d + 1) ≤ R.locals) (hce : k + mc ≤ R.cells) (hsl : n + ms ≤ R.slots)
    (K : ∀ (v : Option Value) (M' : xMem), Q v M' → xW G mt R Z (pc + 3) lv (v.toList ++ rest) M' (k + mc) (n + ms)) : xW G mt R Z pc lv st0 M k n := by
  intro p e s m args below meth c H locs ls F hR hL hl
  have hts := F.2.2.2.2.2.1
  have hcb := callB_of (R := R) (own := mt.1.cls) (index := idx) (y := mt'.1) (bytes := mt'.2.1) (maxL := mt'.2.2.1) (ret := mt'.2.2.2) (rm := xrm d mc ms) (mc := mc) (ms := ms) na hts (xgood hm) rfl rfl rfl (hts _ hm.2.1) (hts _ hw) hm.2.2 ⟨hfr, hlo⟩
  rw [hret] at hcb
  have hC2 : Met G.1 mt'.1 (.code mt'.1 mt'.2.1 mt'.2.2.1 none :: xWall) (xrm d mc ms) (xPc G (.ref i :: as) M) (xQc G Q) mc ms (fun q => G.2.2.2.1 ≤ q) := by
    rw [← hret]; exact hC
  refine xafter (va_runI (b := G.2.2.2.1 + i) (As := xcs G as) (rest := xcs G rest) ⟨F.1, F.2.1, F.2.2.1, F.2.2.2.2.1, hts⟩ hC2 ⟨hcb, hnm, hts _ hi⟩ ⟨xblind G _ _, fun U hU hW => ⟨rfl, by rw [hU]; exact hR, F.2.2.2.2.2.2.2.2.warm hW⟩⟩ rfl (by unfold xcs; rw [List.length_map]; exact hna) hl.1 ?_ (xroom G hrest _) hd ⟨hce, hsl⟩) F hL hl K
  show xcs G st0 = _
  rw [hst, xcs_rev]
  rfl
/-- the constructor of a nest mate, private -/
theorem xi_callIN {mt' : xM} {host : String} {i idx na d mc ms : Nat} {as rest st0 : List Value} {Q : Option Value → xMem → Prop} (hd : decode mt.2.1 pc = .ok (.invokespecial idx, 3)) (hC : xC G mt' d mc ms (.ref i :: as) M Q) (hm : xMok mt' na) (hi : Cond.instanceMethod mt'.1 ∈ xWall) (hw : Cond.methodLinkNest mt.1.cls idx mt'.1 host ∈ xnest) (hnm : mt'.1.name = "<init>") (hret : mt'.2.2.2 = none) (hna : as.length = na) (hst : st0 = as.reverse ++ .ref i :: rest) (hrest : (rest.map fun v => v.category).sum ≤ 8) (hfr : d + 2 ≤ R.frames) (hlo : 8 + (mt'.2.2.1 + 11) + 64 * (d + 1) ≤ R.locals) (hce : k + mc ≤ R.cells) (hsl : n + ms ≤ R.slots)
    (K : ∀ (v : Option Value) (M' : xMem), Q v M' → xW G mt R Z (pc + 3) lv (v.toList ++ rest) M' (k + mc) (n + ms)) : xW G mt R Z pc lv st0 M k n := by
  intro p e s m args below meth c H locs ls F hR hL hl
  have hts := F.2.2.2.2.2.1
  have hcb := va_cnB (R := R) (own := mt.1.cls) (index := idx) (y := mt'.1) (host := host) (bytes := mt'.2.1) (maxL := mt'.2.2.1) (ret := mt'.2.2.2) (rm := xrm d mc ms) (mc := mc) (ms := ms) na hts (xgood hm) rfl rfl rfl (F.2.2.2.2.2.2.2.2.2.1 _ hw) (hts _ hm.2.1) hm.2.2 ⟨hfr, hlo⟩
  rw [hret] at hcb
  have hC2 : Met G.1 mt'.1 (.code mt'.1 mt'.2.1 mt'.2.2.1 none :: xWall) (xrm d mc ms) (xPc G (.ref i :: as) M) (xQc G Q) mc ms (fun q => G.2.2.2.1 ≤ q) := by
    rw [← hret]; exact hC
  refine xafter (va_runIN (b := G.2.2.2.1 + i) (As := xcs G as) (rest := xcs G rest) ⟨F.1, F.2.1, F.2.2.1, F.2.2.2.2.1, hts⟩ hC2 ⟨hcb, hnm, hts _ hi⟩ ⟨xblind G _ _, fun U hU hW => ⟨rfl, by rw [hU]; exact hR, F.2.2.2.2.2.2.2.2.warm hW⟩⟩ rfl (by unfold xcs; rw [List.length_map]; exact hna) hl.1 ?_ (xroom G hrest _) hd ⟨hce, hsl⟩) F hL hl K
  show xcs G st0 = _
  rw [hst, xcs_rev]
  rfl
/-- Math.max -/
theorem xi_max {idx : Nat} {x y v : Int32} (hd : decode mt.2.1 pc = .ok (.invokestatic idx, 3)) (hw : Cond.methodLink mt.1.cls idx Lib.Math.max.name ∈ xWall) (hs : Cond.static Lib.Math.max.name ∈ xWall) (hin : Cond.initialized "java/lang/Math" ∈ xWall) (hc : Cond.code Lib.Math.max.name Lib.Math.max.code 2 (some .int) ∈ xWall) (hrest : (st.map fun v => v.category).sum ≤ 8) (hfr : 1 ≤ R.frames) (hlo : 21 ≤ R.locals) (hce : k ≤ R.cells) (hsl : n ≤ R.slots) (hv : (if x < y then y else x) = v)
    (K : xW G mt R Z (pc + 3) lv (.int v :: st) M k n) : xW G mt R Z pc lv (.int y :: .int x :: st) M k n := by
  subst hv
  intro p e s m args below meth c H locs ls F hR hL hl
  have hts := F.2.2.2.2.2.1
  refine va_mmax F.1 F.2.1 (by rw [hl.1]; exact F.2.2.1) F.2.2.2.2.1 (hts _ hw) (hts _ hs) (hts _ hin) (hts _ hc) hfr ?_ hce hsl hd (K p e s m args below meth c H locs ls F hR hL hl)
  have e := xroom G (pc := pc) (m := m) (ls := ls) hrest []
  have e2 : ((xcs G st).map fun v => v.category).sum ≤ 8 := by
    have : 2 * 0 + ((xcs G st).map fun v => v.category).sum ≤ 8 := e
    omega
  exact Nat.le_trans (Nat.add_le_add_right e2 13) hlo
/-- strings -/
theorem xold_at {H : Heap} (hR : xR G M H) : ∀ a : Nat, a < G.2.2.2.2.1.size → ¬ xold G a → H[a]? = G.2.2.2.2.1[a]? := fun a _ h => hR.2.2 a (Nat.not_le.mp h)
theorem xi_ldcS {idx : Nat} {tx : String} {j : Nat} {bs : List Int32} {w : UInt32} (hd : decode mt.2.1 pc = .ok (.ldc idx, 2)) (hq : (mt.1.cls, idx, tx, j, bs) ∈ xstr) (hj : w.toNat = j)
    (K : xW G mt R Z (pc + 2) lv (.float w :: st) M k n) : xW G mt R Z pc lv st M k n := by
  subst hj
  intro p e s m args below meth c H locs ls F hR hL hl
  exact va_ldcS F.1 F.2.1 F.2.2.2.2.1 (F.2.2.2.2.2.2.2.2.2.2.2.1 _ hq).1 hd (K p e s m args below meth c H locs ls F hR hL hl)
theorem xi_getSv {idx : Nat} {q : String × Nat × String × Nat × List Int32} {w w2 : UInt32} (hd : decode mt.2.1 pc = .ok (.getfield idx, 3)) (hq : q ∈ xstr) (hj : w.toNat = q.2.2.2.1) (hj2 : w2.toNat = 100 + q.2.2.2.1) (hw : Cond.fieldLink mt.1.cls idx "java/lang/String" "value" "[B" ∈ xWall)
    (K : xW G mt R Z (pc + 3) lv (.float w2 :: st) M k n) : xW G mt R Z pc lv (.float w :: st) M k n := by
  intro p e s m args below meth c H locs ls F hR hL hl
  obtain ⟨cf, kk, fi, f, cell, h1, h2, h3, h4, h5, h6⟩ := (F.2.2.2.2.2.2.2.2.2.2.2.1 _ hq).2.2.2.1.kept (xold_at hR)
  have hk := K p e s m args below meth c H locs ls F hR hL hl
  refine W.getf (a := G.2.2.2.2.2.1 w.toNat) F.1 F.2.1 F.2.2.2.2.1 (F.2.2.2.2.2.1 _ hw) h1 h2 (by rw [hj]; exact h3) h4 (v := .ref (G.2.2.2.2.2.1 w2.toNat)) (by rw [hj2]; exact h5) rfl rfl hd hk
theorem xi_getSc {idx : Nat} {q : String × Nat × String × Nat × List Int32} {w : UInt32} (hd : decode mt.2.1 pc = .ok (.getfield idx, 3)) (hq : q ∈ xstr) (hj : w.toNat = q.2.2.2.1) (hw : Cond.fieldLink mt.1.cls idx "java/lang/String" "coder" "B" ∈ xWall)
    (K : xW G mt R Z (pc + 3) lv (.int 0 :: st) M k n) : xW G mt R Z pc lv (.float w :: st) M k n := by
  intro p e s m args below meth c H locs ls F hR hL hl
  obtain ⟨cf, kk, fi, f, cell, h1, h2, h3, h4, h5, h6⟩ := (F.2.2.2.2.2.2.2.2.2.2.2.1 _ hq).2.2.1.kept (xold_at hR)
  have hk := K p e s m args below meth c H locs ls F hR hL hl
  refine W.getf (a := G.2.2.2.2.2.1 w.toNat) F.1 F.2.1 F.2.2.2.2.1 (F.2.2.2.2.2.1 _ hw) h1 h2 (by rw [hj]; exact h3) h4 (v := .int 0) h5 rfl rfl hd hk
theorem xi_lenS {q : String × Nat × String × Nat × List Int32} {w2 : UInt32} {v : Int32} (hd : decode mt.2.1 pc = .ok (.arraylength, 1)) (hq : q ∈ xstr) (hj2 : w2.toNat = 100 + q.2.2.2.1) (hv : Int32.ofNat q.2.2.2.2.length = v)
    (K : xW G mt R Z (pc + 1) lv (.int v :: st) M k n) : xW G mt R Z pc lv (.float w2 :: st) M k n := by
  intro p e s m args below meth c H locs ls F hR hL hl
  obtain ⟨cell, h1, h2, h3, h4, h5, h6, h7⟩ := (F.2.2.2.2.2.2.2.2.2.2.2.1 _ hq).2.2.2.2.kept (xold_at hR)
  have hk := K p e s m args below meth c H locs ls F hR hL hl
  exact W.alen (a := G.2.2.2.2.2.1 w2.toNat) (n := v) F.1 F.2.1 (by rw [hj2]; exact h1) h2 (h5.trans hv) rfl rfl hd hk
theorem xi_compact {idx : Nat} (hd : decode mt.2.1 pc = .ok (.getstatic idx, 3)) (hw : Cond.fieldLink mt.1.cls idx "java/lang/String" "COMPACT_STRINGS" "Z" ∈ xWall)
    (K : xW G mt R Z (pc + 3) lv (.int 1 :: st) M k n) : xW G mt R Z pc lv st M k n := by
  intro p e s m args below meth c H locs ls F hR hL hl
  obtain ⟨cf, kf, fi, f, a, cell, h1, h2, h3, h4, h5, h6, h7, h8⟩ := F.2.2.2.2.2.2.2.2.2.2.2.2.1.kept (xold_at hR)
  exact W.gets F.1 F.2.1 F.2.2.2.2.1 (F.2.2.2.2.2.1 _ hw) h1 h2 h3 h4 h5 (fun e => by rw [e] at h6; cases h6) h7 rfl hd (K p e s m args below meth c H locs ls F hR hL hl)
/-- a call upon a string constant -/
theorem xi_callVS {mt' : xM} {q : String × Nat × String × Nat × List Int32} {w : UInt32} {idx na d mc ms : Nat} {as rest st0 : List Value} {Q : Option Value → xMem → Prop} (hd : decode mt.2.1 pc = .ok (.invokevirtual idx, 3)) (hC : xC G mt' d mc ms (.float w :: as) M Q) (hm : xMok mt' na) (hi : Cond.instanceMethod mt'.1 ∈ xWall) (hs : Cond.selects mt'.1.cls mt'.1 mt'.1 ∈ xWall) (hw : Cond.methodLink mt.1.cls idx mt'.1 ∈ xWall) (hq : q ∈ xstr) (hj : w.toNat = q.2.2.2.1) (hcls : mt'.1.cls = "java/lang/String") (hna : as.length = na) (hst : st0 = as.reverse ++ .float w :: rest) (hrest : (rest.map fun v => v.category).sum ≤ 8) (hfr : d + 2 ≤ R.frames) (hlo : 8 + (mt'.2.2.1 + 11) + 64 * (d + 1) ≤ R.locals) (hce : k + mc ≤ R.cells) (hsl : n + ms ≤ R.slots)
    (K : ∀ (v : Option Value) (M' : xMem), Q v M' → xW G mt R Z (pc + 3) lv (v.toList ++ rest) M' (k + mc) (n + ms)) : xW G mt R Z pc lv st0 M k n := by
  intro p e s m args below meth c H locs ls F hR hL hl
  have hts := F.2.2.2.2.2.1
  refine xafter (va_runV (C := mt'.1.cls) (b := G.2.2.2.2.2.1 w.toNat) (As := xcs G as) (rest := xcs G rest) ⟨F.1, F.2.1, F.2.2.1, F.2.2.2.2.1, hts⟩ hC ⟨callB_of na hts (xgood hm) rfl rfl rfl (hts _ hm.2.1) (hts _ hw) hm.2.2 ⟨hfr, hlo⟩, hts _ hi, hts _ hs⟩ ⟨xblind G _ _, ?_, fun U hU hW => ⟨rfl, by rw [hU]; exact hR, F.2.2.2.2.2.2.2.2.warm hW⟩⟩ rfl (by unfold xcs; rw [List.length_map]; exact hna) hl.1 ?_ (xroom G hrest _) hd ⟨hce, hsl⟩) F hL hl K
  · obtain ⟨cell, h1, h2, h3, h4⟩ := (F.2.2.2.2.2.2.2.2.2.2.2.1 _ hq).2.1.kept (xold_at hR)
    rw [hj, hcls]
    exact ⟨cell, h1, h2, h3⟩
  · show xcs G st0 = _
    rw [hst, xcs_rev]
    rfl
/-- the script -/
theorem xi_slen {v : Int32} (hd : decode mt.2.1 pc = .ok (.arraylength, 1)) (hv : Int32.ofNat G.2.2.2.2.2.2.1 = v)
    (K : xW G mt R Z (pc + 1) lv (.int v :: st) M k n) : xW G mt R Z pc lv (.float 200 :: st) M k n := by
  intro p e s m args below meth c H locs ls F hR hL hl
  obtain ⟨⟨scr, h1, h2, h3, h4, h5⟩, h6⟩ := F.2.2.2.2.2.2.2.2.2.2.2.2.2
  exact W.alen (a := G.2.2.2.2.2.1 200) (n := v) F.1 F.2.1 (by rw [hR.2.2 _ h6]; exact h1) h2 (by rw [h4]; exact hv) rfl rfl hd (K p e s m args below meth c H locs ls F hR hL hl)
theorem xi_sld {j v : Int32} (hd : decode mt.2.1 pc = .ok (.iaload, 1)) (hin : vp_in j G.2.2.2.2.2.2.1) (hv : G.2.2.2.2.2.2.2 j.toNatClampNeg = v)
    (K : xW G mt R Z (pc + 1) lv (.int v :: st) M k n) : xW G mt R Z pc lv (.int j :: .float 200 :: st) M k n := by
  subst hv
  intro p e s m args below meth c H locs ls F hR hL hl
  obtain ⟨⟨scr, h1, h2, h3, h4, h5⟩, h6⟩ := F.2.2.2.2.2.2.2.2.2.2.2.2.2
  have hlt : j.toNatClampNeg < G.2.2.2.2.2.2.1 := Nat.not_le.mp fun q => hin (Or.inr q)
  exact W.iald (a := G.2.2.2.2.2.1 200) (v := .int (G.2.2.2.2.2.2.2 j.toNatClampNeg)) F.1 F.2.1 (by rw [hR.2.2 _ h6]; exact h1) h2 h3 (by rw [h4]; exact hin) (h5 _ hlt) rfl rfl hd (K p e s m args below meth c H locs ls F hR hL hl)
end XN
end
section
/-! facts of the tables and of the bytes (printed by wip/p1/facts.py) -/
theorem w_1 : (Jvm.Cond.initialized "ThinRow") ∈ xWall := xw 95 (by decide +kernel) rfl
theorem w_2 : (Jvm.Cond.initialized "ThinRow$Bytes") ∈ xWall := xw 96 (by decide +kernel) rfl
theorem w_3 : (Jvm.Cond.initialized "java/lang/Math") ∈ xWall := xw 97 (by decide +kernel) rfl
theorem w_4 : (Jvm.Cond.initialized "ThinRow$Reader") ∈ xWall := xw 98 (by decide +kernel) rfl
theorem w_5 : (Jvm.Cond.initialized "ThinRow$Net") ∈ xWall := xw 99 (by decide +kernel) rfl
theorem w_6 : (Jvm.Cond.initialized "ThinRow$Findings") ∈ xWall := xw 100 (by decide +kernel) rfl
theorem w_7 : (Jvm.Cond.initialized "ThinRow$Finding") ∈ xWall := xw 101 (by decide +kernel) rfl
theorem w_8 : (Jvm.Cond.initialized "ThinRow$SetSearch") ∈ xWall := xw 102 (by decide +kernel) rfl
theorem w_9 : (Jvm.Cond.initialized "ThinRow$BandSearch") ∈ xWall := xw 103 (by decide +kernel) rfl
theorem w_10 : (Jvm.Cond.initialized "ThinRow$History") ∈ xWall := xw 104 (by decide +kernel) rfl
theorem w_11 : (Jvm.Cond.initialized "ThinRowModel") ∈ xWall := xw 105 (by decide +kernel) rfl
theorem w_26 : (Jvm.Cond.code ({ cls := "ThinRow", name := "<init>", desc := "()V" } : Jvm.MethodName) prog_1_method_1_code (2 : Nat) (Option.none : Option Jvm.ClassFile.FieldType)) ∈ xWall := xw 120 (by decide +kernel) rfl
theorem w_27 : (Jvm.Cond.methodLink "ThinRow" (1 : Nat) ({ cls := "java/lang/Object", name := "<init>", desc := "()V" } : Jvm.MethodName)) ∈ xWall := xw 121 (by decide +kernel) rfl
theorem w_28 : (Jvm.Cond.instanceMethod ({ cls := "java/lang/Object", name := "<init>", desc := "()V" } : Jvm.MethodName)) ∈ xWall := xw 122 (by decide +kernel) rfl
theorem w_30 : (Jvm.Cond.classLink "ThinRow" (7 : Nat) "ThinRow$Bytes") ∈ xWall := xw 124 (by decide +kernel) rfl
theorem w_31 : (Jvm.Cond.instantiable "ThinRow$Bytes" (2 : Nat)) ∈ xWall := xw 125 (by decide +kernel) rfl
theorem w_32 : (Jvm.Cond.methodLink "ThinRow" (11 : Nat) ({ cls := "ThinRow$Bytes", name := "<init>", desc := "(I)V" } : Jvm.MethodName)) ∈ xWall := xw 126 (by decide +kernel) rfl
theorem w_33 : (Jvm.Cond.instanceMethod ({ cls := "ThinRow$Bytes", name := "<init>", desc := "(I)V" } : Jvm.MethodName)) ∈ xWall := xw 127 (by decide +kernel) rfl
theorem w_34 : (Jvm.Cond.code ({ cls := "ThinRow$Bytes", name := "<init>", desc := "(I)V" } : Jvm.MethodName) prog_3_method_1_code (2 : Nat) (Option.none : Option Jvm.ClassFile.FieldType)) ∈ xWall := xw 128 (by decide +kernel) rfl
theorem w_35 : (Jvm.Cond.methodLink "ThinRow$Bytes" (3 : Nat) ({ cls := "java/lang/Object", name := "<init>", desc := "()V" } : Jvm.MethodName)) ∈ xWall := xw 129 (by decide +kernel) rfl
theorem w_36 : (Jvm.Cond.methodLink "ThinRow$Bytes" (9 : Nat) ({ cls := "java/lang/Math", name := "max", desc := "(II)I" } : Jvm.MethodName)) ∈ xWall := xw 130 (by decide +kernel) rfl
theorem w_37 : (Jvm.Cond.static ({ cls := "java/lang/Math", name := "max", desc := "(II)I" } : Jvm.MethodName)) ∈ xWall := xw 131 (by decide +kernel) rfl
theorem w_39 : (Jvm.Cond.fieldLink "ThinRow$Bytes" (15 : Nat) "ThinRow$Bytes" "held" "[B") ∈ xWall := xw 133 (by decide +kernel) rfl
theorem w_40 : (Jvm.Cond.fieldLink "ThinRow$Bytes" (21 : Nat) "ThinRow$Bytes" "size" "I") ∈ xWall := xw 134 (by decide +kernel) rfl
theorem w_41 : (Jvm.Cond.fieldLink "ThinRow" (79 : Nat) "ThinRow$Bytes" "size" "I") ∈ xWall := xw 135 (by decide +kernel) rfl
theorem w_42 : (Jvm.Cond.fieldLink "ThinRow$Reader" (138 : Nat) "ThinRow$Bytes" "size" "I") ∈ xWall := xw 136 (by decide +kernel) rfl
theorem w_43 : (Jvm.Cond.laysFinal "ThinRow$Bytes" "ThinRow$Bytes" "held" "[B") ∈ xWall := xw 137 (by decide +kernel) rfl
theorem w_45 : (Jvm.Cond.lays "ThinRow$Bytes" "ThinRow$Bytes" "size" "I") ∈ xWall := xw 139 (by decide +kernel) rfl
theorem w_48 : (Jvm.Cond.arrayClass Jvm.ClassFile.FieldType.byte) ∈ xWall := xw 142 (by decide +kernel) rfl
theorem w_49 : (Jvm.Cond.classLink "ThinRow" (21 : Nat) "ThinRow$Reader") ∈ xWall := xw 143 (by decide +kernel) rfl
theorem w_50 : (Jvm.Cond.instantiable "ThinRow$Reader" (8 : Nat)) ∈ xWall := xw 144 (by decide +kernel) rfl
theorem w_51 : (Jvm.Cond.methodLink "ThinRow" (23 : Nat) ({ cls := "ThinRow$Reader", name := "<init>", desc := "(LThinRow$Bytes;)V" } : Jvm.MethodName)) ∈ xWall := xw 145 (by decide +kernel) rfl
theorem w_52 : (Jvm.Cond.instanceMethod ({ cls := "ThinRow$Reader", name := "<init>", desc := "(LThinRow$Bytes;)V" } : Jvm.MethodName)) ∈ xWall := xw 146 (by decide +kernel) rfl
theorem w_53 : (Jvm.Cond.code ({ cls := "ThinRow$Reader", name := "<init>", desc := "(LThinRow$Bytes;)V" } : Jvm.MethodName) prog_9_method_1_code (2 : Nat) (Option.none : Option Jvm.ClassFile.FieldType)) ∈ xWall := xw 147 (by decide +kernel) rfl
theorem w_54 : (Jvm.Cond.methodLink "ThinRow$Reader" (3 : Nat) ({ cls := "java/lang/Object", name := "<init>", desc := "()V" } : Jvm.MethodName)) ∈ xWall := xw 148 (by decide +kernel) rfl
theorem w_55 : (Jvm.Cond.classLink "ThinRow$Reader" (9 : Nat) "ThinRow$Net") ∈ xWall := xw 149 (by decide +kernel) rfl
theorem w_56 : (Jvm.Cond.instantiable "ThinRow$Net" (5 : Nat)) ∈ xWall := xw 150 (by decide +kernel) rfl
theorem w_58 : (Jvm.Cond.instanceMethod ({ cls := "ThinRow$Net", name := "<init>", desc := "()V" } : Jvm.MethodName)) ∈ xWall := xw 152 (by decide +kernel) rfl
theorem w_59 : (Jvm.Cond.code ({ cls := "ThinRow$Net", name := "<init>", desc := "()V" } : Jvm.MethodName) prog_7_method_1_code (1 : Nat) (Option.none : Option Jvm.ClassFile.FieldType)) ∈ xWall := xw 153 (by decide +kernel) rfl
theorem w_60 : (Jvm.Cond.methodLink "ThinRow$Net" (3 : Nat) ({ cls := "java/lang/Object", name := "<init>", desc := "()V" } : Jvm.MethodName)) ∈ xWall := xw 154 (by decide +kernel) rfl
theorem w_66 : (Jvm.Cond.fieldLink "ThinRow" (120 : Nat) "ThinRow$Net" "points" "I") ∈ xWall := xw 160 (by decide +kernel) rfl
theorem w_72 : (Jvm.Cond.fieldLink "ThinRow$Net" (9 : Nat) "ThinRow$Net" "nearBits" "[I") ∈ xWall := xw 166 (by decide +kernel) rfl
theorem w_78 : (Jvm.Cond.fieldLink "ThinRow$Net" (15 : Nat) "ThinRow$Net" "order" "[I") ∈ xWall := xw 172 (by decide +kernel) rfl
theorem w_83 : (Jvm.Cond.fieldLink "ThinRow$Net" (18 : Nat) "ThinRow$Net" "weights" "[I") ∈ xWall := xw 177 (by decide +kernel) rfl
theorem w_84 : (Jvm.Cond.lays "ThinRow$Net" "ThinRow$Net" "points" "I") ∈ xWall := xw 178 (by decide +kernel) rfl
theorem w_86 : (Jvm.Cond.lays "ThinRow$Net" "ThinRow$Net" "lines" "I") ∈ xWall := xw 180 (by decide +kernel) rfl
theorem w_88 : (Jvm.Cond.laysFinal "ThinRow$Net" "ThinRow$Net" "nearBits" "[I") ∈ xWall := xw 182 (by decide +kernel) rfl
theorem w_90 : (Jvm.Cond.laysFinal "ThinRow$Net" "ThinRow$Net" "order" "[I") ∈ xWall := xw 184 (by decide +kernel) rfl
theorem w_92 : (Jvm.Cond.laysFinal "ThinRow$Net" "ThinRow$Net" "weights" "[I") ∈ xWall := xw 186 (by decide +kernel) rfl
theorem w_95 : (Jvm.Cond.arrayClass Jvm.ClassFile.FieldType.int) ∈ xWall := xw 189 (by decide +kernel) rfl
theorem w_96 : (Jvm.Cond.fieldLink "ThinRow$Reader" (12 : Nat) "ThinRow$Reader" "draft" "LThinRow$Net;") ∈ xWall := xw 190 (by decide +kernel) rfl
theorem w_98 : (Jvm.Cond.fieldLink "ThinRow$Reader" (26 : Nat) "ThinRow$Reader" "faultNumber" "I") ∈ xWall := xw 192 (by decide +kernel) rfl
theorem w_99 : (Jvm.Cond.fieldLink "ThinRow" (103 : Nat) "ThinRow$Reader" "faultNumber" "I") ∈ xWall := xw 193 (by decide +kernel) rfl
theorem w_100 : (Jvm.Cond.fieldLink "ThinRow$Reader" (18 : Nat) "ThinRow$Reader" "faultPlace" "I") ∈ xWall := xw 194 (by decide +kernel) rfl
theorem w_101 : (Jvm.Cond.fieldLink "ThinRow" (106 : Nat) "ThinRow$Reader" "faultPlace" "I") ∈ xWall := xw 195 (by decide +kernel) rfl
theorem w_102 : (Jvm.Cond.fieldLink "ThinRow$Reader" (22 : Nat) "ThinRow$Reader" "source" "LThinRow$Bytes;") ∈ xWall := xw 196 (by decide +kernel) rfl
theorem w_103 : (Jvm.Cond.fieldLink "ThinRow$Reader" (93 : Nat) "ThinRow$Reader" "kind" "I") ∈ xWall := xw 197 (by decide +kernel) rfl
theorem w_104 : (Jvm.Cond.fieldLink "ThinRow$Reader" (101 : Nat) "ThinRow$Reader" "start" "I") ∈ xWall := xw 198 (by decide +kernel) rfl
theorem w_105 : (Jvm.Cond.fieldLink "ThinRow$Reader" (29 : Nat) "ThinRow$Reader" "behind" "I") ∈ xWall := xw 199 (by decide +kernel) rfl
theorem w_107 : (Jvm.Cond.laysFinal "ThinRow$Reader" "ThinRow$Reader" "draft" "LThinRow$Net;") ∈ xWall := xw 201 (by decide +kernel) rfl
theorem w_109 : (Jvm.Cond.lays "ThinRow$Reader" "ThinRow$Reader" "faultNumber" "I") ∈ xWall := xw 203 (by decide +kernel) rfl
theorem w_111 : (Jvm.Cond.lays "ThinRow$Reader" "ThinRow$Reader" "faultPlace" "I") ∈ xWall := xw 205 (by decide +kernel) rfl
theorem w_113 : (Jvm.Cond.laysFinal "ThinRow$Reader" "ThinRow$Reader" "source" "LThinRow$Bytes;") ∈ xWall := xw 207 (by decide +kernel) rfl
theorem w_115 : (Jvm.Cond.lays "ThinRow$Reader" "ThinRow$Reader" "kind" "I") ∈ xWall := xw 209 (by decide +kernel) rfl
theorem w_117 : (Jvm.Cond.lays "ThinRow$Reader" "ThinRow$Reader" "start" "I") ∈ xWall := xw 211 (by decide +kernel) rfl
theorem w_119 : (Jvm.Cond.lays "ThinRow$Reader" "ThinRow$Reader" "behind" "I") ∈ xWall := xw 213 (by decide +kernel) rfl
theorem w_121 : (Jvm.Cond.lays "ThinRow$Reader" "ThinRow$Reader" "number" "I") ∈ xWall := xw 215 (by decide +kernel) rfl
theorem w_124 : (Jvm.Cond.classLink "ThinRow" (30 : Nat) "ThinRow$Net") ∈ xWall := xw 218 (by decide +kernel) rfl
theorem w_126 : (Jvm.Cond.classLink "ThinRow" (36 : Nat) "ThinRow$Findings") ∈ xWall := xw 220 (by decide +kernel) rfl
theorem w_129 : (Jvm.Cond.instantiable "ThinRow$Findings" (2 : Nat)) ∈ xWall := xw 223 (by decide +kernel) rfl
theorem w_130 : (Jvm.Cond.methodLink "ThinRow" (43 : Nat) ({ cls := "ThinRow$Findings", name := "<init>", desc := "()V" } : Jvm.MethodName)) ∈ xWall := xw 224 (by decide +kernel) rfl
theorem w_131 : (Jvm.Cond.instanceMethod ({ cls := "ThinRow$Findings", name := "<init>", desc := "()V" } : Jvm.MethodName)) ∈ xWall := xw 225 (by decide +kernel) rfl
theorem w_132 : (Jvm.Cond.code ({ cls := "ThinRow$Findings", name := "<init>", desc := "()V" } : Jvm.MethodName) prog_5_method_1_code (2 : Nat) (Option.none : Option Jvm.ClassFile.FieldType)) ∈ xWall := xw 226 (by decide +kernel) rfl
theorem w_133 : (Jvm.Cond.methodLink "ThinRow$Findings" (3 : Nat) ({ cls := "java/lang/Object", name := "<init>", desc := "()V" } : Jvm.MethodName)) ∈ xWall := xw 227 (by decide +kernel) rfl
theorem w_134 : (Jvm.Cond.classLink "ThinRow$Findings" (9 : Nat) "ThinRow$Finding") ∈ xWall := xw 228 (by decide +kernel) rfl
theorem w_136 : (Jvm.Cond.classLink "ThinRow$Findings" (17 : Nat) "ThinRow$Net") ∈ xWall := xw 230 (by decide +kernel) rfl
theorem w_138 : (Jvm.Cond.instantiable "ThinRow$Finding" (5 : Nat)) ∈ xWall := xw 232 (by decide +kernel) rfl
theorem w_140 : (Jvm.Cond.instanceMethod ({ cls := "ThinRow$Finding", name := "<init>", desc := "()V" } : Jvm.MethodName)) ∈ xWall := xw 234 (by decide +kernel) rfl
theorem w_141 : (Jvm.Cond.code ({ cls := "ThinRow$Finding", name := "<init>", desc := "()V" } : Jvm.MethodName) prog_4_method_1_code (1 : Nat) (Option.none : Option Jvm.ClassFile.FieldType)) ∈ xWall := xw 235 (by decide +kernel) rfl
theorem w_142 : (Jvm.Cond.methodLink "ThinRow$Finding" (3 : Nat) ({ cls := "java/lang/Object", name := "<init>", desc := "()V" } : Jvm.MethodName)) ∈ xWall := xw 236 (by decide +kernel) rfl
theorem w_154 : (Jvm.Cond.fieldLink "ThinRow$Finding" (9 : Nat) "ThinRow$Finding" "firstRow" "[I") ∈ xWall := xw 248 (by decide +kernel) rfl
theorem w_158 : (Jvm.Cond.lays "ThinRow$Finding" "ThinRow$Finding" "known" "Z") ∈ xWall := xw 252 (by decide +kernel) rfl
theorem w_160 : (Jvm.Cond.lays "ThinRow$Finding" "ThinRow$Finding" "leastValue" "I") ∈ xWall := xw 254 (by decide +kernel) rfl
theorem w_162 : (Jvm.Cond.lays "ThinRow$Finding" "ThinRow$Finding" "rowCount" "I") ∈ xWall := xw 256 (by decide +kernel) rfl
theorem w_164 : (Jvm.Cond.lays "ThinRow$Finding" "ThinRow$Finding" "firstPoints" "I") ∈ xWall := xw 258 (by decide +kernel) rfl
theorem w_166 : (Jvm.Cond.laysFinal "ThinRow$Finding" "ThinRow$Finding" "firstRow" "[I") ∈ xWall := xw 260 (by decide +kernel) rfl
theorem w_169 : (Jvm.Cond.fieldLink "ThinRow$Findings" (11 : Nat) "ThinRow$Findings" "ofMeasure" "[LThinRow$Finding;") ∈ xWall := xw 263 (by decide +kernel) rfl
theorem w_171 : (Jvm.Cond.fieldLink "ThinRow$Findings" (20 : Nat) "ThinRow$Findings" "about" "LThinRow$Net;") ∈ xWall := xw 265 (by decide +kernel) rfl
theorem w_172 : (Jvm.Cond.laysFinal "ThinRow$Findings" "ThinRow$Findings" "ofMeasure" "[LThinRow$Finding;") ∈ xWall := xw 266 (by decide +kernel) rfl
theorem w_174 : (Jvm.Cond.laysFinal "ThinRow$Findings" "ThinRow$Findings" "about" "LThinRow$Net;") ∈ xWall := xw 268 (by decide +kernel) rfl
theorem w_177 : (Jvm.Cond.classLink "ThinRow" (44 : Nat) "ThinRow$SetSearch") ∈ xWall := xw 271 (by decide +kernel) rfl
theorem w_178 : (Jvm.Cond.instantiable "ThinRow$SetSearch" (5 : Nat)) ∈ xWall := xw 272 (by decide +kernel) rfl
theorem w_180 : (Jvm.Cond.instanceMethod ({ cls := "ThinRow$SetSearch", name := "<init>", desc := "()V" } : Jvm.MethodName)) ∈ xWall := xw 274 (by decide +kernel) rfl
theorem w_181 : (Jvm.Cond.code ({ cls := "ThinRow$SetSearch", name := "<init>", desc := "()V" } : Jvm.MethodName) prog_11_method_1_code (1 : Nat) (Option.none : Option Jvm.ClassFile.FieldType)) ∈ xWall := xw 275 (by decide +kernel) rfl
theorem w_182 : (Jvm.Cond.methodLink "ThinRow$SetSearch" (3 : Nat) ({ cls := "java/lang/Object", name := "<init>", desc := "()V" } : Jvm.MethodName)) ∈ xWall := xw 276 (by decide +kernel) rfl
theorem w_183 : (Jvm.Cond.fieldLink "ThinRow$SetSearch" (11 : Nat) "ThinRow$SetSearch" "steps" "[I") ∈ xWall := xw 277 (by decide +kernel) rfl
theorem w_184 : (Jvm.Cond.fieldLink "ThinRow$SetSearch" (15 : Nat) "ThinRow$SetSearch" "guards" "[I") ∈ xWall := xw 278 (by decide +kernel) rfl
theorem w_185 : (Jvm.Cond.fieldLink "ThinRow$SetSearch" (18 : Nat) "ThinRow$SetSearch" "around" "[I") ∈ xWall := xw 279 (by decide +kernel) rfl
theorem w_186 : (Jvm.Cond.fieldLink "ThinRow$SetSearch" (21 : Nat) "ThinRow$SetSearch" "rest" "[I") ∈ xWall := xw 280 (by decide +kernel) rfl
theorem w_187 : (Jvm.Cond.fieldLink "ThinRow$SetSearch" (24 : Nat) "ThinRow$SetSearch" "rows" "[I") ∈ xWall := xw 281 (by decide +kernel) rfl
theorem w_188 : (Jvm.Cond.laysFinal "ThinRow$SetSearch" "ThinRow$SetSearch" "steps" "[I") ∈ xWall := xw 282 (by decide +kernel) rfl
theorem w_190 : (Jvm.Cond.laysFinal "ThinRow$SetSearch" "ThinRow$SetSearch" "guards" "[I") ∈ xWall := xw 284 (by decide +kernel) rfl
theorem w_192 : (Jvm.Cond.laysFinal "ThinRow$SetSearch" "ThinRow$SetSearch" "around" "[I") ∈ xWall := xw 286 (by decide +kernel) rfl
theorem w_194 : (Jvm.Cond.laysFinal "ThinRow$SetSearch" "ThinRow$SetSearch" "rest" "[I") ∈ xWall := xw 288 (by decide +kernel) rfl
theorem w_196 : (Jvm.Cond.laysFinal "ThinRow$SetSearch" "ThinRow$SetSearch" "rows" "[I") ∈ xWall := xw 290 (by decide +kernel) rfl
theorem w_199 : (Jvm.Cond.classLink "ThinRow" (51 : Nat) "ThinRow$BandSearch") ∈ xWall := xw 293 (by decide +kernel) rfl
theorem w_200 : (Jvm.Cond.instantiable "ThinRow$BandSearch" (4 : Nat)) ∈ xWall := xw 294 (by decide +kernel) rfl
theorem w_202 : (Jvm.Cond.instanceMethod ({ cls := "ThinRow$BandSearch", name := "<init>", desc := "()V" } : Jvm.MethodName)) ∈ xWall := xw 296 (by decide +kernel) rfl
theorem w_203 : (Jvm.Cond.code ({ cls := "ThinRow$BandSearch", name := "<init>", desc := "()V" } : Jvm.MethodName) prog_2_method_1_code (1 : Nat) (Option.none : Option Jvm.ClassFile.FieldType)) ∈ xWall := xw 297 (by decide +kernel) rfl
theorem w_204 : (Jvm.Cond.methodLink "ThinRow$BandSearch" (5 : Nat) ({ cls := "java/lang/Object", name := "<init>", desc := "()V" } : Jvm.MethodName)) ∈ xWall := xw 298 (by decide +kernel) rfl
theorem w_205 : (Jvm.Cond.classLink "ThinRow$BandSearch" (11 : Nat) "ThinRow$Net") ∈ xWall := xw 299 (by decide +kernel) rfl
theorem w_207 : (Jvm.Cond.fieldLink "ThinRow$BandSearch" (14 : Nat) "ThinRow$BandSearch" "net" "LThinRow$Net;") ∈ xWall := xw 301 (by decide +kernel) rfl
theorem w_208 : (Jvm.Cond.fieldLink "ThinRow$BandSearch" (18 : Nat) "ThinRow$BandSearch" "places" "[I") ∈ xWall := xw 302 (by decide +kernel) rfl
theorem w_209 : (Jvm.Cond.fieldLink "ThinRow$BandSearch" (22 : Nat) "ThinRow$BandSearch" "keys" "[I") ∈ xWall := xw 303 (by decide +kernel) rfl
theorem w_210 : (Jvm.Cond.fieldLink "ThinRow$BandSearch" (25 : Nat) "ThinRow$BandSearch" "counts" "[I") ∈ xWall := xw 304 (by decide +kernel) rfl
theorem w_211 : (Jvm.Cond.laysFinal "ThinRow$BandSearch" "ThinRow$BandSearch" "net" "LThinRow$Net;") ∈ xWall := xw 305 (by decide +kernel) rfl
theorem w_213 : (Jvm.Cond.laysFinal "ThinRow$BandSearch" "ThinRow$BandSearch" "places" "[I") ∈ xWall := xw 307 (by decide +kernel) rfl
theorem w_215 : (Jvm.Cond.laysFinal "ThinRow$BandSearch" "ThinRow$BandSearch" "keys" "[I") ∈ xWall := xw 309 (by decide +kernel) rfl
theorem w_217 : (Jvm.Cond.laysFinal "ThinRow$BandSearch" "ThinRow$BandSearch" "counts" "[I") ∈ xWall := xw 311 (by decide +kernel) rfl
theorem w_220 : (Jvm.Cond.classLink "ThinRow" (58 : Nat) "ThinRow$History") ∈ xWall := xw 314 (by decide +kernel) rfl
theorem w_221 : (Jvm.Cond.instantiable "ThinRow$History" (4 : Nat)) ∈ xWall := xw 315 (by decide +kernel) rfl
theorem w_222 : (Jvm.Cond.methodLink "ThinRow" (60 : Nat) ({ cls := "ThinRow$History", name := "<init>", desc := "()V" } : Jvm.MethodName)) ∈ xWall := xw 316 (by decide +kernel) rfl
theorem w_223 : (Jvm.Cond.instanceMethod ({ cls := "ThinRow$History", name := "<init>", desc := "()V" } : Jvm.MethodName)) ∈ xWall := xw 317 (by decide +kernel) rfl
theorem w_224 : (Jvm.Cond.code ({ cls := "ThinRow$History", name := "<init>", desc := "()V" } : Jvm.MethodName) prog_6_method_1_code (2 : Nat) (Option.none : Option Jvm.ClassFile.FieldType)) ∈ xWall := xw 318 (by decide +kernel) rfl
theorem w_225 : (Jvm.Cond.methodLink "ThinRow$History" (3 : Nat) ({ cls := "java/lang/Object", name := "<init>", desc := "()V" } : Jvm.MethodName)) ∈ xWall := xw 319 (by decide +kernel) rfl
theorem w_226 : (Jvm.Cond.classLink "ThinRow$History" (15 : Nat) "ThinRow$Net") ∈ xWall := xw 320 (by decide +kernel) rfl
theorem w_229 : (Jvm.Cond.fieldLink "ThinRow" (113 : Nat) "ThinRow$History" "held" "I") ∈ xWall := xw 323 (by decide +kernel) rfl
theorem w_231 : (Jvm.Cond.fieldLink "ThinRow$History" (9 : Nat) "ThinRow$History" "slots" "[I") ∈ xWall := xw 325 (by decide +kernel) rfl
theorem w_232 : (Jvm.Cond.fieldLink "ThinRow$History" (17 : Nat) "ThinRow$History" "nets" "[LThinRow$Net;") ∈ xWall := xw 326 (by decide +kernel) rfl
theorem w_233 : (Jvm.Cond.lays "ThinRow$History" "ThinRow$History" "held" "I") ∈ xWall := xw 327 (by decide +kernel) rfl
theorem w_235 : (Jvm.Cond.lays "ThinRow$History" "ThinRow$History" "next" "I") ∈ xWall := xw 329 (by decide +kernel) rfl
theorem w_237 : (Jvm.Cond.laysFinal "ThinRow$History" "ThinRow$History" "slots" "[I") ∈ xWall := xw 331 (by decide +kernel) rfl
theorem w_239 : (Jvm.Cond.laysFinal "ThinRow$History" "ThinRow$History" "nets" "[LThinRow$Net;") ∈ xWall := xw 333 (by decide +kernel) rfl
theorem w_242 : (Jvm.Cond.fieldLink "ThinRow" (14 : Nat) "ThinRow" "tape" "LThinRow$Bytes;") ∈ xWall := xw 336 (by decide +kernel) rfl
theorem w_243 : (Jvm.Cond.fieldLink "ThinRow" (18 : Nat) "ThinRow" "out" "LThinRow$Bytes;") ∈ xWall := xw 337 (by decide +kernel) rfl
theorem w_244 : (Jvm.Cond.fieldLink "ThinRow" (26 : Nat) "ThinRow" "reader" "LThinRow$Reader;") ∈ xWall := xw 338 (by decide +kernel) rfl
theorem w_245 : (Jvm.Cond.fieldLink "ThinRow" (32 : Nat) "ThinRow" "nets" "[LThinRow$Net;") ∈ xWall := xw 339 (by decide +kernel) rfl
theorem w_246 : (Jvm.Cond.fieldLink "ThinRow" (38 : Nat) "ThinRow" "findings" "[LThinRow$Findings;") ∈ xWall := xw 340 (by decide +kernel) rfl
theorem w_247 : (Jvm.Cond.fieldLink "ThinRow" (47 : Nat) "ThinRow" "setSearch" "LThinRow$SetSearch;") ∈ xWall := xw 341 (by decide +kernel) rfl
theorem w_248 : (Jvm.Cond.fieldLink "ThinRow" (54 : Nat) "ThinRow" "bandSearch" "LThinRow$BandSearch;") ∈ xWall := xw 342 (by decide +kernel) rfl
theorem w_249 : (Jvm.Cond.fieldLink "ThinRow" (61 : Nat) "ThinRow" "history" "LThinRow$History;") ∈ xWall := xw 343 (by decide +kernel) rfl
theorem w_250 : (Jvm.Cond.fieldLink "ThinRow" (65 : Nat) "ThinRow" "kept" "LThinRow$Net;") ∈ xWall := xw 344 (by decide +kernel) rfl
theorem w_251 : (Jvm.Cond.fieldLink "ThinRow" (69 : Nat) "ThinRow" "trial" "LThinRow$Net;") ∈ xWall := xw 345 (by decide +kernel) rfl
theorem w_252 : (Jvm.Cond.laysFinal "ThinRow" "ThinRow" "tape" "LThinRow$Bytes;") ∈ xWall := xw 346 (by decide +kernel) rfl
theorem w_254 : (Jvm.Cond.laysFinal "ThinRow" "ThinRow" "out" "LThinRow$Bytes;") ∈ xWall := xw 348 (by decide +kernel) rfl
theorem w_256 : (Jvm.Cond.laysFinal "ThinRow" "ThinRow" "reader" "LThinRow$Reader;") ∈ xWall := xw 350 (by decide +kernel) rfl
theorem w_258 : (Jvm.Cond.laysFinal "ThinRow" "ThinRow" "nets" "[LThinRow$Net;") ∈ xWall := xw 352 (by decide +kernel) rfl
theorem w_260 : (Jvm.Cond.laysFinal "ThinRow" "ThinRow" "findings" "[LThinRow$Findings;") ∈ xWall := xw 354 (by decide +kernel) rfl
theorem w_262 : (Jvm.Cond.laysFinal "ThinRow" "ThinRow" "setSearch" "LThinRow$SetSearch;") ∈ xWall := xw 356 (by decide +kernel) rfl
theorem w_264 : (Jvm.Cond.laysFinal "ThinRow" "ThinRow" "bandSearch" "LThinRow$BandSearch;") ∈ xWall := xw 358 (by decide +kernel) rfl
theorem w_266 : (Jvm.Cond.laysFinal "ThinRow" "ThinRow" "history" "LThinRow$History;") ∈ xWall := xw 360 (by decide +kernel) rfl
theorem w_268 : (Jvm.Cond.laysFinal "ThinRow" "ThinRow" "kept" "LThinRow$Net;") ∈ xWall := xw 362 (by decide +kernel) rfl
theorem w_270 : (Jvm.Cond.laysFinal "ThinRow" "ThinRow" "trial" "LThinRow$Net;") ∈ xWall := xw 364 (by decide +kernel) rfl
theorem w_276 : (Jvm.Cond.code ({ cls := "ThinRow", name := "feed", desc := "(IIIII)I" } : Jvm.MethodName) prog_1_method_2_code (6 : Nat) (Option.some Jvm.ClassFile.FieldType.int)) ∈ xWall := xw 370 (by decide +kernel) rfl
theorem w_277 : (Jvm.Cond.methodLink "ThinRow" (72 : Nat) ({ cls := "ThinRow$Bytes", name := "hasRoom", desc := "(I)Z" } : Jvm.MethodName)) ∈ xWall := xw 371 (by decide +kernel) rfl
theorem w_278 : (Jvm.Cond.instanceMethod ({ cls := "ThinRow$Bytes", name := "hasRoom", desc := "(I)Z" } : Jvm.MethodName)) ∈ xWall := xw 372 (by decide +kernel) rfl
theorem w_279 : (Jvm.Cond.selects "ThinRow$Bytes" ({ cls := "ThinRow$Bytes", name := "hasRoom", desc := "(I)Z" } : Jvm.MethodName) ({ cls := "ThinRow$Bytes", name := "hasRoom", desc := "(I)Z" } : Jvm.MethodName)) ∈ xWall := xw 373 (by decide +kernel) rfl
theorem w_280 : (Jvm.Cond.code ({ cls := "ThinRow$Bytes", name := "hasRoom", desc := "(I)Z" } : Jvm.MethodName) prog_3_method_2_code (2 : Nat) (Option.some Jvm.ClassFile.FieldType.boolean)) ∈ xWall := xw 374 (by decide +kernel) rfl
theorem w_281 : (Jvm.Cond.methodLink "ThinRow" (76 : Nat) ({ cls := "ThinRow$Bytes", name := "putFour", desc := "(I)V" } : Jvm.MethodName)) ∈ xWall := xw 375 (by decide +kernel) rfl
theorem w_282 : (Jvm.Cond.instanceMethod ({ cls := "ThinRow$Bytes", name := "putFour", desc := "(I)V" } : Jvm.MethodName)) ∈ xWall := xw 376 (by decide +kernel) rfl
theorem w_283 : (Jvm.Cond.selects "ThinRow$Bytes" ({ cls := "ThinRow$Bytes", name := "putFour", desc := "(I)V" } : Jvm.MethodName) ({ cls := "ThinRow$Bytes", name := "putFour", desc := "(I)V" } : Jvm.MethodName)) ∈ xWall := xw 377 (by decide +kernel) rfl
theorem w_284 : (Jvm.Cond.code ({ cls := "ThinRow$Bytes", name := "putFour", desc := "(I)V" } : Jvm.MethodName) prog_3_method_4_code (2 : Nat) (Option.none : Option Jvm.ClassFile.FieldType)) ∈ xWall := xw 378 (by decide +kernel) rfl
theorem w_285 : (Jvm.Cond.methodLink "ThinRow$Bytes" (29 : Nat) ({ cls := "ThinRow$Bytes", name := "put", desc := "(I)V" } : Jvm.MethodName)) ∈ xWall := xw 379 (by decide +kernel) rfl
theorem w_286 : (Jvm.Cond.instanceMethod ({ cls := "ThinRow$Bytes", name := "put", desc := "(I)V" } : Jvm.MethodName)) ∈ xWall := xw 380 (by decide +kernel) rfl
theorem w_287 : (Jvm.Cond.selects "ThinRow$Bytes" ({ cls := "ThinRow$Bytes", name := "put", desc := "(I)V" } : Jvm.MethodName) ({ cls := "ThinRow$Bytes", name := "put", desc := "(I)V" } : Jvm.MethodName)) ∈ xWall := xw 381 (by decide +kernel) rfl
theorem w_288 : (Jvm.Cond.code ({ cls := "ThinRow$Bytes", name := "put", desc := "(I)V" } : Jvm.MethodName) prog_3_method_3_code (2 : Nat) (Option.none : Option Jvm.ClassFile.FieldType)) ∈ xWall := xw 382 (by decide +kernel) rfl
theorem w_289 : (Jvm.Cond.methodLink "ThinRow$Bytes" (25 : Nat) ({ cls := "ThinRow$Bytes", name := "hasRoom", desc := "(I)Z" } : Jvm.MethodName)) ∈ xWall := xw 383 (by decide +kernel) rfl
theorem w_293 : (Jvm.Cond.code ({ cls := "ThinRow", name := "end", desc := "(I)I" } : Jvm.MethodName) prog_1_method_3_code (2 : Nat) (Option.some Jvm.ClassFile.FieldType.int)) ∈ xWall := xw 387 (by decide +kernel) rfl
theorem w_297 : (Jvm.Cond.code ({ cls := "ThinRow", name := "told", desc := "(I)I" } : Jvm.MethodName) prog_1_method_4_code (4 : Nat) (Option.some Jvm.ClassFile.FieldType.int)) ∈ xWall := xw 391 (by decide +kernel) rfl
theorem w_298 : (Jvm.Cond.methodLink "ThinRow" (83 : Nat) ({ cls := "ThinRow", name := "isSlot", desc := "(I)Z" } : Jvm.MethodName)) ∈ xWall := xw 392 (by decide +kernel) rfl
theorem w_299 : (Jvm.Cond.static ({ cls := "ThinRow", name := "isSlot", desc := "(I)Z" } : Jvm.MethodName)) ∈ xWall := xw 393 (by decide +kernel) rfl
theorem w_300 : (Jvm.Cond.code ({ cls := "ThinRow", name := "isSlot", desc := "(I)Z" } : Jvm.MethodName) prog_1_method_49_code (1 : Nat) (Option.some Jvm.ClassFile.FieldType.boolean)) ∈ xWall := xw 394 (by decide +kernel) rfl
theorem w_301 : (Jvm.Cond.methodLink "ThinRow" (86 : Nat) ({ cls := "ThinRow$Reader", name := "readAll", desc := "()Z" } : Jvm.MethodName)) ∈ xWall := xw 395 (by decide +kernel) rfl
theorem w_302 : (Jvm.Cond.instanceMethod ({ cls := "ThinRow$Reader", name := "readAll", desc := "()Z" } : Jvm.MethodName)) ∈ xWall := xw 396 (by decide +kernel) rfl
theorem w_303 : (Jvm.Cond.selects "ThinRow$Reader" ({ cls := "ThinRow$Reader", name := "readAll", desc := "()Z" } : Jvm.MethodName) ({ cls := "ThinRow$Reader", name := "readAll", desc := "()Z" } : Jvm.MethodName)) ∈ xWall := xw 397 (by decide +kernel) rfl
theorem w_304 : (Jvm.Cond.code ({ cls := "ThinRow$Reader", name := "readAll", desc := "()Z" } : Jvm.MethodName) prog_9_method_2_code (1 : Nat) (Option.some Jvm.ClassFile.FieldType.boolean)) ∈ xWall := xw 398 (by decide +kernel) rfl
theorem w_305 : (Jvm.Cond.methodLink "ThinRow$Reader" (32 : Nat) ({ cls := "ThinRow$Reader", name := "step", desc := "()V" } : Jvm.MethodName)) ∈ xWall := xw 399 (by decide +kernel) rfl
theorem w_307 : (Jvm.Cond.instanceMethod ({ cls := "ThinRow$Reader", name := "step", desc := "()V" } : Jvm.MethodName)) ∈ xWall := xw 401 (by decide +kernel) rfl
theorem w_308 : (Jvm.Cond.code ({ cls := "ThinRow$Reader", name := "step", desc := "()V" } : Jvm.MethodName) prog_9_method_15_code (1 : Nat) (Option.none : Option Jvm.ClassFile.FieldType)) ∈ xWall := xw 402 (by decide +kernel) rfl
theorem w_309 : (Jvm.Cond.methodLink "ThinRow$Reader" (107 : Nat) ({ cls := "ThinRow$Bytes", name := "at", desc := "(I)I" } : Jvm.MethodName)) ∈ xWall := xw 403 (by decide +kernel) rfl
theorem w_310 : (Jvm.Cond.instanceMethod ({ cls := "ThinRow$Bytes", name := "at", desc := "(I)I" } : Jvm.MethodName)) ∈ xWall := xw 404 (by decide +kernel) rfl
theorem w_311 : (Jvm.Cond.selects "ThinRow$Bytes" ({ cls := "ThinRow$Bytes", name := "at", desc := "(I)I" } : Jvm.MethodName) ({ cls := "ThinRow$Bytes", name := "at", desc := "(I)I" } : Jvm.MethodName)) ∈ xWall := xw 405 (by decide +kernel) rfl
theorem w_312 : (Jvm.Cond.code ({ cls := "ThinRow$Bytes", name := "at", desc := "(I)I" } : Jvm.MethodName) prog_3_method_7_code (2 : Nat) (Option.some Jvm.ClassFile.FieldType.int)) ∈ xWall := xw 406 (by decide +kernel) rfl
theorem w_316 : (Jvm.Cond.methodLink "ThinRow$Reader" (144 : Nat) ({ cls := "ThinRow$Reader", name := "kindOf", desc := "(I)I" } : Jvm.MethodName)) ∈ xWall := xw 410 (by decide +kernel) rfl
theorem w_317 : (Jvm.Cond.static ({ cls := "ThinRow$Reader", name := "kindOf", desc := "(I)I" } : Jvm.MethodName)) ∈ xWall := xw 411 (by decide +kernel) rfl
theorem w_318 : (Jvm.Cond.code ({ cls := "ThinRow$Reader", name := "kindOf", desc := "(I)I" } : Jvm.MethodName) prog_9_method_16_code (1 : Nat) (Option.some Jvm.ClassFile.FieldType.int)) ∈ xWall := xw 412 (by decide +kernel) rfl
theorem w_319 : (Jvm.Cond.methodLink "ThinRow$Reader" (35 : Nat) ({ cls := "ThinRow$Reader", name := "readHead", desc := "()Z" } : Jvm.MethodName)) ∈ xWall := xw 413 (by decide +kernel) rfl
theorem w_321 : (Jvm.Cond.instanceMethod ({ cls := "ThinRow$Reader", name := "readHead", desc := "()Z" } : Jvm.MethodName)) ∈ xWall := xw 415 (by decide +kernel) rfl
theorem w_322 : (Jvm.Cond.code ({ cls := "ThinRow$Reader", name := "readHead", desc := "()Z" } : Jvm.MethodName) prog_9_method_3_code (1 : Nat) (Option.some Jvm.ClassFile.FieldType.boolean)) ∈ xWall := xw 416 (by decide +kernel) rfl
theorem w_324 : (Jvm.Cond.methodLink "ThinRow$Reader" (47 : Nat) ({ cls := "ThinRow$Reader", name := "isWord", desc := "(Ljava/lang/String;)Z" } : Jvm.MethodName)) ∈ xWall := xw 418 (by decide +kernel) rfl
theorem w_326 : (Jvm.Cond.instanceMethod ({ cls := "ThinRow$Reader", name := "isWord", desc := "(Ljava/lang/String;)Z" } : Jvm.MethodName)) ∈ xWall := xw 420 (by decide +kernel) rfl
theorem w_327 : (Jvm.Cond.code ({ cls := "ThinRow$Reader", name := "isWord", desc := "(Ljava/lang/String;)Z" } : Jvm.MethodName) prog_9_method_13_code (3 : Nat) (Option.some Jvm.ClassFile.FieldType.boolean)) ∈ xWall := xw 421 (by decide +kernel) rfl
theorem w_376 : (Jvm.Cond.methodLink "ThinRow$Reader" (51 : Nat) ({ cls := "ThinRow$Reader", name := "blame", desc := "(I)Z" } : Jvm.MethodName)) ∈ xWall := xw 470 (by decide +kernel) rfl
theorem w_378 : (Jvm.Cond.instanceMethod ({ cls := "ThinRow$Reader", name := "blame", desc := "(I)Z" } : Jvm.MethodName)) ∈ xWall := xw 472 (by decide +kernel) rfl
theorem w_379 : (Jvm.Cond.code ({ cls := "ThinRow$Reader", name := "blame", desc := "(I)Z" } : Jvm.MethodName) prog_9_method_14_code (2 : Nat) (Option.some Jvm.ClassFile.FieldType.boolean)) ∈ xWall := xw 473 (by decide +kernel) rfl
theorem w_476 : (Jvm.Cond.code ({ cls := "ThinRow", name := "fault", desc := "(I)I" } : Jvm.MethodName) prog_1_method_5_code (2 : Nat) (Option.some Jvm.ClassFile.FieldType.int)) ∈ xWall := xw 570 (by decide +kernel) rfl
theorem w_480 : (Jvm.Cond.code ({ cls := "ThinRow", name := "count", desc := "(I)I" } : Jvm.MethodName) prog_1_method_6_code (2 : Nat) (Option.some Jvm.ClassFile.FieldType.int)) ∈ xWall := xw 574 (by decide +kernel) rfl
theorem w_481 : (Jvm.Cond.methodLink "ThinRow" (109 : Nat) ({ cls := "ThinRow", name := "filledSlots", desc := "()I" } : Jvm.MethodName)) ∈ xWall := xw 575 (by decide +kernel) rfl
theorem w_483 : (Jvm.Cond.instanceMethod ({ cls := "ThinRow", name := "filledSlots", desc := "()I" } : Jvm.MethodName)) ∈ xWall := xw 577 (by decide +kernel) rfl
theorem w_484 : (Jvm.Cond.code ({ cls := "ThinRow", name := "filledSlots", desc := "()I" } : Jvm.MethodName) prog_1_method_54_code (3 : Nat) (Option.some Jvm.ClassFile.FieldType.int)) ∈ xWall := xw 578 (by decide +kernel) rfl
theorem w_488 : (Jvm.Cond.code ({ cls := "ThinRow", name := "look", desc := "(II)I" } : Jvm.MethodName) prog_1_method_7_code (4 : Nat) (Option.some Jvm.ClassFile.FieldType.int)) ∈ xWall := xw 582 (by decide +kernel) rfl
theorem w_489 : (Jvm.Cond.methodLink "ThinRow" (116 : Nat) ({ cls := "ThinRow", name := "netIn", desc := "(I)LThinRow$Net;" } : Jvm.MethodName)) ∈ xWall := xw 583 (by decide +kernel) rfl
theorem w_491 : (Jvm.Cond.instanceMethod ({ cls := "ThinRow", name := "netIn", desc := "(I)LThinRow$Net;" } : Jvm.MethodName)) ∈ xWall := xw 585 (by decide +kernel) rfl
theorem w_492 : (Jvm.Cond.code ({ cls := "ThinRow", name := "netIn", desc := "(I)LThinRow$Net;" } : Jvm.MethodName) prog_1_method_53_code (2 : Nat) (Option.some (Jvm.ClassFile.FieldType.object "ThinRow$Net"))) ∈ xWall := xw 586 (by decide +kernel) rfl
theorem w_540 : (Jvm.Cond.code ({ cls := "ThinRow", name := "near", desc := "(II)I" } : Jvm.MethodName) prog_1_method_8_code (4 : Nat) (Option.some Jvm.ClassFile.FieldType.int)) ∈ xWall := xw 634 (by decide +kernel) rfl
theorem w_545 : (Jvm.Cond.code ({ cls := "ThinRow", name := "line", desc := "(III)I" } : Jvm.MethodName) prog_1_method_9_code (5 : Nat) (Option.some Jvm.ClassFile.FieldType.int)) ∈ xWall := xw 639 (by decide +kernel) rfl
theorem w_550 : (Jvm.Cond.code ({ cls := "ThinRow", name := "far", desc := "(III)I" } : Jvm.MethodName) prog_1_method_10_code (5 : Nat) (Option.some Jvm.ClassFile.FieldType.int)) ∈ xWall := xw 644 (by decide +kernel) rfl
theorem w_555 : (Jvm.Cond.code ({ cls := "ThinRow", name := "row", desc := "(II)I" } : Jvm.MethodName) prog_1_method_11_code (4 : Nat) (Option.some Jvm.ClassFile.FieldType.int)) ∈ xWall := xw 649 (by decide +kernel) rfl
theorem w_559 : (Jvm.Cond.code ({ cls := "ThinRow", name := "place", desc := "(II)I" } : Jvm.MethodName) prog_1_method_12_code (4 : Nat) (Option.some Jvm.ClassFile.FieldType.int)) ∈ xWall := xw 653 (by decide +kernel) rfl
theorem w_567 : (Jvm.Cond.code ({ cls := "ThinRow", name := "value", desc := "(II)I" } : Jvm.MethodName) prog_1_method_13_code (4 : Nat) (Option.some Jvm.ClassFile.FieldType.int)) ∈ xWall := xw 661 (by decide +kernel) rfl
theorem w_618 : (Jvm.Cond.code ({ cls := "ThinRow", name := "price", desc := "(III)I" } : Jvm.MethodName) prog_1_method_14_code (5 : Nat) (Option.some Jvm.ClassFile.FieldType.int)) ∈ xWall := xw 712 (by decide +kernel) rfl
theorem w_636 : (Jvm.Cond.code ({ cls := "ThinRow", name := "worst", desc := "(II)I" } : Jvm.MethodName) prog_1_method_15_code (4 : Nat) (Option.some Jvm.ClassFile.FieldType.int)) ∈ xWall := xw 730 (by decide +kernel) rfl
theorem w_645 : (Jvm.Cond.code ({ cls := "ThinRow", name := "longest", desc := "(I)I" } : Jvm.MethodName) prog_1_method_16_code (3 : Nat) (Option.some Jvm.ClassFile.FieldType.int)) ∈ xWall := xw 739 (by decide +kernel) rfl
theorem w_656 : (Jvm.Cond.code ({ cls := "ThinRow", name := "least", desc := "(II)I" } : Jvm.MethodName) prog_1_method_17_code (4 : Nat) (Option.some Jvm.ClassFile.FieldType.int)) ∈ xWall := xw 750 (by decide +kernel) rfl
theorem w_657 : (Jvm.Cond.methodLink "ThinRow" (189 : Nat) ({ cls := "ThinRow", name := "findingOf", desc := "(II)LThinRow$Finding;" } : Jvm.MethodName)) ∈ xWall := xw 751 (by decide +kernel) rfl
theorem w_659 : (Jvm.Cond.instanceMethod ({ cls := "ThinRow", name := "findingOf", desc := "(II)LThinRow$Finding;" } : Jvm.MethodName)) ∈ xWall := xw 753 (by decide +kernel) rfl
theorem w_660 : (Jvm.Cond.code ({ cls := "ThinRow", name := "findingOf", desc := "(II)LThinRow$Finding;" } : Jvm.MethodName) prog_1_method_56_code (5 : Nat) (Option.some (Jvm.ClassFile.FieldType.object "ThinRow$Finding"))) ∈ xWall := xw 754 (by decide +kernel) rfl
theorem w_749 : (Jvm.Cond.code ({ cls := "ThinRow", name := "best", desc := "(III)I" } : Jvm.MethodName) prog_1_method_18_code (5 : Nat) (Option.some Jvm.ClassFile.FieldType.int)) ∈ xWall := xw 843 (by decide +kernel) rfl
theorem w_753 : (Jvm.Cond.code ({ cls := "ThinRow", name := "ways", desc := "(II)I" } : Jvm.MethodName) prog_1_method_19_code (4 : Nat) (Option.some Jvm.ClassFile.FieldType.int)) ∈ xWall := xw 847 (by decide +kernel) rfl
theorem w_757 : (Jvm.Cond.code ({ cls := "ThinRow", name := "within", desc := "(III)I" } : Jvm.MethodName) prog_1_method_20_code (5 : Nat) (Option.some Jvm.ClassFile.FieldType.int)) ∈ xWall := xw 851 (by decide +kernel) rfl
theorem w_772 : (Jvm.Cond.code ({ cls := "ThinRow", name := "firsts", desc := "(II)I" } : Jvm.MethodName) prog_1_method_21_code (4 : Nat) (Option.some Jvm.ClassFile.FieldType.int)) ∈ xWall := xw 866 (by decide +kernel) rfl
theorem w_776 : (Jvm.Cond.code ({ cls := "ThinRow", name := "bound", desc := "(III)I" } : Jvm.MethodName) prog_1_method_22_code (5 : Nat) (Option.some Jvm.ClassFile.FieldType.int)) ∈ xWall := xw 870 (by decide +kernel) rfl
theorem w_791 : (Jvm.Cond.code ({ cls := "ThinRow", name := "minor", desc := "(I)I" } : Jvm.MethodName) prog_1_method_23_code (3 : Nat) (Option.some Jvm.ClassFile.FieldType.int)) ∈ xWall := xw 885 (by decide +kernel) rfl
theorem w_814 : (Jvm.Cond.code ({ cls := "ThinRow", name := "among", desc := "(III)I" } : Jvm.MethodName) prog_1_method_24_code (5 : Nat) (Option.some Jvm.ClassFile.FieldType.int)) ∈ xWall := xw 908 (by decide +kernel) rfl
theorem w_822 : (Jvm.Cond.code ({ cls := "ThinRow", name := "split", desc := "(III)I" } : Jvm.MethodName) prog_1_method_25_code (5 : Nat) (Option.some Jvm.ClassFile.FieldType.int)) ∈ xWall := xw 916 (by decide +kernel) rfl
theorem w_830 : (Jvm.Cond.code ({ cls := "ThinRow", name := "halve", desc := "(I)I" } : Jvm.MethodName) prog_1_method_26_code (3 : Nat) (Option.some Jvm.ClassFile.FieldType.int)) ∈ xWall := xw 924 (by decide +kernel) rfl
theorem w_839 : (Jvm.Cond.code ({ cls := "ThinRow", name := "bag", desc := "(III)I" } : Jvm.MethodName) prog_1_method_27_code (5 : Nat) (Option.some Jvm.ClassFile.FieldType.int)) ∈ xWall := xw 933 (by decide +kernel) rfl
theorem w_852 : (Jvm.Cond.code ({ cls := "ThinRow", name := "filled", desc := "(II)I" } : Jvm.MethodName) prog_1_method_28_code (4 : Nat) (Option.some Jvm.ClassFile.FieldType.int)) ∈ xWall := xw 946 (by decide +kernel) rfl
theorem w_864 : (Jvm.Cond.code ({ cls := "ThinRow", name := "gain", desc := "(IIII)I" } : Jvm.MethodName) prog_1_method_29_code (6 : Nat) (Option.some Jvm.ClassFile.FieldType.int)) ∈ xWall := xw 958 (by decide +kernel) rfl
theorem w_872 : (Jvm.Cond.code ({ cls := "ThinRow", name := "swaps", desc := "(III)I" } : Jvm.MethodName) prog_1_method_30_code (5 : Nat) (Option.some Jvm.ClassFile.FieldType.int)) ∈ xWall := xw 966 (by decide +kernel) rfl
theorem w_876 : (Jvm.Cond.code ({ cls := "ThinRow", name := "moves", desc := "(III)I" } : Jvm.MethodName) prog_1_method_31_code (5 : Nat) (Option.some Jvm.ClassFile.FieldType.int)) ∈ xWall := xw 970 (by decide +kernel) rfl
theorem w_885 : (Jvm.Cond.code ({ cls := "ThinRow", name := "reverse", desc := "(I)I" } : Jvm.MethodName) prog_1_method_32_code (3 : Nat) (Option.some Jvm.ClassFile.FieldType.int)) ∈ xWall := xw 979 (by decide +kernel) rfl
theorem w_893 : (Jvm.Cond.code ({ cls := "ThinRow", name := "takes", desc := "(II)I" } : Jvm.MethodName) prog_1_method_33_code (5 : Nat) (Option.some Jvm.ClassFile.FieldType.int)) ∈ xWall := xw 987 (by decide +kernel) rfl
theorem w_899 : (Jvm.Cond.code ({ cls := "ThinRow", name := "polish", desc := "(II)I" } : Jvm.MethodName) prog_1_method_34_code (5 : Nat) (Option.some Jvm.ClassFile.FieldType.int)) ∈ xWall := xw 993 (by decide +kernel) rfl
theorem w_911 : (Jvm.Cond.code ({ cls := "ThinRow", name := "polished", desc := "(II)I" } : Jvm.MethodName) prog_1_method_35_code (4 : Nat) (Option.some Jvm.ClassFile.FieldType.int)) ∈ xWall := xw 1005 (by decide +kernel) rfl
theorem w_915 : (Jvm.Cond.code ({ cls := "ThinRow", name := "greedy", desc := "(II)I" } : Jvm.MethodName) prog_1_method_36_code (4 : Nat) (Option.some Jvm.ClassFile.FieldType.int)) ∈ xWall := xw 1009 (by decide +kernel) rfl
theorem w_923 : (Jvm.Cond.code ({ cls := "ThinRow", name := "layers", desc := "(II)I" } : Jvm.MethodName) prog_1_method_37_code (4 : Nat) (Option.some Jvm.ClassFile.FieldType.int)) ∈ xWall := xw 1017 (by decide +kernel) rfl
theorem w_935 : (Jvm.Cond.code ({ cls := "ThinRow", name := "adds", desc := "(IIII)I" } : Jvm.MethodName) prog_1_method_38_code (7 : Nat) (Option.some Jvm.ClassFile.FieldType.int)) ∈ xWall := xw 1029 (by decide +kernel) rfl
theorem w_945 : (Jvm.Cond.code ({ cls := "ThinRow", name := "cuts", desc := "(III)I" } : Jvm.MethodName) prog_1_method_39_code (6 : Nat) (Option.some Jvm.ClassFile.FieldType.int)) ∈ xWall := xw 1039 (by decide +kernel) rfl
theorem w_949 : (Jvm.Cond.code ({ cls := "ThinRow", name := "merges", desc := "(III)I" } : Jvm.MethodName) prog_1_method_40_code (5 : Nat) (Option.some Jvm.ClassFile.FieldType.int)) ∈ xWall := xw 1043 (by decide +kernel) rfl
theorem w_954 : (Jvm.Cond.code ({ cls := "ThinRow", name := "drops", desc := "(I)I" } : Jvm.MethodName) prog_1_method_41_code (3 : Nat) (Option.some Jvm.ClassFile.FieldType.int)) ∈ xWall := xw 1048 (by decide +kernel) rfl
theorem w_959 : (Jvm.Cond.code ({ cls := "ThinRow", name := "undo", desc := "()I" } : Jvm.MethodName) prog_1_method_42_code (1 : Nat) (Option.some Jvm.ClassFile.FieldType.int)) ∈ xWall := xw 1053 (by decide +kernel) rfl
theorem w_967 : (Jvm.Cond.code ({ cls := "ThinRow", name := "tell", desc := "(II)I" } : Jvm.MethodName) prog_1_method_43_code (4 : Nat) (Option.some Jvm.ClassFile.FieldType.int)) ∈ xWall := xw 1061 (by decide +kernel) rfl
theorem w_1000 : (Jvm.Cond.code ({ cls := "ThinRow", name := "octet", desc := "(I)I" } : Jvm.MethodName) prog_1_method_44_code (2 : Nat) (Option.some Jvm.ClassFile.FieldType.int)) ∈ xWall := xw 1094 (by decide +kernel) rfl
theorem w_1001 : (Jvm.Cond.methodLink "ThinRow" (308 : Nat) ({ cls := "ThinRow$Bytes", name := "at", desc := "(I)I" } : Jvm.MethodName)) ∈ xWall := xw 1095 (by decide +kernel) rfl
theorem w_1006 : (Jvm.Cond.code ({ cls := "ThinRowModel", name := "<init>", desc := "()V" } : Jvm.MethodName) prog_14_method_4_code (1 : Nat) (Option.none : Option Jvm.ClassFile.FieldType)) ∈ xWall := xw 1100 (by decide +kernel) rfl
theorem w_1007 : (Jvm.Cond.methodLink "ThinRowModel" (1 : Nat) ({ cls := "java/lang/Object", name := "<init>", desc := "()V" } : Jvm.MethodName)) ∈ xWall := xw 1101 (by decide +kernel) rfl
theorem w_1008 : (Jvm.Cond.fieldLink "ThinRowModel" (7 : Nat) "ThinRowModel" "state" "[I") ∈ xWall := xw 1102 (by decide +kernel) rfl
theorem w_1009 : (Jvm.Cond.fieldLink "ThinRowModel" (13 : Nat) "ThinRowModel" "was" "[I") ∈ xWall := xw 1103 (by decide +kernel) rfl
theorem w_1010 : (Jvm.Cond.fieldLink "ThinRowModel" (16 : Nat) "ThinRowModel" "kept" "[I") ∈ xWall := xw 1104 (by decide +kernel) rfl
theorem w_1011 : (Jvm.Cond.fieldLink "ThinRowModel" (87 : Nat) "ThinRowModel" "keptMany" "I") ∈ xWall := xw 1105 (by decide +kernel) rfl
theorem w_1012 : (Jvm.Cond.fieldLink "ThinRowModel" (19 : Nat) "ThinRowModel" "tape" "[I") ∈ xWall := xw 1106 (by decide +kernel) rfl
theorem w_1013 : (Jvm.Cond.fieldLink "ThinRowModel" (100 : Nat) "ThinRowModel" "taped" "I") ∈ xWall := xw 1107 (by decide +kernel) rfl
theorem w_1014 : (Jvm.Cond.fieldLink "ThinRowModel" (127 : Nat) "ThinRowModel" "faultKind" "I") ∈ xWall := xw 1108 (by decide +kernel) rfl
theorem w_1015 : (Jvm.Cond.fieldLink "ThinRowModel" (22 : Nat) "ThinRowModel" "faultPlace" "I") ∈ xWall := xw 1109 (by decide +kernel) rfl
theorem w_1021 : (Jvm.Cond.fieldLink "ThinRowModel" (26 : Nat) "ThinRowModel" "order" "[I") ∈ xWall := xw 1115 (by decide +kernel) rfl
theorem w_1022 : (Jvm.Cond.fieldLink "ThinRowModel" (29 : Nat) "ThinRowModel" "rest" "[I") ∈ xWall := xw 1116 (by decide +kernel) rfl
theorem w_1023 : (Jvm.Cond.fieldLink "ThinRowModel" (32 : Nat) "ThinRowModel" "ways" "[I") ∈ xWall := xw 1117 (by decide +kernel) rfl
theorem w_1024 : (Jvm.Cond.fieldLink "ThinRowModel" (35 : Nat) "ThinRowModel" "costs" "[I") ∈ xWall := xw 1118 (by decide +kernel) rfl
theorem w_1028 : (Jvm.Cond.fieldLink "ThinRowModel" (38 : Nat) "ThinRowModel" "bandBest" "[I") ∈ xWall := xw 1122 (by decide +kernel) rfl
theorem w_1029 : (Jvm.Cond.fieldLink "ThinRowModel" (41 : Nat) "ThinRowModel" "found" "[I") ∈ xWall := xw 1123 (by decide +kernel) rfl
theorem w_1030 : (Jvm.Cond.fieldLink "ThinRowModel" (44 : Nat) "ThinRowModel" "drawn" "[I") ∈ xWall := xw 1124 (by decide +kernel) rfl
theorem w_1031 : (Jvm.Cond.fieldLink "ThinRowModel" (47 : Nat) "ThinRowModel" "joined" "[I") ∈ xWall := xw 1125 (by decide +kernel) rfl
theorem w_1032 : (Jvm.Cond.fieldLink "ThinRowModel" (50 : Nat) "ThinRowModel" "out" "[I") ∈ xWall := xw 1126 (by decide +kernel) rfl
theorem w_1033 : (Jvm.Cond.fieldLink "ThinRowModel" (193 : Nat) "ThinRowModel" "outs" "I") ∈ xWall := xw 1127 (by decide +kernel) rfl
theorem w_1034 : (Jvm.Cond.laysFinal "ThinRowModel" "ThinRowModel" "state" "[I") ∈ xWall := xw 1128 (by decide +kernel) rfl
theorem w_1036 : (Jvm.Cond.laysFinal "ThinRowModel" "ThinRowModel" "was" "[I") ∈ xWall := xw 1130 (by decide +kernel) rfl
theorem w_1038 : (Jvm.Cond.laysFinal "ThinRowModel" "ThinRowModel" "kept" "[I") ∈ xWall := xw 1132 (by decide +kernel) rfl
theorem w_1040 : (Jvm.Cond.lays "ThinRowModel" "ThinRowModel" "keptMany" "I") ∈ xWall := xw 1134 (by decide +kernel) rfl
theorem w_1042 : (Jvm.Cond.laysFinal "ThinRowModel" "ThinRowModel" "tape" "[I") ∈ xWall := xw 1136 (by decide +kernel) rfl
theorem w_1044 : (Jvm.Cond.lays "ThinRowModel" "ThinRowModel" "taped" "I") ∈ xWall := xw 1138 (by decide +kernel) rfl
theorem w_1046 : (Jvm.Cond.lays "ThinRowModel" "ThinRowModel" "faultKind" "I") ∈ xWall := xw 1140 (by decide +kernel) rfl
theorem w_1048 : (Jvm.Cond.lays "ThinRowModel" "ThinRowModel" "faultPlace" "I") ∈ xWall := xw 1142 (by decide +kernel) rfl
theorem w_1050 : (Jvm.Cond.lays "ThinRowModel" "ThinRowModel" "spot" "I") ∈ xWall := xw 1144 (by decide +kernel) rfl
theorem w_1052 : (Jvm.Cond.lays "ThinRowModel" "ThinRowModel" "begin" "I") ∈ xWall := xw 1146 (by decide +kernel) rfl
theorem w_1054 : (Jvm.Cond.lays "ThinRowModel" "ThinRowModel" "token" "I") ∈ xWall := xw 1148 (by decide +kernel) rfl
theorem w_1056 : (Jvm.Cond.lays "ThinRowModel" "ThinRowModel" "value" "I") ∈ xWall := xw 1150 (by decide +kernel) rfl
theorem w_1058 : (Jvm.Cond.lays "ThinRowModel" "ThinRowModel" "bad" "Z") ∈ xWall := xw 1152 (by decide +kernel) rfl
theorem w_1060 : (Jvm.Cond.laysFinal "ThinRowModel" "ThinRowModel" "order" "[I") ∈ xWall := xw 1154 (by decide +kernel) rfl
theorem w_1062 : (Jvm.Cond.laysFinal "ThinRowModel" "ThinRowModel" "rest" "[I") ∈ xWall := xw 1156 (by decide +kernel) rfl
theorem w_1064 : (Jvm.Cond.laysFinal "ThinRowModel" "ThinRowModel" "ways" "[I") ∈ xWall := xw 1158 (by decide +kernel) rfl
theorem w_1066 : (Jvm.Cond.laysFinal "ThinRowModel" "ThinRowModel" "costs" "[I") ∈ xWall := xw 1160 (by decide +kernel) rfl
theorem w_1068 : (Jvm.Cond.lays "ThinRowModel" "ThinRowModel" "full" "I") ∈ xWall := xw 1162 (by decide +kernel) rfl
theorem w_1070 : (Jvm.Cond.lays "ThinRowModel" "ThinRowModel" "bandRows" "I") ∈ xWall := xw 1164 (by decide +kernel) rfl
theorem w_1072 : (Jvm.Cond.lays "ThinRowModel" "ThinRowModel" "bandFirsts" "I") ∈ xWall := xw 1166 (by decide +kernel) rfl
theorem w_1074 : (Jvm.Cond.laysFinal "ThinRowModel" "ThinRowModel" "bandBest" "[I") ∈ xWall := xw 1168 (by decide +kernel) rfl
theorem w_1076 : (Jvm.Cond.laysFinal "ThinRowModel" "ThinRowModel" "found" "[I") ∈ xWall := xw 1170 (by decide +kernel) rfl
theorem w_1078 : (Jvm.Cond.laysFinal "ThinRowModel" "ThinRowModel" "drawn" "[I") ∈ xWall := xw 1172 (by decide +kernel) rfl
theorem w_1080 : (Jvm.Cond.laysFinal "ThinRowModel" "ThinRowModel" "joined" "[I") ∈ xWall := xw 1174 (by decide +kernel) rfl
theorem w_1082 : (Jvm.Cond.laysFinal "ThinRowModel" "ThinRowModel" "out" "[I") ∈ xWall := xw 1176 (by decide +kernel) rfl
theorem w_1084 : (Jvm.Cond.lays "ThinRowModel" "ThinRowModel" "outs" "I") ∈ xWall := xw 1178 (by decide +kernel) rfl
theorem w_1090 : (Jvm.Cond.code ({ cls := "ThinRowModel", name := "undo", desc := "()I" } : Jvm.MethodName) prog_14_method_20_code (2 : Nat) (Option.some Jvm.ClassFile.FieldType.int)) ∈ xWall := xw 1184 (by decide +kernel) rfl
theorem w_1094 : (Jvm.Cond.code ({ cls := "ThinRowModel", name := "drops", desc := "(I)I" } : Jvm.MethodName) prog_14_method_22_code (2 : Nat) (Option.some Jvm.ClassFile.FieldType.int)) ∈ xWall := xw 1188 (by decide +kernel) rfl
theorem w_1095 : (Jvm.Cond.methodLink "ThinRowModel" (59 : Nat) ({ cls := "ThinRowModel", name := "isSlot", desc := "(I)Z" } : Jvm.MethodName)) ∈ xWall := xw 1189 (by decide +kernel) rfl
theorem w_1096 : (Jvm.Cond.static ({ cls := "ThinRowModel", name := "isSlot", desc := "(I)Z" } : Jvm.MethodName)) ∈ xWall := xw 1190 (by decide +kernel) rfl
theorem w_1097 : (Jvm.Cond.code ({ cls := "ThinRowModel", name := "isSlot", desc := "(I)Z" } : Jvm.MethodName) prog_14_method_5_code (1 : Nat) (Option.some Jvm.ClassFile.FieldType.boolean)) ∈ xWall := xw 1191 (by decide +kernel) rfl
theorem w_1098 : (Jvm.Cond.constantLong "ThinRowModel" (53 : Nat) (2 : Int64)) ∈ xWall := xw 1192 (by decide +kernel) rfl
theorem w_1099 : (Jvm.Cond.methodLink "ThinRowModel" (55 : Nat) ({ cls := "ThinRowModel", name := "in", desc := "(JJJ)Z" } : Jvm.MethodName)) ∈ xWall := xw 1193 (by decide +kernel) rfl
theorem w_1100 : (Jvm.Cond.static ({ cls := "ThinRowModel", name := "in", desc := "(JJJ)Z" } : Jvm.MethodName)) ∈ xWall := xw 1194 (by decide +kernel) rfl
theorem w_1101 : (Jvm.Cond.code ({ cls := "ThinRowModel", name := "in", desc := "(JJJ)Z" } : Jvm.MethodName) prog_14_method_1_code (6 : Nat) (Option.some Jvm.ClassFile.FieldType.boolean)) ∈ xWall := xw 1195 (by decide +kernel) rfl
theorem w_1102 : (Jvm.Cond.methodLink "ThinRowModel" (67 : Nat) ({ cls := "ThinRowModel", name := "isNet", desc := "(I)Z" } : Jvm.MethodName)) ∈ xWall := xw 1196 (by decide +kernel) rfl
theorem w_1104 : (Jvm.Cond.instanceMethod ({ cls := "ThinRowModel", name := "isNet", desc := "(I)Z" } : Jvm.MethodName)) ∈ xWall := xw 1198 (by decide +kernel) rfl
theorem w_1105 : (Jvm.Cond.code ({ cls := "ThinRowModel", name := "isNet", desc := "(I)Z" } : Jvm.MethodName) prog_14_method_7_code (2 : Nat) (Option.some Jvm.ClassFile.FieldType.boolean)) ∈ xWall := xw 1199 (by decide +kernel) rfl
theorem w_1106 : (Jvm.Cond.methodLink "ThinRowModel" (63 : Nat) ({ cls := "ThinRowModel", name := "points", desc := "(I)I" } : Jvm.MethodName)) ∈ xWall := xw 1200 (by decide +kernel) rfl
theorem w_1108 : (Jvm.Cond.instanceMethod ({ cls := "ThinRowModel", name := "points", desc := "(I)I" } : Jvm.MethodName)) ∈ xWall := xw 1202 (by decide +kernel) rfl
theorem w_1109 : (Jvm.Cond.code ({ cls := "ThinRowModel", name := "points", desc := "(I)I" } : Jvm.MethodName) prog_14_method_6_code (2 : Nat) (Option.some Jvm.ClassFile.FieldType.int)) ∈ xWall := xw 1203 (by decide +kernel) rfl
theorem w_1125 : (Jvm.Cond.code ({ cls := "ThinRowModel", name := "feed", desc := "(IIIII)I" } : Jvm.MethodName) prog_14_method_23_code (8 : Nat) (Option.some Jvm.ClassFile.FieldType.int)) ∈ xWall := xw 1219 (by decide +kernel) rfl
theorem w_1129 : (Jvm.Cond.code ({ cls := "ThinRowModel", name := "end", desc := "(I)I" } : Jvm.MethodName) prog_14_method_24_code (2 : Nat) (Option.some Jvm.ClassFile.FieldType.int)) ∈ xWall := xw 1223 (by decide +kernel) rfl
theorem w_1216 : (Jvm.Cond.code ({ cls := "ThinRowModel", name := "fault", desc := "(I)I" } : Jvm.MethodName) prog_14_method_37_code (2 : Nat) (Option.some Jvm.ClassFile.FieldType.int)) ∈ xWall := xw 1310 (by decide +kernel) rfl
theorem w_1220 : (Jvm.Cond.code ({ cls := "ThinRowModel", name := "count", desc := "(I)I" } : Jvm.MethodName) prog_14_method_38_code (4 : Nat) (Option.some Jvm.ClassFile.FieldType.int)) ∈ xWall := xw 1314 (by decide +kernel) rfl
theorem w_1224 : (Jvm.Cond.code ({ cls := "ThinRowModel", name := "look", desc := "(II)I" } : Jvm.MethodName) prog_14_method_45_code (5 : Nat) (Option.some Jvm.ClassFile.FieldType.int)) ∈ xWall := xw 1318 (by decide +kernel) rfl
theorem w_1254 : (Jvm.Cond.code ({ cls := "ThinRowModel", name := "near", desc := "(II)I" } : Jvm.MethodName) prog_14_method_46_code (3 : Nat) (Option.some Jvm.ClassFile.FieldType.int)) ∈ xWall := xw 1348 (by decide +kernel) rfl
theorem w_1255 : (Jvm.Cond.methodLink "ThinRowModel" (70 : Nat) ({ cls := "ThinRowModel", name := "isPoint", desc := "(II)Z" } : Jvm.MethodName)) ∈ xWall := xw 1349 (by decide +kernel) rfl
theorem w_1257 : (Jvm.Cond.instanceMethod ({ cls := "ThinRowModel", name := "isPoint", desc := "(II)Z" } : Jvm.MethodName)) ∈ xWall := xw 1351 (by decide +kernel) rfl
theorem w_1258 : (Jvm.Cond.code ({ cls := "ThinRowModel", name := "isPoint", desc := "(II)Z" } : Jvm.MethodName) prog_14_method_8_code (3 : Nat) (Option.some Jvm.ClassFile.FieldType.boolean)) ∈ xWall := xw 1352 (by decide +kernel) rfl
theorem w_1262 : (Jvm.Cond.code ({ cls := "ThinRowModel", name := "line", desc := "(III)I" } : Jvm.MethodName) prog_14_method_47_code (4 : Nat) (Option.some Jvm.ClassFile.FieldType.int)) ∈ xWall := xw 1356 (by decide +kernel) rfl
theorem w_1266 : (Jvm.Cond.code ({ cls := "ThinRowModel", name := "far", desc := "(III)I" } : Jvm.MethodName) prog_14_method_48_code (4 : Nat) (Option.some Jvm.ClassFile.FieldType.int)) ∈ xWall := xw 1360 (by decide +kernel) rfl
theorem w_1270 : (Jvm.Cond.code ({ cls := "ThinRowModel", name := "row", desc := "(II)I" } : Jvm.MethodName) prog_14_method_49_code (3 : Nat) (Option.some Jvm.ClassFile.FieldType.int)) ∈ xWall := xw 1364 (by decide +kernel) rfl
theorem w_1278 : (Jvm.Cond.code ({ cls := "ThinRowModel", name := "place", desc := "(II)I" } : Jvm.MethodName) prog_14_method_51_code (3 : Nat) (Option.some Jvm.ClassFile.FieldType.int)) ∈ xWall := xw 1372 (by decide +kernel) rfl
theorem w_1286 : (Jvm.Cond.code ({ cls := "ThinRowModel", name := "value", desc := "(II)I" } : Jvm.MethodName) prog_14_method_62_code (3 : Nat) (Option.some Jvm.ClassFile.FieldType.int)) ∈ xWall := xw 1380 (by decide +kernel) rfl
theorem w_1327 : (Jvm.Cond.code ({ cls := "ThinRowModel", name := "price", desc := "(III)I" } : Jvm.MethodName) prog_14_method_65_code (4 : Nat) (Option.some Jvm.ClassFile.FieldType.int)) ∈ xWall := xw 1421 (by decide +kernel) rfl
theorem w_1342 : (Jvm.Cond.code ({ cls := "ThinRowModel", name := "worst", desc := "(II)I" } : Jvm.MethodName) prog_14_method_66_code (5 : Nat) (Option.some Jvm.ClassFile.FieldType.int)) ∈ xWall := xw 1436 (by decide +kernel) rfl
theorem w_1346 : (Jvm.Cond.code ({ cls := "ThinRowModel", name := "longest", desc := "(I)I" } : Jvm.MethodName) prog_14_method_67_code (7 : Nat) (Option.some Jvm.ClassFile.FieldType.int)) ∈ xWall := xw 1440 (by decide +kernel) rfl
theorem w_1351 : (Jvm.Cond.code ({ cls := "ThinRowModel", name := "least", desc := "(II)I" } : Jvm.MethodName) prog_14_method_74_code (3 : Nat) (Option.some Jvm.ClassFile.FieldType.int)) ∈ xWall := xw 1445 (by decide +kernel) rfl
theorem w_1380 : (Jvm.Cond.code ({ cls := "ThinRowModel", name := "best", desc := "(III)I" } : Jvm.MethodName) prog_14_method_79_code (4 : Nat) (Option.some Jvm.ClassFile.FieldType.int)) ∈ xWall := xw 1474 (by decide +kernel) rfl
theorem w_1392 : (Jvm.Cond.code ({ cls := "ThinRowModel", name := "ways", desc := "(II)I" } : Jvm.MethodName) prog_14_method_80_code (3 : Nat) (Option.some Jvm.ClassFile.FieldType.int)) ∈ xWall := xw 1486 (by decide +kernel) rfl
theorem w_1404 : (Jvm.Cond.code ({ cls := "ThinRowModel", name := "within", desc := "(III)I" } : Jvm.MethodName) prog_14_method_81_code (4 : Nat) (Option.some Jvm.ClassFile.FieldType.int)) ∈ xWall := xw 1498 (by decide +kernel) rfl
theorem w_1409 : (Jvm.Cond.code ({ cls := "ThinRowModel", name := "firsts", desc := "(II)I" } : Jvm.MethodName) prog_14_method_82_code (5 : Nat) (Option.some Jvm.ClassFile.FieldType.int)) ∈ xWall := xw 1503 (by decide +kernel) rfl
theorem w_1413 : (Jvm.Cond.code ({ cls := "ThinRowModel", name := "among", desc := "(III)I" } : Jvm.MethodName) prog_14_method_83_code (8 : Nat) (Option.some Jvm.ClassFile.FieldType.int)) ∈ xWall := xw 1507 (by decide +kernel) rfl
theorem w_1417 : (Jvm.Cond.code ({ cls := "ThinRowModel", name := "bound", desc := "(III)I" } : Jvm.MethodName) prog_14_method_85_code (6 : Nat) (Option.some Jvm.ClassFile.FieldType.int)) ∈ xWall := xw 1511 (by decide +kernel) rfl
theorem w_1425 : (Jvm.Cond.code ({ cls := "ThinRowModel", name := "minor", desc := "(I)I" } : Jvm.MethodName) prog_14_method_87_code (8 : Nat) (Option.some Jvm.ClassFile.FieldType.int)) ∈ xWall := xw 1519 (by decide +kernel) rfl
theorem w_1433 : (Jvm.Cond.code ({ cls := "ThinRowModel", name := "split", desc := "(III)I" } : Jvm.MethodName) prog_14_method_88_code (4 : Nat) (Option.some Jvm.ClassFile.FieldType.int)) ∈ xWall := xw 1527 (by decide +kernel) rfl
theorem w_1437 : (Jvm.Cond.code ({ cls := "ThinRowModel", name := "halve", desc := "(I)I" } : Jvm.MethodName) prog_14_method_89_code (4 : Nat) (Option.some Jvm.ClassFile.FieldType.int)) ∈ xWall := xw 1531 (by decide +kernel) rfl
theorem w_1441 : (Jvm.Cond.code ({ cls := "ThinRowModel", name := "bag", desc := "(III)I" } : Jvm.MethodName) prog_14_method_90_code (8 : Nat) (Option.some Jvm.ClassFile.FieldType.int)) ∈ xWall := xw 1535 (by decide +kernel) rfl
theorem w_1445 : (Jvm.Cond.code ({ cls := "ThinRowModel", name := "filled", desc := "(II)I" } : Jvm.MethodName) prog_14_method_91_code (9 : Nat) (Option.some Jvm.ClassFile.FieldType.int)) ∈ xWall := xw 1539 (by decide +kernel) rfl
theorem w_1449 : (Jvm.Cond.code ({ cls := "ThinRowModel", name := "gain", desc := "(IIII)I" } : Jvm.MethodName) prog_14_method_93_code (6 : Nat) (Option.some Jvm.ClassFile.FieldType.int)) ∈ xWall := xw 1543 (by decide +kernel) rfl
theorem w_1457 : (Jvm.Cond.code ({ cls := "ThinRowModel", name := "swaps", desc := "(III)I" } : Jvm.MethodName) prog_14_method_95_code (6 : Nat) (Option.some Jvm.ClassFile.FieldType.int)) ∈ xWall := xw 1551 (by decide +kernel) rfl
theorem w_1465 : (Jvm.Cond.code ({ cls := "ThinRowModel", name := "moves", desc := "(III)I" } : Jvm.MethodName) prog_14_method_96_code (6 : Nat) (Option.some Jvm.ClassFile.FieldType.int)) ∈ xWall := xw 1559 (by decide +kernel) rfl
theorem w_1469 : (Jvm.Cond.code ({ cls := "ThinRowModel", name := "reverse", desc := "(I)I" } : Jvm.MethodName) prog_14_method_97_code (3 : Nat) (Option.some Jvm.ClassFile.FieldType.int)) ∈ xWall := xw 1563 (by decide +kernel) rfl
theorem w_1473 : (Jvm.Cond.code ({ cls := "ThinRowModel", name := "takes", desc := "(II)I" } : Jvm.MethodName) prog_14_method_98_code (4 : Nat) (Option.some Jvm.ClassFile.FieldType.int)) ∈ xWall := xw 1567 (by decide +kernel) rfl
theorem w_1477 : (Jvm.Cond.code ({ cls := "ThinRowModel", name := "polish", desc := "(II)I" } : Jvm.MethodName) prog_14_method_100_code (5 : Nat) (Option.some Jvm.ClassFile.FieldType.int)) ∈ xWall := xw 1571 (by decide +kernel) rfl
theorem w_1485 : (Jvm.Cond.code ({ cls := "ThinRowModel", name := "polished", desc := "(II)I" } : Jvm.MethodName) prog_14_method_101_code (4 : Nat) (Option.some Jvm.ClassFile.FieldType.int)) ∈ xWall := xw 1579 (by decide +kernel) rfl
theorem w_1489 : (Jvm.Cond.code ({ cls := "ThinRowModel", name := "greedy", desc := "(II)I" } : Jvm.MethodName) prog_14_method_102_code (7 : Nat) (Option.some Jvm.ClassFile.FieldType.int)) ∈ xWall := xw 1583 (by decide +kernel) rfl
theorem w_1493 : (Jvm.Cond.code ({ cls := "ThinRowModel", name := "layers", desc := "(II)I" } : Jvm.MethodName) prog_14_method_103_code (6 : Nat) (Option.some Jvm.ClassFile.FieldType.int)) ∈ xWall := xw 1587 (by decide +kernel) rfl
theorem w_1497 : (Jvm.Cond.code ({ cls := "ThinRowModel", name := "adds", desc := "(IIII)I" } : Jvm.MethodName) prog_14_method_104_code (6 : Nat) (Option.some Jvm.ClassFile.FieldType.int)) ∈ xWall := xw 1591 (by decide +kernel) rfl
theorem w_1498 : (Jvm.Cond.methodLink "ThinRowModel" (326 : Nat) ({ cls := "ThinRowModel", name := "areTwo", desc := "(III)Z" } : Jvm.MethodName)) ∈ xWall := xw 1592 (by decide +kernel) rfl
theorem w_1500 : (Jvm.Cond.instanceMethod ({ cls := "ThinRowModel", name := "areTwo", desc := "(III)Z" } : Jvm.MethodName)) ∈ xWall := xw 1594 (by decide +kernel) rfl
theorem w_1501 : (Jvm.Cond.code ({ cls := "ThinRowModel", name := "areTwo", desc := "(III)Z" } : Jvm.MethodName) prog_14_method_9_code (4 : Nat) (Option.some Jvm.ClassFile.FieldType.boolean)) ∈ xWall := xw 1595 (by decide +kernel) rfl
theorem w_1506 : (Jvm.Cond.code ({ cls := "ThinRowModel", name := "cuts", desc := "(III)I" } : Jvm.MethodName) prog_14_method_105_code (5 : Nat) (Option.some Jvm.ClassFile.FieldType.int)) ∈ xWall := xw 1600 (by decide +kernel) rfl
theorem w_1510 : (Jvm.Cond.code ({ cls := "ThinRowModel", name := "merges", desc := "(III)I" } : Jvm.MethodName) prog_14_method_106_code (12 : Nat) (Option.some Jvm.ClassFile.FieldType.int)) ∈ xWall := xw 1604 (by decide +kernel) rfl
theorem w_1514 : (Jvm.Cond.code ({ cls := "ThinRowModel", name := "tell", desc := "(II)I" } : Jvm.MethodName) prog_14_method_110_code (4 : Nat) (Option.some Jvm.ClassFile.FieldType.int)) ∈ xWall := xw 1608 (by decide +kernel) rfl
theorem w_1539 : (Jvm.Cond.code ({ cls := "ThinRowModel", name := "octet", desc := "(I)I" } : Jvm.MethodName) prog_14_method_111_code (2 : Nat) (Option.some Jvm.ClassFile.FieldType.int)) ∈ xWall := xw 1633 (by decide +kernel) rfl
theorem ws_0 : Cond.selects "ThinRow$Reader" ⟨"ThinRow$Reader", "step", "()V"⟩ ⟨"ThinRow$Reader", "step", "()V"⟩ ∈ xWall := xw 0 (by decide +kernel) rfl
theorem ws_1 : Cond.selects "ThinRow$Reader" ⟨"ThinRow$Reader", "readHead", "()Z"⟩ ⟨"ThinRow$Reader", "readHead", "()Z"⟩ ∈ xWall := xw 1 (by decide +kernel) rfl
theorem ws_2 : Cond.selects "ThinRow$Reader" ⟨"ThinRow$Reader", "isWord", "(Ljava/lang/String;)Z"⟩ ⟨"ThinRow$Reader", "isWord", "(Ljava/lang/String;)Z"⟩ ∈ xWall := xw 2 (by decide +kernel) rfl
theorem ws_3 : Cond.selects "ThinRow$Reader" ⟨"ThinRow$Reader", "blame", "(I)Z"⟩ ⟨"ThinRow$Reader", "blame", "(I)Z"⟩ ∈ xWall := xw 3 (by decide +kernel) rfl
theorem ws_14 : Cond.selects "ThinRow" ⟨"ThinRow", "filledSlots", "()I"⟩ ⟨"ThinRow", "filledSlots", "()I"⟩ ∈ xWall := xw 14 (by decide +kernel) rfl
theorem ws_15 : Cond.selects "ThinRow" ⟨"ThinRow", "netIn", "(I)LThinRow$Net;"⟩ ⟨"ThinRow", "netIn", "(I)LThinRow$Net;"⟩ ∈ xWall := xw 15 (by decide +kernel) rfl
theorem ws_16 : Cond.selects "ThinRow" ⟨"ThinRow", "findingOf", "(II)LThinRow$Finding;"⟩ ⟨"ThinRow", "findingOf", "(II)LThinRow$Finding;"⟩ ∈ xWall := xw 16 (by decide +kernel) rfl
theorem ws_35 : Cond.selects "ThinRowModel" ⟨"ThinRowModel", "isNet", "(I)Z"⟩ ⟨"ThinRowModel", "isNet", "(I)Z"⟩ ∈ xWall := xw 35 (by decide +kernel) rfl
theorem ws_36 : Cond.selects "ThinRowModel" ⟨"ThinRowModel", "points", "(I)I"⟩ ⟨"ThinRowModel", "points", "(I)I"⟩ ∈ xWall := xw 36 (by decide +kernel) rfl
theorem ws_63 : Cond.selects "ThinRowModel" ⟨"ThinRowModel", "isPoint", "(II)Z"⟩ ⟨"ThinRowModel", "isPoint", "(II)Z"⟩ ∈ xWall := xw 63 (by decide +kernel) rfl
theorem ws_90 : Cond.selects "ThinRowModel" ⟨"ThinRowModel", "areTwo", "(III)Z"⟩ ⟨"ThinRowModel", "areTwo", "(III)Z"⟩ ∈ xWall := xw 90 (by decide +kernel) rfl
theorem wn_57 : (Jvm.Cond.methodLinkNest "ThinRow$Reader" (11 : Nat) ({ cls := "ThinRow$Net", name := "<init>", desc := "()V" } : Jvm.MethodName) "ThinRow") ∈ xnest := List.mem_filter.mpr ⟨List.mem_of_getElem? (i := 151) (by decide +kernel), rfl⟩
theorem wn_128 : (Jvm.Cond.methodLinkNest "ThinRow" (42 : Nat) ({ cls := "ThinRow$Net", name := "<init>", desc := "()V" } : Jvm.MethodName) "ThinRow") ∈ xnest := List.mem_filter.mpr ⟨List.mem_of_getElem? (i := 222) (by decide +kernel), rfl⟩
theorem wn_137 : (Jvm.Cond.methodLinkNest "ThinRow$Findings" (19 : Nat) ({ cls := "ThinRow$Net", name := "<init>", desc := "()V" } : Jvm.MethodName) "ThinRow") ∈ xnest := List.mem_filter.mpr ⟨List.mem_of_getElem? (i := 231) (by decide +kernel), rfl⟩
theorem wn_139 : (Jvm.Cond.methodLinkNest "ThinRow$Findings" (24 : Nat) ({ cls := "ThinRow$Finding", name := "<init>", desc := "()V" } : Jvm.MethodName) "ThinRow") ∈ xnest := List.mem_filter.mpr ⟨List.mem_of_getElem? (i := 233) (by decide +kernel), rfl⟩
theorem wn_179 : (Jvm.Cond.methodLinkNest "ThinRow" (46 : Nat) ({ cls := "ThinRow$SetSearch", name := "<init>", desc := "()V" } : Jvm.MethodName) "ThinRow") ∈ xnest := List.mem_filter.mpr ⟨List.mem_of_getElem? (i := 273) (by decide +kernel), rfl⟩
theorem wn_201 : (Jvm.Cond.methodLinkNest "ThinRow" (53 : Nat) ({ cls := "ThinRow$BandSearch", name := "<init>", desc := "()V" } : Jvm.MethodName) "ThinRow") ∈ xnest := List.mem_filter.mpr ⟨List.mem_of_getElem? (i := 295) (by decide +kernel), rfl⟩
theorem wn_206 : (Jvm.Cond.methodLinkNest "ThinRow$BandSearch" (13 : Nat) ({ cls := "ThinRow$Net", name := "<init>", desc := "()V" } : Jvm.MethodName) "ThinRow") ∈ xnest := List.mem_filter.mpr ⟨List.mem_of_getElem? (i := 300) (by decide +kernel), rfl⟩
theorem wn_227 : (Jvm.Cond.methodLinkNest "ThinRow$History" (21 : Nat) ({ cls := "ThinRow$Net", name := "<init>", desc := "()V" } : Jvm.MethodName) "ThinRow") ∈ xnest := List.mem_filter.mpr ⟨List.mem_of_getElem? (i := 321) (by decide +kernel), rfl⟩
theorem w_obj : Cond.code objectInit ⟨#[0xb1]⟩ 1 none ∈ xWall := xw 123 (by decide +kernel) rfl
theorem w_mmax : Cond.code Lib.Math.max.name Lib.Math.max.code 2 (some .int) ∈ xWall := xw 132 (by decide +kernel) rfl
theorem pf__I : parseFieldDescriptor "[I" = some (.array .int) := by decide +kernel
theorem pf__B : parseFieldDescriptor "[B" = some (.array .byte) := by decide +kernel
theorem pf_LThinRow_Net_ : parseFieldDescriptor "LThinRow$Net;" = some (.object "ThinRow$Net") := by decide +kernel
theorem pf_I : parseFieldDescriptor "I" = some .int := by decide +kernel
theorem pf_LThinRow_Bytes_ : parseFieldDescriptor "LThinRow$Bytes;" = some (.object "ThinRow$Bytes") := by decide +kernel
theorem pf__LThinRow_Finding_ : parseFieldDescriptor "[LThinRow$Finding;" = some (.array (.object "ThinRow$Finding")) := by decide +kernel
theorem pf__LThinRow_Net_ : parseFieldDescriptor "[LThinRow$Net;" = some (.array (.object "ThinRow$Net")) := by decide +kernel
theorem pf_LThinRow_Reader_ : parseFieldDescriptor "LThinRow$Reader;" = some (.object "ThinRow$Reader") := by decide +kernel
theorem pf__LThinRow_Findings_ : parseFieldDescriptor "[LThinRow$Findings;" = some (.array (.object "ThinRow$Findings")) := by decide +kernel
theorem pf_LThinRow_SetSearch_ : parseFieldDescriptor "LThinRow$SetSearch;" = some (.object "ThinRow$SetSearch") := by decide +kernel
theorem pf_LThinRow_BandSearch_ : parseFieldDescriptor "LThinRow$BandSearch;" = some (.object "ThinRow$BandSearch") := by decide +kernel
theorem pf_LThinRow_History_ : parseFieldDescriptor "LThinRow$History;" = some (.object "ThinRow$History") := by decide +kernel
theorem ok_0 : xok (RX0, TX0, 4) := ⟨xws (fun k hk => match k, hk with | 0, _ => w_211 | 1, _ => w_213 | 2, _ => w_215 | 3, _ => w_217 | k + 4, h => absurd h (Nat.not_lt.mpr (Nat.le_add_left 4 k))), ⟨tyX0, tyX0_ok⟩, nmX0⟩
theorem nf_0 : ∀ j, j < 4 → (parseFieldDescriptor (TX0 j).2.2.1).map defaultValue = some (vp_V [.null, .null, .null, .null] j) := by decide +kernel
theorem ok_1 : xok (RX1, TX1, 2) := ⟨xws (fun k hk => match k, hk with | 0, _ => w_43 | 1, _ => w_45 | k + 2, h => absurd h (Nat.not_lt.mpr (Nat.le_add_left 2 k))), ⟨tyX1, tyX1_ok⟩, nmX1⟩
theorem nf_1 : ∀ j, j < 2 → (parseFieldDescriptor (TX1 j).2.2.1).map defaultValue = some (vp_V [.null, .int 0] j) := by decide +kernel
theorem ok_2 : xok (RX2, TX2, 5) := ⟨xws (fun k hk => match k, hk with | 0, _ => w_158 | 1, _ => w_160 | 2, _ => w_162 | 3, _ => w_164 | 4, _ => w_166 | k + 5, h => absurd h (Nat.not_lt.mpr (Nat.le_add_left 5 k))), ⟨tyX2, tyX2_ok⟩, nmX2⟩
theorem nf_2 : ∀ j, j < 5 → (parseFieldDescriptor (TX2 j).2.2.1).map defaultValue = some (vp_V [.int 0, .int 0, .int 0, .int 0, .null] j) := by decide +kernel
theorem ok_3 : xok (RX3, TX3, 2) := ⟨xws (fun k hk => match k, hk with | 0, _ => w_172 | 1, _ => w_174 | k + 2, h => absurd h (Nat.not_lt.mpr (Nat.le_add_left 2 k))), ⟨tyX3, tyX3_ok⟩, nmX3⟩
theorem nf_3 : ∀ j, j < 2 → (parseFieldDescriptor (TX3 j).2.2.1).map defaultValue = some (vp_V [.null, .null] j) := by decide +kernel
theorem ok_4 : xok (RX4, TX4, 4) := ⟨xws (fun k hk => match k, hk with | 0, _ => w_233 | 1, _ => w_235 | 2, _ => w_237 | 3, _ => w_239 | k + 4, h => absurd h (Nat.not_lt.mpr (Nat.le_add_left 4 k))), ⟨tyX4, tyX4_ok⟩, nmX4⟩
theorem nf_4 : ∀ j, j < 4 → (parseFieldDescriptor (TX4 j).2.2.1).map defaultValue = some (vp_V [.int 0, .int 0, .null, .null] j) := by decide +kernel
theorem ok_5 : xok (RX5, TX5, 5) := ⟨xws (fun k hk => match k, hk with | 0, _ => w_84 | 1, _ => w_86 | 2, _ => w_88 | 3, _ => w_90 | 4, _ => w_92 | k + 5, h => absurd h (Nat.not_lt.mpr (Nat.le_add_left 5 k))), ⟨tyX5, tyX5_ok⟩, nmX5⟩
theorem nf_5 : ∀ j, j < 5 → (parseFieldDescriptor (TX5 j).2.2.1).map defaultValue = some (vp_V [.int 0, .int 0, .null, .null, .null] j) := by decide +kernel
theorem ok_6 : xok (RX7, TX7, 8) := ⟨xws (fun k hk => match k, hk with | 0, _ => w_107 | 1, _ => w_109 | 2, _ => w_111 | 3, _ => w_113 | 4, _ => w_115 | 5, _ => w_117 | 6, _ => w_119 | 7, _ => w_121 | k + 8, h => absurd h (Nat.not_lt.mpr (Nat.le_add_left 8 k))), ⟨tyX7, tyX7_ok⟩, nmX7⟩
theorem nf_6 : ∀ j, j < 8 → (parseFieldDescriptor (TX7 j).2.2.1).map defaultValue = some (vp_V [.null, .int 0, .int 0, .null, .int 0, .int 0, .int 0, .int 0] j) := by decide +kernel
theorem ok_7 : xok (RX9, TX9, 5) := ⟨xws (fun k hk => match k, hk with | 0, _ => w_188 | 1, _ => w_190 | 2, _ => w_192 | 3, _ => w_194 | 4, _ => w_196 | k + 5, h => absurd h (Nat.not_lt.mpr (Nat.le_add_left 5 k))), ⟨tyX9, tyX9_ok⟩, nmX9⟩
theorem nf_7 : ∀ j, j < 5 → (parseFieldDescriptor (TX9 j).2.2.1).map defaultValue = some (vp_V [.null, .null, .null, .null, .null] j) := by decide +kernel
theorem ok_8 : xok (RX11, TX11, 10) := ⟨xws (fun k hk => match k, hk with | 0, _ => w_252 | 1, _ => w_254 | 2, _ => w_256 | 3, _ => w_258 | 4, _ => w_260 | 5, _ => w_262 | 6, _ => w_264 | 7, _ => w_266 | 8, _ => w_268 | 9, _ => w_270 | k + 10, h => absurd h (Nat.not_lt.mpr (Nat.le_add_left 10 k))), ⟨tyX11, tyX11_ok⟩, nmX11⟩
theorem nf_8 : ∀ j, j < 10 → (parseFieldDescriptor (TX11 j).2.2.1).map defaultValue = some (vp_V [.null, .null, .null, .null, .null, .null, .null, .null, .null, .null] j) := by decide +kernel
theorem ok_9 : xok (RX12, TX12, 26) := ⟨xws (fun k hk => match k, hk with | 0, _ => w_1034 | 1, _ => w_1036 | 2, _ => w_1038 | 3, _ => w_1040 | 4, _ => w_1042 | 5, _ => w_1044 | 6, _ => w_1046 | 7, _ => w_1048 | 8, _ => w_1050 | 9, _ => w_1052 | 10, _ => w_1054 | 11, _ => w_1056 | 12, _ => w_1058 | 13, _ => w_1060 | 14, _ => w_1062 | 15, _ => w_1064 | 16, _ => w_1066 | 17, _ => w_1068 | 18, _ => w_1070 | 19, _ => w_1072 | 20, _ => w_1074 | 21, _ => w_1076 | 22, _ => w_1078 | 23, _ => w_1080 | 24, _ => w_1082 | 25, _ => w_1084 | k + 26, h => absurd h (Nat.not_lt.mpr (Nat.le_add_left 26 k))), ⟨tyX12, tyX12_ok⟩, nmX12⟩
theorem nf_9 : ∀ j, j < 26 → (parseFieldDescriptor (TX12 j).2.2.1).map defaultValue = some (vp_V [.null, .null, .null, .int 0, .null, .int 0, .int 0, .int 0, .int 0, .int 0, .int 0, .int 0, .int 0, .null, .null, .null, .null, .int 0, .int 0, .int 0, .null, .null, .null, .null, .null, .int 0] j) := by decide +kernel
theorem ao_2 : RX5 ∈ xaos := by decide
theorem ao_3 : RX3 ∈ xaos := by decide
theorem ao_4 : RX2 ∈ xaos := by decide
theorem st_0 : (RX7, 45, "net", 0, [110, 101, 116]) ∈ xstr := List.mem_of_getElem? (i := 0) rfl
theorem st_1 : (RX7, 96, "row", 1, [114, 111, 119]) ∈ xstr := List.mem_of_getElem? (i := 1) rfl
theorem st_4 : (RX12, 173, "net", 4, [110, 101, 116]) ∈ xstr := List.mem_of_getElem? (i := 2) rfl
theorem st_5 : (RX12, 182, "row", 5, [114, 111, 119]) ∈ xstr := List.mem_of_getElem? (i := 3) rfl
abbrev mX0_init : xM := (yX0_init, cX0_init, 1, none)
theorem mkX0_init : xMok mX0_init 0 := ⟨w_203, w_9, by decide +kernel, by decide +kernel, by decide +kernel⟩
abbrev mX11_adds : xM := (yX11_adds, cX11_adds, 7, (some .int))
theorem mkX11_adds : xMok mX11_adds 4 := ⟨w_935, w_1, by decide +kernel, by decide +kernel, by decide +kernel⟩
abbrev mX11_among : xM := (yX11_among, cX11_among, 5, (some .int))
theorem mkX11_among : xMok mX11_among 3 := ⟨w_814, w_1, by decide +kernel, by decide +kernel, by decide +kernel⟩
abbrev mX11_bag : xM := (yX11_bag, cX11_bag, 5, (some .int))
theorem mkX11_bag : xMok mX11_bag 3 := ⟨w_839, w_1, by decide +kernel, by decide +kernel, by decide +kernel⟩
abbrev mX11_best : xM := (yX11_best, cX11_best, 5, (some .int))
theorem mkX11_best : xMok mX11_best 3 := ⟨w_749, w_1, by decide +kernel, by decide +kernel, by decide +kernel⟩
abbrev mX11_bound : xM := (yX11_bound, cX11_bound, 5, (some .int))
theorem mkX11_bound : xMok mX11_bound 3 := ⟨w_776, w_1, by decide +kernel, by decide +kernel, by decide +kernel⟩
abbrev mX11_count : xM := (yX11_count, cX11_count, 2, (some .int))
theorem mkX11_count : xMok mX11_count 1 := ⟨w_480, w_1, by decide +kernel, by decide +kernel, by decide +kernel⟩
abbrev mX11_cuts : xM := (yX11_cuts, cX11_cuts, 6, (some .int))
theorem mkX11_cuts : xMok mX11_cuts 3 := ⟨w_945, w_1, by decide +kernel, by decide +kernel, by decide +kernel⟩
abbrev mX11_drops : xM := (yX11_drops, cX11_drops, 3, (some .int))
theorem mkX11_drops : xMok mX11_drops 1 := ⟨w_954, w_1, by decide +kernel, by decide +kernel, by decide +kernel⟩
abbrev mX11_end : xM := (yX11_end, cX11_end, 2, (some .int))
theorem mkX11_end : xMok mX11_end 1 := ⟨w_293, w_1, by decide +kernel, by decide +kernel, by decide +kernel⟩
abbrev mX11_far : xM := (yX11_far, cX11_far, 5, (some .int))
theorem mkX11_far : xMok mX11_far 3 := ⟨w_550, w_1, by decide +kernel, by decide +kernel, by decide +kernel⟩
abbrev mX11_fault : xM := (yX11_fault, cX11_fault, 2, (some .int))
theorem mkX11_fault : xMok mX11_fault 1 := ⟨w_476, w_1, by decide +kernel, by decide +kernel, by decide +kernel⟩
abbrev mX11_feed : xM := (yX11_feed, cX11_feed, 6, (some .int))
theorem mkX11_feed : xMok mX11_feed 5 := ⟨w_276, w_1, by decide +kernel, by decide +kernel, by decide +kernel⟩
abbrev mX11_filled : xM := (yX11_filled, cX11_filled, 4, (some .int))
theorem mkX11_filled : xMok mX11_filled 2 := ⟨w_852, w_1, by decide +kernel, by decide +kernel, by decide +kernel⟩
abbrev mX11_filledSlots : xM := (yX11_filledSlots, cX11_filledSlots, 3, (some .int))
theorem mkX11_filledSlots : xMok mX11_filledSlots 0 := ⟨w_484, w_1, by decide +kernel, by decide +kernel, by decide +kernel⟩
abbrev mX11_findingOf : xM := (yX11_findingOf, cX11_findingOf, 5, (some (.object "ThinRow$Finding")))
theorem mkX11_findingOf : xMok mX11_findingOf 2 := ⟨w_660, w_1, by decide +kernel, by decide +kernel, by decide +kernel⟩
abbrev mX11_firsts : xM := (yX11_firsts, cX11_firsts, 4, (some .int))
theorem mkX11_firsts : xMok mX11_firsts 2 := ⟨w_772, w_1, by decide +kernel, by decide +kernel, by decide +kernel⟩
abbrev mX11_gain : xM := (yX11_gain, cX11_gain, 6, (some .int))
theorem mkX11_gain : xMok mX11_gain 4 := ⟨w_864, w_1, by decide +kernel, by decide +kernel, by decide +kernel⟩
abbrev mX11_greedy : xM := (yX11_greedy, cX11_greedy, 4, (some .int))
theorem mkX11_greedy : xMok mX11_greedy 2 := ⟨w_915, w_1, by decide +kernel, by decide +kernel, by decide +kernel⟩
abbrev mX11_halve : xM := (yX11_halve, cX11_halve, 3, (some .int))
theorem mkX11_halve : xMok mX11_halve 1 := ⟨w_830, w_1, by decide +kernel, by decide +kernel, by decide +kernel⟩
abbrev mX11_init : xM := (yX11_init, cX11_init, 2, none)
theorem mkX11_init : xMok mX11_init 0 := ⟨w_26, w_1, by decide +kernel, by decide +kernel, by decide +kernel⟩
abbrev mX11_isSlot : xM := (yX11_isSlot, cX11_isSlot, 1, (some .boolean))
theorem mkX11_isSlot : xMok mX11_isSlot 1 := ⟨w_300, w_1, by decide +kernel, by decide +kernel, by decide +kernel⟩
abbrev mX11_layers : xM := (yX11_layers, cX11_layers, 4, (some .int))
theorem mkX11_layers : xMok mX11_layers 2 := ⟨w_923, w_1, by decide +kernel, by decide +kernel, by decide +kernel⟩
abbrev mX11_least : xM := (yX11_least, cX11_least, 4, (some .int))
theorem mkX11_least : xMok mX11_least 2 := ⟨w_656, w_1, by decide +kernel, by decide +kernel, by decide +kernel⟩
abbrev mX11_line : xM := (yX11_line, cX11_line, 5, (some .int))
theorem mkX11_line : xMok mX11_line 3 := ⟨w_545, w_1, by decide +kernel, by decide +kernel, by decide +kernel⟩
abbrev mX11_longest : xM := (yX11_longest, cX11_longest, 3, (some .int))
theorem mkX11_longest : xMok mX11_longest 1 := ⟨w_645, w_1, by decide +kernel, by decide +kernel, by decide +kernel⟩
abbrev mX11_look : xM := (yX11_look, cX11_look, 4, (some .int))
theorem mkX11_look : xMok mX11_look 2 := ⟨w_488, w_1, by decide +kernel, by decide +kernel, by decide +kernel⟩
abbrev mX11_merges : xM := (yX11_merges, cX11_merges, 5, (some .int))
theorem mkX11_merges : xMok mX11_merges 3 := ⟨w_949, w_1, by decide +kernel, by decide +kernel, by decide +kernel⟩
abbrev mX11_minor : xM := (yX11_minor, cX11_minor, 3, (some .int))
theorem mkX11_minor : xMok mX11_minor 1 := ⟨w_791, w_1, by decide +kernel, by decide +kernel, by decide +kernel⟩
abbrev mX11_moves : xM := (yX11_moves, cX11_moves, 5, (some .int))
theorem mkX11_moves : xMok mX11_moves 3 := ⟨w_876, w_1, by decide +kernel, by decide +kernel, by decide +kernel⟩
abbrev mX11_near : xM := (yX11_near, cX11_near, 4, (some .int))
theorem mkX11_near : xMok mX11_near 2 := ⟨w_540, w_1, by decide +kernel, by decide +kernel, by decide +kernel⟩
abbrev mX11_netIn : xM := (yX11_netIn, cX11_netIn, 2, (some (.object "ThinRow$Net")))
theorem mkX11_netIn : xMok mX11_netIn 1 := ⟨w_492, w_1, by decide +kernel, by decide +kernel, by decide +kernel⟩
abbrev mX11_octet : xM := (yX11_octet, cX11_octet, 2, (some .int))
theorem mkX11_octet : xMok mX11_octet 1 := ⟨w_1000, w_1, by decide +kernel, by decide +kernel, by decide +kernel⟩
abbrev mX11_place : xM := (yX11_place, cX11_place, 4, (some .int))
theorem mkX11_place : xMok mX11_place 2 := ⟨w_559, w_1, by decide +kernel, by decide +kernel, by decide +kernel⟩
abbrev mX11_polish : xM := (yX11_polish, cX11_polish, 5, (some .int))
theorem mkX11_polish : xMok mX11_polish 2 := ⟨w_899, w_1, by decide +kernel, by decide +kernel, by decide +kernel⟩
abbrev mX11_polished : xM := (yX11_polished, cX11_polished, 4, (some .int))
theorem mkX11_polished : xMok mX11_polished 2 := ⟨w_911, w_1, by decide +kernel, by decide +kernel, by decide +kernel⟩
abbrev mX11_price : xM := (yX11_price, cX11_price, 5, (some .int))
theorem mkX11_price : xMok mX11_price 3 := ⟨w_618, w_1, by decide +kernel, by decide +kernel, by decide +kernel⟩
abbrev mX11_reverse : xM := (yX11_reverse, cX11_reverse, 3, (some .int))
theorem mkX11_reverse : xMok mX11_reverse 1 := ⟨w_885, w_1, by decide +kernel, by decide +kernel, by decide +kernel⟩
abbrev mX11_row : xM := (yX11_row, cX11_row, 4, (some .int))
theorem mkX11_row : xMok mX11_row 2 := ⟨w_555, w_1, by decide +kernel, by decide +kernel, by decide +kernel⟩
abbrev mX11_split : xM := (yX11_split, cX11_split, 5, (some .int))
theorem mkX11_split : xMok mX11_split 3 := ⟨w_822, w_1, by decide +kernel, by decide +kernel, by decide +kernel⟩
abbrev mX11_swaps : xM := (yX11_swaps, cX11_swaps, 5, (some .int))
theorem mkX11_swaps : xMok mX11_swaps 3 := ⟨w_872, w_1, by decide +kernel, by decide +kernel, by decide +kernel⟩
abbrev mX11_takes : xM := (yX11_takes, cX11_takes, 5, (some .int))
theorem mkX11_takes : xMok mX11_takes 2 := ⟨w_893, w_1, by decide +kernel, by decide +kernel, by decide +kernel⟩
abbrev mX11_tell : xM := (yX11_tell, cX11_tell, 4, (some .int))
theorem mkX11_tell : xMok mX11_tell 2 := ⟨w_967, w_1, by decide +kernel, by decide +kernel, by decide +kernel⟩
abbrev mX11_told : xM := (yX11_told, cX11_told, 4, (some .int))
theorem mkX11_told : xMok mX11_told 1 := ⟨w_297, w_1, by decide +kernel, by decide +kernel, by decide +kernel⟩
abbrev mX11_undo : xM := (yX11_undo, cX11_undo, 1, (some .int))
theorem mkX11_undo : xMok mX11_undo 0 := ⟨w_959, w_1, by decide +kernel, by decide +kernel, by decide +kernel⟩
abbrev mX11_value : xM := (yX11_value, cX11_value, 4, (some .int))
theorem mkX11_value : xMok mX11_value 2 := ⟨w_567, w_1, by decide +kernel, by decide +kernel, by decide +kernel⟩
abbrev mX11_ways : xM := (yX11_ways, cX11_ways, 4, (some .int))
theorem mkX11_ways : xMok mX11_ways 2 := ⟨w_753, w_1, by decide +kernel, by decide +kernel, by decide +kernel⟩
abbrev mX11_within : xM := (yX11_within, cX11_within, 5, (some .int))
theorem mkX11_within : xMok mX11_within 3 := ⟨w_757, w_1, by decide +kernel, by decide +kernel, by decide +kernel⟩
abbrev mX11_worst : xM := (yX11_worst, cX11_worst, 4, (some .int))
theorem mkX11_worst : xMok mX11_worst 2 := ⟨w_636, w_1, by decide +kernel, by decide +kernel, by decide +kernel⟩
abbrev mX12_adds : xM := (yX12_adds, cX12_adds, 6, (some .int))
theorem mkX12_adds : xMok mX12_adds 4 := ⟨w_1497, w_11, by decide +kernel, by decide +kernel, by decide +kernel⟩
abbrev mX12_among : xM := (yX12_among, cX12_among, 8, (some .int))
theorem mkX12_among : xMok mX12_among 3 := ⟨w_1413, w_11, by decide +kernel, by decide +kernel, by decide +kernel⟩
abbrev mX12_areTwo : xM := (yX12_areTwo, cX12_areTwo, 4, (some .boolean))
theorem mkX12_areTwo : xMok mX12_areTwo 3 := ⟨w_1501, w_11, by decide +kernel, by decide +kernel, by decide +kernel⟩
abbrev mX12_bag : xM := (yX12_bag, cX12_bag, 8, (some .int))
theorem mkX12_bag : xMok mX12_bag 3 := ⟨w_1441, w_11, by decide +kernel, by decide +kernel, by decide +kernel⟩
abbrev mX12_best : xM := (yX12_best, cX12_best, 4, (some .int))
theorem mkX12_best : xMok mX12_best 3 := ⟨w_1380, w_11, by decide +kernel, by decide +kernel, by decide +kernel⟩
abbrev mX12_bound : xM := (yX12_bound, cX12_bound, 6, (some .int))
theorem mkX12_bound : xMok mX12_bound 3 := ⟨w_1417, w_11, by decide +kernel, by decide +kernel, by decide +kernel⟩
abbrev mX12_count : xM := (yX12_count, cX12_count, 4, (some .int))
theorem mkX12_count : xMok mX12_count 1 := ⟨w_1220, w_11, by decide +kernel, by decide +kernel, by decide +kernel⟩
abbrev mX12_cuts : xM := (yX12_cuts, cX12_cuts, 5, (some .int))
theorem mkX12_cuts : xMok mX12_cuts 3 := ⟨w_1506, w_11, by decide +kernel, by decide +kernel, by decide +kernel⟩
abbrev mX12_drops : xM := (yX12_drops, cX12_drops, 2, (some .int))
theorem mkX12_drops : xMok mX12_drops 1 := ⟨w_1094, w_11, by decide +kernel, by decide +kernel, by decide +kernel⟩
abbrev mX12_end : xM := (yX12_end, cX12_end, 2, (some .int))
theorem mkX12_end : xMok mX12_end 1 := ⟨w_1129, w_11, by decide +kernel, by decide +kernel, by decide +kernel⟩
abbrev mX12_far : xM := (yX12_far, cX12_far, 4, (some .int))
theorem mkX12_far : xMok mX12_far 3 := ⟨w_1266, w_11, by decide +kernel, by decide +kernel, by decide +kernel⟩
abbrev mX12_fault : xM := (yX12_fault, cX12_fault, 2, (some .int))
theorem mkX12_fault : xMok mX12_fault 1 := ⟨w_1216, w_11, by decide +kernel, by decide +kernel, by decide +kernel⟩
abbrev mX12_feed : xM := (yX12_feed, cX12_feed, 8, (some .int))
theorem mkX12_feed : xMok mX12_feed 5 := ⟨w_1125, w_11, by decide +kernel, by decide +kernel, by decide +kernel⟩
abbrev mX12_filled : xM := (yX12_filled, cX12_filled, 9, (some .int))
theorem mkX12_filled : xMok mX12_filled 2 := ⟨w_1445, w_11, by decide +kernel, by decide +kernel, by decide +kernel⟩
abbrev mX12_firsts : xM := (yX12_firsts, cX12_firsts, 5, (some .int))
theorem mkX12_firsts : xMok mX12_firsts 2 := ⟨w_1409, w_11, by decide +kernel, by decide +kernel, by decide +kernel⟩
abbrev mX12_gain : xM := (yX12_gain, cX12_gain, 6, (some .int))
theorem mkX12_gain : xMok mX12_gain 4 := ⟨w_1449, w_11, by decide +kernel, by decide +kernel, by decide +kernel⟩
abbrev mX12_greedy : xM := (yX12_greedy, cX12_greedy, 7, (some .int))
theorem mkX12_greedy : xMok mX12_greedy 2 := ⟨w_1489, w_11, by decide +kernel, by decide +kernel, by decide +kernel⟩
abbrev mX12_halve : xM := (yX12_halve, cX12_halve, 4, (some .int))
theorem mkX12_halve : xMok mX12_halve 1 := ⟨w_1437, w_11, by decide +kernel, by decide +kernel, by decide +kernel⟩
abbrev mX12_in : xM := (yX12_in, cX12_in, 6, (some .boolean))
theorem mkX12_in : xMok mX12_in 3 := ⟨w_1101, w_11, by decide +kernel, by decide +kernel, by decide +kernel⟩
abbrev mX12_init : xM := (yX12_init, cX12_init, 1, none)
theorem mkX12_init : xMok mX12_init 0 := ⟨w_1006, w_11, by decide +kernel, by decide +kernel, by decide +kernel⟩
abbrev mX12_isNet : xM := (yX12_isNet, cX12_isNet, 2, (some .boolean))
theorem mkX12_isNet : xMok mX12_isNet 1 := ⟨w_1105, w_11, by decide +kernel, by decide +kernel, by decide +kernel⟩
abbrev mX12_isPoint : xM := (yX12_isPoint, cX12_isPoint, 3, (some .boolean))
theorem mkX12_isPoint : xMok mX12_isPoint 2 := ⟨w_1258, w_11, by decide +kernel, by decide +kernel, by decide +kernel⟩
abbrev mX12_isSlot : xM := (yX12_isSlot, cX12_isSlot, 1, (some .boolean))
theorem mkX12_isSlot : xMok mX12_isSlot 1 := ⟨w_1097, w_11, by decide +kernel, by decide +kernel, by decide +kernel⟩
abbrev mX12_layers : xM := (yX12_layers, cX12_layers, 6, (some .int))
theorem mkX12_layers : xMok mX12_layers 2 := ⟨w_1493, w_11, by decide +kernel, by decide +kernel, by decide +kernel⟩
abbrev mX12_least : xM := (yX12_least, cX12_least, 3, (some .int))
theorem mkX12_least : xMok mX12_least 2 := ⟨w_1351, w_11, by decide +kernel, by decide +kernel, by decide +kernel⟩
abbrev mX12_line : xM := (yX12_line, cX12_line, 4, (some .int))
theorem mkX12_line : xMok mX12_line 3 := ⟨w_1262, w_11, by decide +kernel, by decide +kernel, by decide +kernel⟩
abbrev mX12_longest : xM := (yX12_longest, cX12_longest, 7, (some .int))
theorem mkX12_longest : xMok mX12_longest 1 := ⟨w_1346, w_11, by decide +kernel, by decide +kernel, by decide +kernel⟩
abbrev mX12_look : xM := (yX12_look, cX12_look, 5, (some .int))
theorem mkX12_look : xMok mX12_look 2 := ⟨w_1224, w_11, by decide +kernel, by decide +kernel, by decide +kernel⟩
abbrev mX12_merges : xM := (yX12_merges, cX12_merges, 12, (some .int))
theorem mkX12_merges : xMok mX12_merges 3 := ⟨w_1510, w_11, by decide +kernel, by decide +kernel, by decide +kernel⟩
abbrev mX12_minor : xM := (yX12_minor, cX12_minor, 8, (some .int))
theorem mkX12_minor : xMok mX12_minor 1 := ⟨w_1425, w_11, by decide +kernel, by decide +kernel, by decide +kernel⟩
abbrev mX12_moves : xM := (yX12_moves, cX12_moves, 6, (some .int))
theorem mkX12_moves : xMok mX12_moves 3 := ⟨w_1465, w_11, by decide +kernel, by decide +kernel, by decide +kernel⟩
abbrev mX12_near : xM := (yX12_near, cX12_near, 3, (some .int))
theorem mkX12_near : xMok mX12_near 2 := ⟨w_1254, w_11, by decide +kernel, by decide +kernel, by decide +kernel⟩
abbrev mX12_octet : xM := (yX12_octet, cX12_octet, 2, (some .int))
theorem mkX12_octet : xMok mX12_octet 1 := ⟨w_1539, w_11, by decide +kernel, by decide +kernel, by decide +kernel⟩
abbrev mX12_place : xM := (yX12_place, cX12_place, 3, (some .int))
theorem mkX12_place : xMok mX12_place 2 := ⟨w_1278, w_11, by decide +kernel, by decide +kernel, by decide +kernel⟩
abbrev mX12_points : xM := (yX12_points, cX12_points, 2, (some .int))
theorem mkX12_points : xMok mX12_points 1 := ⟨w_1109, w_11, by decide +kernel, by decide +kernel, by decide +kernel⟩
abbrev mX12_polish : xM := (yX12_polish, cX12_polish, 5, (some .int))
theorem mkX12_polish : xMok mX12_polish 2 := ⟨w_1477, w_11, by decide +kernel, by decide +kernel, by decide +kernel⟩
abbrev mX12_polished : xM := (yX12_polished, cX12_polished, 4, (some .int))
theorem mkX12_polished : xMok mX12_polished 2 := ⟨w_1485, w_11, by decide +kernel, by decide +kernel, by decide +kernel⟩
abbrev mX12_price : xM := (yX12_price, cX12_price, 4, (some .int))
theorem mkX12_price : xMok mX12_price 3 := ⟨w_1327, w_11, by decide +kernel, by decide +kernel, by decide +kernel⟩
abbrev mX12_reverse : xM := (yX12_reverse, cX12_reverse, 3, (some .int))
theorem mkX12_reverse : xMok mX12_reverse 1 := ⟨w_1469, w_11, by decide +kernel, by decide +kernel, by decide +kernel⟩
abbrev mX12_row : xM := (yX12_row, cX12_row, 3, (some .int))
theorem mkX12_row : xMok mX12_row 2 := ⟨w_1270, w_11, by decide +kernel, by decide +kernel, by decide +kernel⟩
abbrev mX12_split : xM := (yX12_split, cX12_split, 4, (some .int))
theorem mkX12_split : xMok mX12_split 3 := ⟨w_1433, w_11, by decide +kernel, by decide +kernel, by decide +kernel⟩
abbrev mX12_swaps : xM := (yX12_swaps, cX12_swaps, 6, (some .int))
theorem mkX12_swaps : xMok mX12_swaps 3 := ⟨w_1457, w_11, by decide +kernel, by decide +kernel, by decide +kernel⟩
abbrev mX12_takes : xM := (yX12_takes, cX12_takes, 4, (some .int))
theorem mkX12_takes : xMok mX12_takes 2 := ⟨w_1473, w_11, by decide +kernel, by decide +kernel, by decide +kernel⟩
abbrev mX12_tell : xM := (yX12_tell, cX12_tell, 4, (some .int))
theorem mkX12_tell : xMok mX12_tell 2 := ⟨w_1514, w_11, by decide +kernel, by decide +kernel, by decide +kernel⟩
abbrev mX12_undo : xM := (yX12_undo, cX12_undo, 2, (some .int))
theorem mkX12_undo : xMok mX12_undo 0 := ⟨w_1090, w_11, by decide +kernel, by decide +kernel, by decide +kernel⟩
abbrev mX12_value : xM := (yX12_value, cX12_value, 3, (some .int))
theorem mkX12_value : xMok mX12_value 2 := ⟨w_1286, w_11, by decide +kernel, by decide +kernel, by decide +kernel⟩
abbrev mX12_ways : xM := (yX12_ways, cX12_ways, 3, (some .int))
theorem mkX12_ways : xMok mX12_ways 2 := ⟨w_1392, w_11, by decide +kernel, by decide +kernel, by decide +kernel⟩
abbrev mX12_within : xM := (yX12_within, cX12_within, 4, (some .int))
theorem mkX12_within : xMok mX12_within 3 := ⟨w_1404, w_11, by decide +kernel, by decide +kernel, by decide +kernel⟩
abbrev mX12_worst : xM := (yX12_worst, cX12_worst, 5, (some .int))
theorem mkX12_worst : xMok mX12_worst 2 := ⟨w_1342, w_11, by decide +kernel, by decide +kernel, by decide +kernel⟩
abbrev mX1_at : xM := (yX1_at, cX1_at, 2, (some .int))
theorem mkX1_at : xMok mX1_at 1 := ⟨w_312, w_2, by decide +kernel, by decide +kernel, by decide +kernel⟩
abbrev mX1_hasRoom : xM := (yX1_hasRoom, cX1_hasRoom, 2, (some .boolean))
theorem mkX1_hasRoom : xMok mX1_hasRoom 1 := ⟨w_280, w_2, by decide +kernel, by decide +kernel, by decide +kernel⟩
abbrev mX1_init : xM := (yX1_init, cX1_init, 2, none)
theorem mkX1_init : xMok mX1_init 1 := ⟨w_34, w_2, by decide +kernel, by decide +kernel, by decide +kernel⟩
abbrev mX1_put : xM := (yX1_put, cX1_put, 2, none)
theorem mkX1_put : xMok mX1_put 1 := ⟨w_288, w_2, by decide +kernel, by decide +kernel, by decide +kernel⟩
abbrev mX1_putFour : xM := (yX1_putFour, cX1_putFour, 2, none)
theorem mkX1_putFour : xMok mX1_putFour 1 := ⟨w_284, w_2, by decide +kernel, by decide +kernel, by decide +kernel⟩
abbrev mX2_init : xM := (yX2_init, cX2_init, 1, none)
theorem mkX2_init : xMok mX2_init 0 := ⟨w_141, w_7, by decide +kernel, by decide +kernel, by decide +kernel⟩
abbrev mX3_init : xM := (yX3_init, cX3_init, 2, none)
theorem mkX3_init : xMok mX3_init 0 := ⟨w_132, w_6, by decide +kernel, by decide +kernel, by decide +kernel⟩
abbrev mX4_init : xM := (yX4_init, cX4_init, 2, none)
theorem mkX4_init : xMok mX4_init 0 := ⟨w_224, w_10, by decide +kernel, by decide +kernel, by decide +kernel⟩
abbrev mX5_init : xM := (yX5_init, cX5_init, 1, none)
theorem mkX5_init : xMok mX5_init 0 := ⟨w_59, w_5, by decide +kernel, by decide +kernel, by decide +kernel⟩
abbrev mX7_blame : xM := (yX7_blame, cX7_blame, 2, (some .boolean))
theorem mkX7_blame : xMok mX7_blame 1 := ⟨w_379, w_4, by decide +kernel, by decide +kernel, by decide +kernel⟩
abbrev mX7_init : xM := (yX7_init, cX7_init, 2, none)
theorem mkX7_init : xMok mX7_init 1 := ⟨w_53, w_4, by decide +kernel, by decide +kernel, by decide +kernel⟩
abbrev mX7_isWord : xM := (yX7_isWord, cX7_isWord, 3, (some .boolean))
theorem mkX7_isWord : xMok mX7_isWord 1 := ⟨w_327, w_4, by decide +kernel, by decide +kernel, by decide +kernel⟩
abbrev mX7_kindOf : xM := (yX7_kindOf, cX7_kindOf, 1, (some .int))
theorem mkX7_kindOf : xMok mX7_kindOf 1 := ⟨w_318, w_4, by decide +kernel, by decide +kernel, by decide +kernel⟩
abbrev mX7_readAll : xM := (yX7_readAll, cX7_readAll, 1, (some .boolean))
theorem mkX7_readAll : xMok mX7_readAll 0 := ⟨w_304, w_4, by decide +kernel, by decide +kernel, by decide +kernel⟩
abbrev mX7_readHead : xM := (yX7_readHead, cX7_readHead, 1, (some .boolean))
theorem mkX7_readHead : xMok mX7_readHead 0 := ⟨w_322, w_4, by decide +kernel, by decide +kernel, by decide +kernel⟩
abbrev mX7_step : xM := (yX7_step, cX7_step, 1, none)
theorem mkX7_step : xMok mX7_step 0 := ⟨w_308, w_4, by decide +kernel, by decide +kernel, by decide +kernel⟩
abbrev mX9_init : xM := (yX9_init, cX9_init, 1, none)
theorem mkX9_init : xMok mX9_init 0 := ⟨w_181, w_8, by decide +kernel, by decide +kernel, by decide +kernel⟩
abbrev xz (n : Nat) : va_E := .inl (0, n, .inl (fun _ => 0))
abbrev xzb (n : Nat) : va_E := .inl (1, n, .inl (fun _ => 0))
theorem xpg {P X : xMem} {L j : Nat} {c : va_E} (hP : P.length = L) (h : X[j]? = some c) : (P ++ X)[L + j]? = some c := by
  subst hP
  rw [List.getElem?_append_right (Nat.le_add_right _ _), Nat.add_sub_cancel_left]
  exact h
theorem xpg0 {P X : xMem} {L : Nat} {c : va_E} (hP : P.length = L) (h : X[0]? = some c) : (P ++ X)[L]? = some c := xpg (j := 0) hP h
theorem xps {P X : xMem} {L j : Nat} {c : va_E} (hP : P.length = L) : (P ++ X).set (L + j) c = P ++ X.set j c := by
  subst hP
  rw [List.set_append_right _ _ (Nat.le_add_right _ _), Nat.add_sub_cancel_left]
theorem xps0 {P X : xMem} {L : Nat} {c : va_E} (hP : P.length = L) : (P ++ X).set L c = P ++ X.set 0 c := xps (j := 0) hP
theorem xpl {P X : xMem} {L j : Nat} (hP : P.length = L) (h : X.length = j) : (P ++ X).length = L + j := by
  rw [List.length_append, hP, h]
end
section
/-! decode rows -/
theorem dX0_init_0 : decode cX0_init 0 = .ok (.aload_n 0, 1) := by decide +kernel
theorem dX0_init_1 : decode cX0_init 1 = .ok (.invokespecial 5, 3) := by decide +kernel
theorem dX0_init_4 : decode cX0_init 4 = .ok (.aload_n 0, 1) := by decide +kernel
theorem dX0_init_5 : decode cX0_init 5 = .ok (.new 11, 3) := by decide +kernel
theorem dX0_init_8 : decode cX0_init 8 = .ok (.dup, 1) := by decide +kernel
theorem dX0_init_9 : decode cX0_init 9 = .ok (.invokespecial 13, 3) := by decide +kernel
theorem dX0_init_12 : decode cX0_init 12 = .ok (.putfield 14, 3) := by decide +kernel
theorem dX0_init_15 : decode cX0_init 15 = .ok (.aload_n 0, 1) := by decide +kernel
theorem dX0_init_16 : decode cX0_init 16 = .ok (.bipush 9, 2) := by decide +kernel
theorem dX0_init_18 : decode cX0_init 18 = .ok (.newarray .int, 2) := by decide +kernel
theorem dX0_init_20 : decode cX0_init 20 = .ok (.putfield 18, 3) := by decide +kernel
theorem dX0_init_23 : decode cX0_init 23 = .ok (.aload_n 0, 1) := by decide +kernel
theorem dX0_init_24 : decode cX0_init 24 = .ok (.sipush 4096, 3) := by decide +kernel
theorem dX0_init_27 : decode cX0_init 27 = .ok (.newarray .int, 2) := by decide +kernel
theorem dX0_init_29 : decode cX0_init 29 = .ok (.putfield 22, 3) := by decide +kernel
theorem dX0_init_32 : decode cX0_init 32 = .ok (.aload_n 0, 1) := by decide +kernel
theorem dX0_init_33 : decode cX0_init 33 = .ok (.sipush 4096, 3) := by decide +kernel
theorem dX0_init_36 : decode cX0_init 36 = .ok (.newarray .int, 2) := by decide +kernel
theorem dX0_init_38 : decode cX0_init 38 = .ok (.putfield 25, 3) := by decide +kernel
theorem dX0_init_41 : decode cX0_init 41 = .ok (.return_, 1) := by decide +kernel
theorem dX11_adds_0 : decode cX11_adds 0 = .ok (.aload_n 0, 1) := by decide +kernel
theorem dX11_adds_1 : decode cX11_adds 1 = .ok (.iload_n 1, 1) := by decide +kernel
theorem dX11_adds_2 : decode cX11_adds 2 = .ok (.invokevirtual 116, 3) := by decide +kernel
theorem dX11_adds_5 : decode cX11_adds 5 = .ok (.astore 5, 2) := by decide +kernel
theorem dX11_adds_7 : decode cX11_adds 7 = .ok (.aload 5, 2) := by decide +kernel
theorem dX11_adds_9 : decode cX11_adds 9 = .ok (.ifnull 26, 3) := by decide +kernel
theorem dX11_adds_35 : decode cX11_adds 35 = .ok (.bipush (-2), 2) := by decide +kernel
theorem dX11_adds_37 : decode cX11_adds 37 = .ok (.ireturn, 1) := by decide +kernel
theorem dX11_among_0 : decode cX11_among 0 = .ok (.aload_n 0, 1) := by decide +kernel
theorem dX11_among_1 : decode cX11_among 1 = .ok (.iload_n 1, 1) := by decide +kernel
theorem dX11_among_2 : decode cX11_among 2 = .ok (.iload_n 2, 1) := by decide +kernel
theorem dX11_among_3 : decode cX11_among 3 = .ok (.invokevirtual 189, 3) := by decide +kernel
theorem dX11_among_6 : decode cX11_among 6 = .ok (.astore 4, 2) := by decide +kernel
theorem dX11_among_8 : decode cX11_among 8 = .ok (.aload 4, 2) := by decide +kernel
theorem dX11_among_10 : decode cX11_among 10 = .ok (.ifnull 22, 3) := by decide +kernel
theorem dX11_among_32 : decode cX11_among 32 = .ok (.bipush (-2), 2) := by decide +kernel
theorem dX11_among_34 : decode cX11_among 34 = .ok (.ireturn, 1) := by decide +kernel
theorem dX11_bag_0 : decode cX11_bag 0 = .ok (.aload_n 0, 1) := by decide +kernel
theorem dX11_bag_1 : decode cX11_bag 1 = .ok (.iload_n 1, 1) := by decide +kernel
theorem dX11_bag_2 : decode cX11_bag 2 = .ok (.invokevirtual 116, 3) := by decide +kernel
theorem dX11_bag_5 : decode cX11_bag 5 = .ok (.astore 4, 2) := by decide +kernel
theorem dX11_bag_7 : decode cX11_bag 7 = .ok (.aload 4, 2) := by decide +kernel
theorem dX11_bag_9 : decode cX11_bag 9 = .ok (.ifnull 12, 3) := by decide +kernel
theorem dX11_bag_21 : decode cX11_bag 21 = .ok (.bipush (-2), 2) := by decide +kernel
theorem dX11_bag_23 : decode cX11_bag 23 = .ok (.ireturn, 1) := by decide +kernel
theorem dX11_best_0 : decode cX11_best 0 = .ok (.aload_n 0, 1) := by decide +kernel
theorem dX11_best_1 : decode cX11_best 1 = .ok (.iload_n 1, 1) := by decide +kernel
theorem dX11_best_2 : decode cX11_best 2 = .ok (.iload_n 2, 1) := by decide +kernel
theorem dX11_best_3 : decode cX11_best 3 = .ok (.invokevirtual 189, 3) := by decide +kernel
theorem dX11_best_6 : decode cX11_best 6 = .ok (.astore 4, 2) := by decide +kernel
theorem dX11_best_8 : decode cX11_best 8 = .ok (.aload 4, 2) := by decide +kernel
theorem dX11_best_10 : decode cX11_best 10 = .ok (.ifnull 16, 3) := by decide +kernel
theorem dX11_best_26 : decode cX11_best 26 = .ok (.bipush (-2), 2) := by decide +kernel
theorem dX11_best_28 : decode cX11_best 28 = .ok (.goto 10, 3) := by decide +kernel
theorem dX11_best_38 : decode cX11_best 38 = .ok (.ireturn, 1) := by decide +kernel
theorem dX11_bound_0 : decode cX11_bound 0 = .ok (.aload_n 0, 1) := by decide +kernel
theorem dX11_bound_1 : decode cX11_bound 1 = .ok (.iload_n 1, 1) := by decide +kernel
theorem dX11_bound_2 : decode cX11_bound 2 = .ok (.invokevirtual 116, 3) := by decide +kernel
theorem dX11_bound_5 : decode cX11_bound 5 = .ok (.astore 4, 2) := by decide +kernel
theorem dX11_bound_7 : decode cX11_bound 7 = .ok (.aload 4, 2) := by decide +kernel
theorem dX11_bound_9 : decode cX11_bound 9 = .ok (.ifnull 10, 3) := by decide +kernel
theorem dX11_bound_19 : decode cX11_bound 19 = .ok (.bipush (-2), 2) := by decide +kernel
theorem dX11_bound_21 : decode cX11_bound 21 = .ok (.ireturn, 1) := by decide +kernel
theorem dX11_count_0 : decode cX11_count 0 = .ok (.iload_n 1, 1) := by decide +kernel
theorem dX11_count_1 : decode cX11_count 1 = .ok (.tableswitch 60 0 3 #[31, 36, 44, 52], 31) := by decide +kernel
theorem dX11_count_32 : decode cX11_count 32 = .ok (.aload_n 0, 1) := by decide +kernel
theorem dX11_count_33 : decode cX11_count 33 = .ok (.invokevirtual 109, 3) := by decide +kernel
theorem dX11_count_36 : decode cX11_count 36 = .ok (.ireturn, 1) := by decide +kernel
theorem dX11_count_37 : decode cX11_count 37 = .ok (.aload_n 0, 1) := by decide +kernel
theorem dX11_count_38 : decode cX11_count 38 = .ok (.getfield 61, 3) := by decide +kernel
theorem dX11_count_41 : decode cX11_count 41 = .ok (.getfield 113, 3) := by decide +kernel
theorem dX11_count_44 : decode cX11_count 44 = .ok (.ireturn, 1) := by decide +kernel
theorem dX11_count_45 : decode cX11_count 45 = .ok (.aload_n 0, 1) := by decide +kernel
theorem dX11_count_46 : decode cX11_count 46 = .ok (.getfield 14, 3) := by decide +kernel
theorem dX11_count_49 : decode cX11_count 49 = .ok (.getfield 79, 3) := by decide +kernel
theorem dX11_count_52 : decode cX11_count 52 = .ok (.ireturn, 1) := by decide +kernel
theorem dX11_count_53 : decode cX11_count 53 = .ok (.aload_n 0, 1) := by decide +kernel
theorem dX11_count_54 : decode cX11_count 54 = .ok (.getfield 18, 3) := by decide +kernel
theorem dX11_count_57 : decode cX11_count 57 = .ok (.getfield 79, 3) := by decide +kernel
theorem dX11_count_60 : decode cX11_count 60 = .ok (.ireturn, 1) := by decide +kernel
theorem dX11_count_61 : decode cX11_count 61 = .ok (.iconst (-1), 1) := by decide +kernel
theorem dX11_count_62 : decode cX11_count 62 = .ok (.ireturn, 1) := by decide +kernel
theorem dX11_cuts_0 : decode cX11_cuts 0 = .ok (.aload_n 0, 1) := by decide +kernel
theorem dX11_cuts_1 : decode cX11_cuts 1 = .ok (.iload_n 1, 1) := by decide +kernel
theorem dX11_cuts_2 : decode cX11_cuts 2 = .ok (.invokevirtual 116, 3) := by decide +kernel
theorem dX11_cuts_5 : decode cX11_cuts 5 = .ok (.astore 4, 2) := by decide +kernel
theorem dX11_cuts_7 : decode cX11_cuts 7 = .ok (.aload 4, 2) := by decide +kernel
theorem dX11_cuts_9 : decode cX11_cuts 9 = .ok (.ifnull 13, 3) := by decide +kernel
theorem dX11_cuts_22 : decode cX11_cuts 22 = .ok (.bipush (-2), 2) := by decide +kernel
theorem dX11_cuts_24 : decode cX11_cuts 24 = .ok (.ireturn, 1) := by decide +kernel
theorem dX11_drops_0 : decode cX11_drops 0 = .ok (.iload_n 1, 1) := by decide +kernel
theorem dX11_drops_1 : decode cX11_drops 1 = .ok (.invokestatic 83, 3) := by decide +kernel
theorem dX11_drops_4 : decode cX11_drops 4 = .ok (.ifCond .ne 6, 3) := by decide +kernel
theorem dX11_drops_7 : decode cX11_drops 7 = .ok (.bipush (-2), 2) := by decide +kernel
theorem dX11_drops_9 : decode cX11_drops 9 = .ok (.ireturn, 1) := by decide +kernel
theorem dX11_drops_10 : decode cX11_drops 10 = .ok (.aload_n 0, 1) := by decide +kernel
theorem dX11_drops_11 : decode cX11_drops 11 = .ok (.getfield 32, 3) := by decide +kernel
theorem dX11_drops_14 : decode cX11_drops 14 = .ok (.iload_n 1, 1) := by decide +kernel
theorem dX11_drops_15 : decode cX11_drops 15 = .ok (.aaload, 1) := by decide +kernel
theorem dX11_drops_16 : decode cX11_drops 16 = .ok (.astore_n 2, 1) := by decide +kernel
theorem dX11_drops_17 : decode cX11_drops 17 = .ok (.aload_n 2, 1) := by decide +kernel
theorem dX11_drops_18 : decode cX11_drops 18 = .ok (.getfield 120, 3) := by decide +kernel
theorem dX11_drops_21 : decode cX11_drops 21 = .ok (.ifCond .ne 5, 3) := by decide +kernel
theorem dX11_drops_24 : decode cX11_drops 24 = .ok (.iconst 0, 1) := by decide +kernel
theorem dX11_drops_25 : decode cX11_drops 25 = .ok (.ireturn, 1) := by decide +kernel
theorem dX11_end_0 : decode cX11_end 0 = .ok (.iload_n 1, 1) := by decide +kernel
theorem dX11_end_1 : decode cX11_end 1 = .ok (.ifCond .lt 14, 3) := by decide +kernel
theorem dX11_end_4 : decode cX11_end 4 = .ok (.iload_n 1, 1) := by decide +kernel
theorem dX11_end_5 : decode cX11_end 5 = .ok (.aload_n 0, 1) := by decide +kernel
theorem dX11_end_6 : decode cX11_end 6 = .ok (.getfield 14, 3) := by decide +kernel
theorem dX11_end_9 : decode cX11_end 9 = .ok (.getfield 79, 3) := by decide +kernel
theorem dX11_end_12 : decode cX11_end 12 = .ok (.if_icmp .le 5, 3) := by decide +kernel
theorem dX11_end_15 : decode cX11_end 15 = .ok (.iconst (-1), 1) := by decide +kernel
theorem dX11_end_16 : decode cX11_end 16 = .ok (.ireturn, 1) := by decide +kernel
theorem dX11_end_17 : decode cX11_end 17 = .ok (.aload_n 0, 1) := by decide +kernel
theorem dX11_end_18 : decode cX11_end 18 = .ok (.getfield 14, 3) := by decide +kernel
theorem dX11_end_21 : decode cX11_end 21 = .ok (.iload_n 1, 1) := by decide +kernel
theorem dX11_end_22 : decode cX11_end 22 = .ok (.putfield 79, 3) := by decide +kernel
theorem dX11_end_25 : decode cX11_end 25 = .ok (.iload_n 1, 1) := by decide +kernel
theorem dX11_end_26 : decode cX11_end 26 = .ok (.ireturn, 1) := by decide +kernel
theorem dX11_far_0 : decode cX11_far 0 = .ok (.aload_n 0, 1) := by decide +kernel
theorem dX11_far_1 : decode cX11_far 1 = .ok (.iload_n 1, 1) := by decide +kernel
theorem dX11_far_2 : decode cX11_far 2 = .ok (.invokevirtual 116, 3) := by decide +kernel
theorem dX11_far_5 : decode cX11_far 5 = .ok (.astore 4, 2) := by decide +kernel
theorem dX11_far_7 : decode cX11_far 7 = .ok (.aload 4, 2) := by decide +kernel
theorem dX11_far_9 : decode cX11_far 9 = .ok (.ifnull 21, 3) := by decide +kernel
theorem dX11_far_30 : decode cX11_far 30 = .ok (.bipush (-2), 2) := by decide +kernel
theorem dX11_far_32 : decode cX11_far 32 = .ok (.goto 10, 3) := by decide +kernel
theorem dX11_far_42 : decode cX11_far 42 = .ok (.ireturn, 1) := by decide +kernel
theorem dX11_fault_0 : decode cX11_fault 0 = .ok (.iload_n 1, 1) := by decide +kernel
theorem dX11_fault_1 : decode cX11_fault 1 = .ok (.ifCond .ne 11, 3) := by decide +kernel
theorem dX11_fault_4 : decode cX11_fault 4 = .ok (.aload_n 0, 1) := by decide +kernel
theorem dX11_fault_5 : decode cX11_fault 5 = .ok (.getfield 26, 3) := by decide +kernel
theorem dX11_fault_8 : decode cX11_fault 8 = .ok (.getfield 103, 3) := by decide +kernel
theorem dX11_fault_11 : decode cX11_fault 11 = .ok (.ireturn, 1) := by decide +kernel
theorem dX11_fault_12 : decode cX11_fault 12 = .ok (.iload_n 1, 1) := by decide +kernel
theorem dX11_fault_13 : decode cX11_fault 13 = .ok (.iconst 1, 1) := by decide +kernel
theorem dX11_fault_14 : decode cX11_fault 14 = .ok (.if_icmp .ne 13, 3) := by decide +kernel
theorem dX11_fault_17 : decode cX11_fault 17 = .ok (.aload_n 0, 1) := by decide +kernel
theorem dX11_fault_18 : decode cX11_fault 18 = .ok (.getfield 26, 3) := by decide +kernel
theorem dX11_fault_21 : decode cX11_fault 21 = .ok (.getfield 106, 3) := by decide +kernel
theorem dX11_fault_24 : decode cX11_fault 24 = .ok (.goto 4, 3) := by decide +kernel
theorem dX11_fault_27 : decode cX11_fault 27 = .ok (.iconst (-1), 1) := by decide +kernel
theorem dX11_fault_28 : decode cX11_fault 28 = .ok (.ireturn, 1) := by decide +kernel
theorem dX11_feed_0 : decode cX11_feed 0 = .ok (.aload_n 0, 1) := by decide +kernel
theorem dX11_feed_1 : decode cX11_feed 1 = .ok (.getfield 14, 3) := by decide +kernel
theorem dX11_feed_4 : decode cX11_feed 4 = .ok (.bipush 20, 2) := by decide +kernel
theorem dX11_feed_6 : decode cX11_feed 6 = .ok (.invokevirtual 72, 3) := by decide +kernel
theorem dX11_feed_9 : decode cX11_feed 9 = .ok (.ifCond .ne 5, 3) := by decide +kernel
theorem dX11_feed_14 : decode cX11_feed 14 = .ok (.aload_n 0, 1) := by decide +kernel
theorem dX11_feed_15 : decode cX11_feed 15 = .ok (.getfield 14, 3) := by decide +kernel
theorem dX11_feed_18 : decode cX11_feed 18 = .ok (.iload_n 1, 1) := by decide +kernel
theorem dX11_feed_19 : decode cX11_feed 19 = .ok (.invokevirtual 76, 3) := by decide +kernel
theorem dX11_feed_22 : decode cX11_feed 22 = .ok (.aload_n 0, 1) := by decide +kernel
theorem dX11_feed_23 : decode cX11_feed 23 = .ok (.getfield 14, 3) := by decide +kernel
theorem dX11_feed_26 : decode cX11_feed 26 = .ok (.iload_n 2, 1) := by decide +kernel
theorem dX11_feed_27 : decode cX11_feed 27 = .ok (.invokevirtual 76, 3) := by decide +kernel
theorem dX11_feed_30 : decode cX11_feed 30 = .ok (.aload_n 0, 1) := by decide +kernel
theorem dX11_feed_31 : decode cX11_feed 31 = .ok (.getfield 14, 3) := by decide +kernel
theorem dX11_feed_34 : decode cX11_feed 34 = .ok (.iload_n 3, 1) := by decide +kernel
theorem dX11_feed_35 : decode cX11_feed 35 = .ok (.invokevirtual 76, 3) := by decide +kernel
theorem dX11_feed_38 : decode cX11_feed 38 = .ok (.aload_n 0, 1) := by decide +kernel
theorem dX11_feed_39 : decode cX11_feed 39 = .ok (.getfield 14, 3) := by decide +kernel
theorem dX11_feed_42 : decode cX11_feed 42 = .ok (.iload 4, 2) := by decide +kernel
theorem dX11_feed_44 : decode cX11_feed 44 = .ok (.invokevirtual 76, 3) := by decide +kernel
theorem dX11_feed_47 : decode cX11_feed 47 = .ok (.aload_n 0, 1) := by decide +kernel
theorem dX11_feed_48 : decode cX11_feed 48 = .ok (.getfield 14, 3) := by decide +kernel
theorem dX11_feed_51 : decode cX11_feed 51 = .ok (.iload 5, 2) := by decide +kernel
theorem dX11_feed_53 : decode cX11_feed 53 = .ok (.invokevirtual 76, 3) := by decide +kernel
theorem dX11_feed_56 : decode cX11_feed 56 = .ok (.aload_n 0, 1) := by decide +kernel
theorem dX11_feed_57 : decode cX11_feed 57 = .ok (.getfield 14, 3) := by decide +kernel
theorem dX11_feed_60 : decode cX11_feed 60 = .ok (.getfield 79, 3) := by decide +kernel
theorem dX11_feed_63 : decode cX11_feed 63 = .ok (.ireturn, 1) := by decide +kernel
theorem dX11_filled_0 : decode cX11_filled 0 = .ok (.aload_n 0, 1) := by decide +kernel
theorem dX11_filled_1 : decode cX11_filled 1 = .ok (.iload_n 1, 1) := by decide +kernel
theorem dX11_filled_2 : decode cX11_filled 2 = .ok (.invokevirtual 116, 3) := by decide +kernel
theorem dX11_filled_5 : decode cX11_filled 5 = .ok (.astore_n 3, 1) := by decide +kernel
theorem dX11_filled_6 : decode cX11_filled 6 = .ok (.aload_n 3, 1) := by decide +kernel
theorem dX11_filled_7 : decode cX11_filled 7 = .ok (.ifnull 8, 3) := by decide +kernel
theorem dX11_filled_15 : decode cX11_filled 15 = .ok (.bipush (-2), 2) := by decide +kernel
theorem dX11_filled_17 : decode cX11_filled 17 = .ok (.goto 8, 3) := by decide +kernel
theorem dX11_filled_25 : decode cX11_filled 25 = .ok (.ireturn, 1) := by decide +kernel
theorem dX11_filledSlots_0 : decode cX11_filledSlots 0 = .ok (.iconst 0, 1) := by decide +kernel
theorem dX11_filledSlots_1 : decode cX11_filledSlots 1 = .ok (.istore_n 1, 1) := by decide +kernel
theorem dX11_filledSlots_2 : decode cX11_filledSlots 2 = .ok (.iconst 0, 1) := by decide +kernel
theorem dX11_filledSlots_3 : decode cX11_filledSlots 3 = .ok (.istore_n 2, 1) := by decide +kernel
theorem dX11_filledSlots_4 : decode cX11_filledSlots 4 = .ok (.iload_n 2, 1) := by decide +kernel
theorem dX11_filledSlots_5 : decode cX11_filledSlots 5 = .ok (.iconst 3, 1) := by decide +kernel
theorem dX11_filledSlots_6 : decode cX11_filledSlots 6 = .ok (.if_icmp .ge 27, 3) := by decide +kernel
theorem dX11_filledSlots_9 : decode cX11_filledSlots 9 = .ok (.aload_n 0, 1) := by decide +kernel
theorem dX11_filledSlots_10 : decode cX11_filledSlots 10 = .ok (.getfield 32, 3) := by decide +kernel
theorem dX11_filledSlots_13 : decode cX11_filledSlots 13 = .ok (.iload_n 2, 1) := by decide +kernel
theorem dX11_filledSlots_14 : decode cX11_filledSlots 14 = .ok (.aaload, 1) := by decide +kernel
theorem dX11_filledSlots_15 : decode cX11_filledSlots 15 = .ok (.getfield 120, 3) := by decide +kernel
theorem dX11_filledSlots_18 : decode cX11_filledSlots 18 = .ok (.ifCond .le 9, 3) := by decide +kernel
theorem dX11_filledSlots_27 : decode cX11_filledSlots 27 = .ok (.iinc 2 1, 3) := by decide +kernel
theorem dX11_filledSlots_30 : decode cX11_filledSlots 30 = .ok (.goto (-26), 3) := by decide +kernel
theorem dX11_filledSlots_33 : decode cX11_filledSlots 33 = .ok (.iload_n 1, 1) := by decide +kernel
theorem dX11_filledSlots_34 : decode cX11_filledSlots 34 = .ok (.ireturn, 1) := by decide +kernel
theorem dX11_findingOf_0 : decode cX11_findingOf 0 = .ok (.aload_n 0, 1) := by decide +kernel
theorem dX11_findingOf_1 : decode cX11_findingOf 1 = .ok (.iload_n 1, 1) := by decide +kernel
theorem dX11_findingOf_2 : decode cX11_findingOf 2 = .ok (.invokevirtual 116, 3) := by decide +kernel
theorem dX11_findingOf_5 : decode cX11_findingOf 5 = .ok (.astore_n 3, 1) := by decide +kernel
theorem dX11_findingOf_6 : decode cX11_findingOf 6 = .ok (.aload_n 3, 1) := by decide +kernel
theorem dX11_findingOf_7 : decode cX11_findingOf 7 = .ok (.ifnull 10, 3) := by decide +kernel
theorem dX11_findingOf_17 : decode cX11_findingOf 17 = .ok (.aconst_null, 1) := by decide +kernel
theorem dX11_findingOf_18 : decode cX11_findingOf 18 = .ok (.areturn, 1) := by decide +kernel
theorem dX11_firsts_0 : decode cX11_firsts 0 = .ok (.aload_n 0, 1) := by decide +kernel
theorem dX11_firsts_1 : decode cX11_firsts 1 = .ok (.iload_n 1, 1) := by decide +kernel
theorem dX11_firsts_2 : decode cX11_firsts 2 = .ok (.iload_n 2, 1) := by decide +kernel
theorem dX11_firsts_3 : decode cX11_firsts 3 = .ok (.invokevirtual 189, 3) := by decide +kernel
theorem dX11_firsts_6 : decode cX11_firsts 6 = .ok (.astore_n 3, 1) := by decide +kernel
theorem dX11_firsts_7 : decode cX11_firsts 7 = .ok (.aload_n 3, 1) := by decide +kernel
theorem dX11_firsts_8 : decode cX11_firsts 8 = .ok (.ifnonnull 8, 3) := by decide +kernel
theorem dX11_firsts_11 : decode cX11_firsts 11 = .ok (.bipush (-2), 2) := by decide +kernel
theorem dX11_firsts_13 : decode cX11_firsts 13 = .ok (.goto 7, 3) := by decide +kernel
theorem dX11_firsts_20 : decode cX11_firsts 20 = .ok (.ireturn, 1) := by decide +kernel
theorem dX11_gain_0 : decode cX11_gain 0 = .ok (.aload_n 0, 1) := by decide +kernel
theorem dX11_gain_1 : decode cX11_gain 1 = .ok (.iload_n 1, 1) := by decide +kernel
theorem dX11_gain_2 : decode cX11_gain 2 = .ok (.invokevirtual 116, 3) := by decide +kernel
theorem dX11_gain_5 : decode cX11_gain 5 = .ok (.astore 5, 2) := by decide +kernel
theorem dX11_gain_7 : decode cX11_gain 7 = .ok (.aload 5, 2) := by decide +kernel
theorem dX11_gain_9 : decode cX11_gain 9 = .ok (.ifnull 29, 3) := by decide +kernel
theorem dX11_gain_38 : decode cX11_gain 38 = .ok (.sipush (-1000), 3) := by decide +kernel
theorem dX11_gain_41 : decode cX11_gain 41 = .ok (.ireturn, 1) := by decide +kernel
theorem dX11_greedy_0 : decode cX11_greedy 0 = .ok (.aload_n 0, 1) := by decide +kernel
theorem dX11_greedy_1 : decode cX11_greedy 1 = .ok (.iload_n 1, 1) := by decide +kernel
theorem dX11_greedy_2 : decode cX11_greedy 2 = .ok (.invokevirtual 116, 3) := by decide +kernel
theorem dX11_greedy_5 : decode cX11_greedy 5 = .ok (.astore_n 3, 1) := by decide +kernel
theorem dX11_greedy_6 : decode cX11_greedy 6 = .ok (.aload_n 3, 1) := by decide +kernel
theorem dX11_greedy_7 : decode cX11_greedy 7 = .ok (.ifnull 10, 3) := by decide +kernel
theorem dX11_greedy_17 : decode cX11_greedy 17 = .ok (.bipush (-2), 2) := by decide +kernel
theorem dX11_greedy_19 : decode cX11_greedy 19 = .ok (.ireturn, 1) := by decide +kernel
theorem dX11_halve_0 : decode cX11_halve 0 = .ok (.aload_n 0, 1) := by decide +kernel
theorem dX11_halve_1 : decode cX11_halve 1 = .ok (.iload_n 1, 1) := by decide +kernel
theorem dX11_halve_2 : decode cX11_halve 2 = .ok (.invokevirtual 116, 3) := by decide +kernel
theorem dX11_halve_5 : decode cX11_halve 5 = .ok (.astore_n 2, 1) := by decide +kernel
theorem dX11_halve_6 : decode cX11_halve 6 = .ok (.aload_n 2, 1) := by decide +kernel
theorem dX11_halve_7 : decode cX11_halve 7 = .ok (.ifnonnull 8, 3) := by decide +kernel
theorem dX11_halve_10 : decode cX11_halve 10 = .ok (.bipush (-2), 2) := by decide +kernel
theorem dX11_halve_12 : decode cX11_halve 12 = .ok (.goto 7, 3) := by decide +kernel
theorem dX11_halve_19 : decode cX11_halve 19 = .ok (.ireturn, 1) := by decide +kernel
theorem dX11_init_0 : decode cX11_init 0 = .ok (.aload_n 0, 1) := by decide +kernel
theorem dX11_init_1 : decode cX11_init 1 = .ok (.invokespecial 1, 3) := by decide +kernel
theorem dX11_init_4 : decode cX11_init 4 = .ok (.aload_n 0, 1) := by decide +kernel
theorem dX11_init_5 : decode cX11_init 5 = .ok (.new 7, 3) := by decide +kernel
theorem dX11_init_8 : decode cX11_init 8 = .ok (.dup, 1) := by decide +kernel
theorem dX11_init_9 : decode cX11_init 9 = .ok (.sipush 400, 3) := by decide +kernel
theorem dX11_init_12 : decode cX11_init 12 = .ok (.invokespecial 11, 3) := by decide +kernel
theorem dX11_init_15 : decode cX11_init 15 = .ok (.putfield 14, 3) := by decide +kernel
theorem dX11_init_18 : decode cX11_init 18 = .ok (.aload_n 0, 1) := by decide +kernel
theorem dX11_init_19 : decode cX11_init 19 = .ok (.new 7, 3) := by decide +kernel
theorem dX11_init_22 : decode cX11_init 22 = .ok (.dup, 1) := by decide +kernel
theorem dX11_init_23 : decode cX11_init 23 = .ok (.sipush 256, 3) := by decide +kernel
theorem dX11_init_26 : decode cX11_init 26 = .ok (.invokespecial 11, 3) := by decide +kernel
theorem dX11_init_29 : decode cX11_init 29 = .ok (.putfield 18, 3) := by decide +kernel
theorem dX11_init_32 : decode cX11_init 32 = .ok (.aload_n 0, 1) := by decide +kernel
theorem dX11_init_33 : decode cX11_init 33 = .ok (.new 21, 3) := by decide +kernel
theorem dX11_init_36 : decode cX11_init 36 = .ok (.dup, 1) := by decide +kernel
theorem dX11_init_37 : decode cX11_init 37 = .ok (.aload_n 0, 1) := by decide +kernel
theorem dX11_init_38 : decode cX11_init 38 = .ok (.getfield 14, 3) := by decide +kernel
theorem dX11_init_41 : decode cX11_init 41 = .ok (.invokespecial 23, 3) := by decide +kernel
theorem dX11_init_44 : decode cX11_init 44 = .ok (.putfield 26, 3) := by decide +kernel
theorem dX11_init_47 : decode cX11_init 47 = .ok (.aload_n 0, 1) := by decide +kernel
theorem dX11_init_48 : decode cX11_init 48 = .ok (.iconst 3, 1) := by decide +kernel
theorem dX11_init_49 : decode cX11_init 49 = .ok (.anewarray 30, 3) := by decide +kernel
theorem dX11_init_52 : decode cX11_init 52 = .ok (.putfield 32, 3) := by decide +kernel
theorem dX11_init_55 : decode cX11_init 55 = .ok (.aload_n 0, 1) := by decide +kernel
theorem dX11_init_56 : decode cX11_init 56 = .ok (.iconst 3, 1) := by decide +kernel
theorem dX11_init_57 : decode cX11_init 57 = .ok (.anewarray 36, 3) := by decide +kernel
theorem dX11_init_60 : decode cX11_init 60 = .ok (.putfield 38, 3) := by decide +kernel
theorem dX11_init_63 : decode cX11_init 63 = .ok (.iconst 0, 1) := by decide +kernel
theorem dX11_init_64 : decode cX11_init 64 = .ok (.istore_n 1, 1) := by decide +kernel
theorem dX11_init_65 : decode cX11_init 65 = .ok (.iload_n 1, 1) := by decide +kernel
theorem dX11_init_66 : decode cX11_init 66 = .ok (.iconst 3, 1) := by decide +kernel
theorem dX11_init_67 : decode cX11_init 67 = .ok (.if_icmp .ge 35, 3) := by decide +kernel
theorem dX11_init_70 : decode cX11_init 70 = .ok (.aload_n 0, 1) := by decide +kernel
theorem dX11_init_71 : decode cX11_init 71 = .ok (.getfield 32, 3) := by decide +kernel
theorem dX11_init_74 : decode cX11_init 74 = .ok (.iload_n 1, 1) := by decide +kernel
theorem dX11_init_75 : decode cX11_init 75 = .ok (.new 30, 3) := by decide +kernel
theorem dX11_init_78 : decode cX11_init 78 = .ok (.dup, 1) := by decide +kernel
theorem dX11_init_79 : decode cX11_init 79 = .ok (.invokespecial 42, 3) := by decide +kernel
theorem dX11_init_82 : decode cX11_init 82 = .ok (.aastore, 1) := by decide +kernel
theorem dX11_init_83 : decode cX11_init 83 = .ok (.aload_n 0, 1) := by decide +kernel
theorem dX11_init_84 : decode cX11_init 84 = .ok (.getfield 38, 3) := by decide +kernel
theorem dX11_init_87 : decode cX11_init 87 = .ok (.iload_n 1, 1) := by decide +kernel
theorem dX11_init_88 : decode cX11_init 88 = .ok (.new 36, 3) := by decide +kernel
theorem dX11_init_91 : decode cX11_init 91 = .ok (.dup, 1) := by decide +kernel
theorem dX11_init_92 : decode cX11_init 92 = .ok (.invokespecial 43, 3) := by decide +kernel
theorem dX11_init_95 : decode cX11_init 95 = .ok (.aastore, 1) := by decide +kernel
theorem dX11_init_96 : decode cX11_init 96 = .ok (.iinc 1 1, 3) := by decide +kernel
theorem dX11_init_99 : decode cX11_init 99 = .ok (.goto (-34), 3) := by decide +kernel
theorem dX11_init_102 : decode cX11_init 102 = .ok (.aload_n 0, 1) := by decide +kernel
theorem dX11_init_103 : decode cX11_init 103 = .ok (.new 44, 3) := by decide +kernel
theorem dX11_init_106 : decode cX11_init 106 = .ok (.dup, 1) := by decide +kernel
theorem dX11_init_107 : decode cX11_init 107 = .ok (.invokespecial 46, 3) := by decide +kernel
theorem dX11_init_110 : decode cX11_init 110 = .ok (.putfield 47, 3) := by decide +kernel
theorem dX11_init_113 : decode cX11_init 113 = .ok (.aload_n 0, 1) := by decide +kernel
theorem dX11_init_114 : decode cX11_init 114 = .ok (.new 51, 3) := by decide +kernel
theorem dX11_init_117 : decode cX11_init 117 = .ok (.dup, 1) := by decide +kernel
theorem dX11_init_118 : decode cX11_init 118 = .ok (.invokespecial 53, 3) := by decide +kernel
theorem dX11_init_121 : decode cX11_init 121 = .ok (.putfield 54, 3) := by decide +kernel
theorem dX11_init_124 : decode cX11_init 124 = .ok (.aload_n 0, 1) := by decide +kernel
theorem dX11_init_125 : decode cX11_init 125 = .ok (.new 58, 3) := by decide +kernel
theorem dX11_init_128 : decode cX11_init 128 = .ok (.dup, 1) := by decide +kernel
theorem dX11_init_129 : decode cX11_init 129 = .ok (.invokespecial 60, 3) := by decide +kernel
theorem dX11_init_132 : decode cX11_init 132 = .ok (.putfield 61, 3) := by decide +kernel
theorem dX11_init_135 : decode cX11_init 135 = .ok (.aload_n 0, 1) := by decide +kernel
theorem dX11_init_136 : decode cX11_init 136 = .ok (.new 30, 3) := by decide +kernel
theorem dX11_init_139 : decode cX11_init 139 = .ok (.dup, 1) := by decide +kernel
theorem dX11_init_140 : decode cX11_init 140 = .ok (.invokespecial 42, 3) := by decide +kernel
theorem dX11_init_143 : decode cX11_init 143 = .ok (.putfield 65, 3) := by decide +kernel
theorem dX11_init_146 : decode cX11_init 146 = .ok (.aload_n 0, 1) := by decide +kernel
theorem dX11_init_147 : decode cX11_init 147 = .ok (.new 30, 3) := by decide +kernel
theorem dX11_init_150 : decode cX11_init 150 = .ok (.dup, 1) := by decide +kernel
theorem dX11_init_151 : decode cX11_init 151 = .ok (.invokespecial 42, 3) := by decide +kernel
theorem dX11_init_154 : decode cX11_init 154 = .ok (.putfield 69, 3) := by decide +kernel
theorem dX11_init_157 : decode cX11_init 157 = .ok (.return_, 1) := by decide +kernel
theorem dX11_isSlot_0 : decode cX11_isSlot 0 = .ok (.iload_n 0, 1) := by decide +kernel
theorem dX11_isSlot_1 : decode cX11_isSlot 1 = .ok (.ifCond .lt 12, 3) := by decide +kernel
theorem dX11_isSlot_4 : decode cX11_isSlot 4 = .ok (.iload_n 0, 1) := by decide +kernel
theorem dX11_isSlot_5 : decode cX11_isSlot 5 = .ok (.iconst 3, 1) := by decide +kernel
theorem dX11_isSlot_6 : decode cX11_isSlot 6 = .ok (.if_icmp .ge 7, 3) := by decide +kernel
theorem dX11_isSlot_9 : decode cX11_isSlot 9 = .ok (.iconst 1, 1) := by decide +kernel
theorem dX11_isSlot_10 : decode cX11_isSlot 10 = .ok (.goto 4, 3) := by decide +kernel
theorem dX11_isSlot_13 : decode cX11_isSlot 13 = .ok (.iconst 0, 1) := by decide +kernel
theorem dX11_isSlot_14 : decode cX11_isSlot 14 = .ok (.ireturn, 1) := by decide +kernel
theorem dX11_layers_0 : decode cX11_layers 0 = .ok (.aload_n 0, 1) := by decide +kernel
theorem dX11_layers_1 : decode cX11_layers 1 = .ok (.iload_n 1, 1) := by decide +kernel
theorem dX11_layers_2 : decode cX11_layers 2 = .ok (.invokevirtual 116, 3) := by decide +kernel
theorem dX11_layers_5 : decode cX11_layers 5 = .ok (.astore_n 3, 1) := by decide +kernel
theorem dX11_layers_6 : decode cX11_layers 6 = .ok (.aload_n 3, 1) := by decide +kernel
theorem dX11_layers_7 : decode cX11_layers 7 = .ok (.ifnull 11, 3) := by decide +kernel
theorem dX11_layers_18 : decode cX11_layers 18 = .ok (.bipush (-2), 2) := by decide +kernel
theorem dX11_layers_20 : decode cX11_layers 20 = .ok (.ireturn, 1) := by decide +kernel
theorem dX11_least_0 : decode cX11_least 0 = .ok (.aload_n 0, 1) := by decide +kernel
theorem dX11_least_1 : decode cX11_least 1 = .ok (.iload_n 1, 1) := by decide +kernel
theorem dX11_least_2 : decode cX11_least 2 = .ok (.iload_n 2, 1) := by decide +kernel
theorem dX11_least_3 : decode cX11_least 3 = .ok (.invokevirtual 189, 3) := by decide +kernel
theorem dX11_least_6 : decode cX11_least 6 = .ok (.astore_n 3, 1) := by decide +kernel
theorem dX11_least_7 : decode cX11_least 7 = .ok (.aload_n 3, 1) := by decide +kernel
theorem dX11_least_8 : decode cX11_least 8 = .ok (.ifnonnull 8, 3) := by decide +kernel
theorem dX11_least_11 : decode cX11_least 11 = .ok (.bipush (-2), 2) := by decide +kernel
theorem dX11_least_13 : decode cX11_least 13 = .ok (.goto 7, 3) := by decide +kernel
theorem dX11_least_20 : decode cX11_least 20 = .ok (.ireturn, 1) := by decide +kernel
theorem dX11_line_0 : decode cX11_line 0 = .ok (.aload_n 0, 1) := by decide +kernel
theorem dX11_line_1 : decode cX11_line 1 = .ok (.iload_n 1, 1) := by decide +kernel
theorem dX11_line_2 : decode cX11_line 2 = .ok (.invokevirtual 116, 3) := by decide +kernel
theorem dX11_line_5 : decode cX11_line 5 = .ok (.astore 4, 2) := by decide +kernel
theorem dX11_line_7 : decode cX11_line 7 = .ok (.aload 4, 2) := by decide +kernel
theorem dX11_line_9 : decode cX11_line 9 = .ok (.ifnull 21, 3) := by decide +kernel
theorem dX11_line_30 : decode cX11_line 30 = .ok (.bipush (-2), 2) := by decide +kernel
theorem dX11_line_32 : decode cX11_line 32 = .ok (.goto 10, 3) := by decide +kernel
theorem dX11_line_42 : decode cX11_line 42 = .ok (.ireturn, 1) := by decide +kernel
theorem dX11_longest_0 : decode cX11_longest 0 = .ok (.aload_n 0, 1) := by decide +kernel
theorem dX11_longest_1 : decode cX11_longest 1 = .ok (.iload_n 1, 1) := by decide +kernel
theorem dX11_longest_2 : decode cX11_longest 2 = .ok (.invokevirtual 116, 3) := by decide +kernel
theorem dX11_longest_5 : decode cX11_longest 5 = .ok (.astore_n 2, 1) := by decide +kernel
theorem dX11_longest_6 : decode cX11_longest 6 = .ok (.aload_n 2, 1) := by decide +kernel
theorem dX11_longest_7 : decode cX11_longest 7 = .ok (.ifnonnull 8, 3) := by decide +kernel
theorem dX11_longest_10 : decode cX11_longest 10 = .ok (.bipush (-2), 2) := by decide +kernel
theorem dX11_longest_12 : decode cX11_longest 12 = .ok (.goto 7, 3) := by decide +kernel
theorem dX11_longest_19 : decode cX11_longest 19 = .ok (.ireturn, 1) := by decide +kernel
theorem dX11_look_0 : decode cX11_look 0 = .ok (.aload_n 0, 1) := by decide +kernel
theorem dX11_look_1 : decode cX11_look 1 = .ok (.iload_n 1, 1) := by decide +kernel
theorem dX11_look_2 : decode cX11_look 2 = .ok (.invokevirtual 116, 3) := by decide +kernel
theorem dX11_look_5 : decode cX11_look 5 = .ok (.astore_n 3, 1) := by decide +kernel
theorem dX11_look_6 : decode cX11_look 6 = .ok (.aload_n 3, 1) := by decide +kernel
theorem dX11_look_7 : decode cX11_look 7 = .ok (.ifnonnull 6, 3) := by decide +kernel
theorem dX11_look_10 : decode cX11_look 10 = .ok (.bipush (-2), 2) := by decide +kernel
theorem dX11_look_12 : decode cX11_look 12 = .ok (.ireturn, 1) := by decide +kernel
theorem dX11_merges_0 : decode cX11_merges 0 = .ok (.aload_n 0, 1) := by decide +kernel
theorem dX11_merges_1 : decode cX11_merges 1 = .ok (.iload_n 1, 1) := by decide +kernel
theorem dX11_merges_2 : decode cX11_merges 2 = .ok (.invokevirtual 116, 3) := by decide +kernel
theorem dX11_merges_5 : decode cX11_merges 5 = .ok (.astore 4, 2) := by decide +kernel
theorem dX11_merges_7 : decode cX11_merges 7 = .ok (.aload 4, 2) := by decide +kernel
theorem dX11_merges_9 : decode cX11_merges 9 = .ok (.ifnull 13, 3) := by decide +kernel
theorem dX11_merges_22 : decode cX11_merges 22 = .ok (.bipush (-2), 2) := by decide +kernel
theorem dX11_merges_24 : decode cX11_merges 24 = .ok (.ireturn, 1) := by decide +kernel
theorem dX11_minor_0 : decode cX11_minor 0 = .ok (.aload_n 0, 1) := by decide +kernel
theorem dX11_minor_1 : decode cX11_minor 1 = .ok (.iload_n 1, 1) := by decide +kernel
theorem dX11_minor_2 : decode cX11_minor 2 = .ok (.invokevirtual 116, 3) := by decide +kernel
theorem dX11_minor_5 : decode cX11_minor 5 = .ok (.astore_n 2, 1) := by decide +kernel
theorem dX11_minor_6 : decode cX11_minor 6 = .ok (.aload_n 2, 1) := by decide +kernel
theorem dX11_minor_7 : decode cX11_minor 7 = .ok (.ifnonnull 6, 3) := by decide +kernel
theorem dX11_minor_10 : decode cX11_minor 10 = .ok (.bipush (-2), 2) := by decide +kernel
theorem dX11_minor_12 : decode cX11_minor 12 = .ok (.ireturn, 1) := by decide +kernel
theorem dX11_moves_0 : decode cX11_moves 0 = .ok (.aload_n 0, 1) := by decide +kernel
theorem dX11_moves_1 : decode cX11_moves 1 = .ok (.iload_n 1, 1) := by decide +kernel
theorem dX11_moves_2 : decode cX11_moves 2 = .ok (.invokevirtual 116, 3) := by decide +kernel
theorem dX11_moves_5 : decode cX11_moves 5 = .ok (.astore 4, 2) := by decide +kernel
theorem dX11_moves_7 : decode cX11_moves 7 = .ok (.aload 4, 2) := by decide +kernel
theorem dX11_moves_9 : decode cX11_moves 9 = .ok (.ifnull 21, 3) := by decide +kernel
theorem dX11_moves_30 : decode cX11_moves 30 = .ok (.bipush (-2), 2) := by decide +kernel
theorem dX11_moves_32 : decode cX11_moves 32 = .ok (.ireturn, 1) := by decide +kernel
theorem dX11_near_0 : decode cX11_near 0 = .ok (.aload_n 0, 1) := by decide +kernel
theorem dX11_near_1 : decode cX11_near 1 = .ok (.iload_n 1, 1) := by decide +kernel
theorem dX11_near_2 : decode cX11_near 2 = .ok (.invokevirtual 116, 3) := by decide +kernel
theorem dX11_near_5 : decode cX11_near 5 = .ok (.astore_n 3, 1) := by decide +kernel
theorem dX11_near_6 : decode cX11_near 6 = .ok (.aload_n 3, 1) := by decide +kernel
theorem dX11_near_7 : decode cX11_near 7 = .ok (.ifnull 11, 3) := by decide +kernel
theorem dX11_near_18 : decode cX11_near 18 = .ok (.bipush (-2), 2) := by decide +kernel
theorem dX11_near_20 : decode cX11_near 20 = .ok (.goto 9, 3) := by decide +kernel
theorem dX11_near_29 : decode cX11_near 29 = .ok (.ireturn, 1) := by decide +kernel
theorem dX11_netIn_0 : decode cX11_netIn 0 = .ok (.iload_n 1, 1) := by decide +kernel
theorem dX11_netIn_1 : decode cX11_netIn 1 = .ok (.invokestatic 83, 3) := by decide +kernel
theorem dX11_netIn_4 : decode cX11_netIn 4 = .ok (.ifCond .eq 24, 3) := by decide +kernel
theorem dX11_netIn_7 : decode cX11_netIn 7 = .ok (.aload_n 0, 1) := by decide +kernel
theorem dX11_netIn_8 : decode cX11_netIn 8 = .ok (.getfield 32, 3) := by decide +kernel
theorem dX11_netIn_11 : decode cX11_netIn 11 = .ok (.iload_n 1, 1) := by decide +kernel
theorem dX11_netIn_12 : decode cX11_netIn 12 = .ok (.aaload, 1) := by decide +kernel
theorem dX11_netIn_13 : decode cX11_netIn 13 = .ok (.getfield 120, 3) := by decide +kernel
theorem dX11_netIn_16 : decode cX11_netIn 16 = .ok (.ifCond .le 12, 3) := by decide +kernel
theorem dX11_netIn_28 : decode cX11_netIn 28 = .ok (.aconst_null, 1) := by decide +kernel
theorem dX11_netIn_29 : decode cX11_netIn 29 = .ok (.areturn, 1) := by decide +kernel
theorem dX11_octet_0 : decode cX11_octet 0 = .ok (.aload_n 0, 1) := by decide +kernel
theorem dX11_octet_1 : decode cX11_octet 1 = .ok (.getfield 18, 3) := by decide +kernel
theorem dX11_octet_4 : decode cX11_octet 4 = .ok (.iload_n 1, 1) := by decide +kernel
theorem dX11_octet_5 : decode cX11_octet 5 = .ok (.invokevirtual 308, 3) := by decide +kernel
theorem dX11_octet_8 : decode cX11_octet 8 = .ok (.ireturn, 1) := by decide +kernel
theorem dX11_place_0 : decode cX11_place 0 = .ok (.aload_n 0, 1) := by decide +kernel
theorem dX11_place_1 : decode cX11_place 1 = .ok (.iload_n 1, 1) := by decide +kernel
theorem dX11_place_2 : decode cX11_place 2 = .ok (.invokevirtual 116, 3) := by decide +kernel
theorem dX11_place_5 : decode cX11_place 5 = .ok (.astore_n 3, 1) := by decide +kernel
theorem dX11_place_6 : decode cX11_place 6 = .ok (.aload_n 3, 1) := by decide +kernel
theorem dX11_place_7 : decode cX11_place 7 = .ok (.ifnull 11, 3) := by decide +kernel
theorem dX11_place_18 : decode cX11_place 18 = .ok (.bipush (-2), 2) := by decide +kernel
theorem dX11_place_20 : decode cX11_place 20 = .ok (.goto 8, 3) := by decide +kernel
theorem dX11_place_28 : decode cX11_place 28 = .ok (.ireturn, 1) := by decide +kernel
theorem dX11_polish_0 : decode cX11_polish 0 = .ok (.aload_n 0, 1) := by decide +kernel
theorem dX11_polish_1 : decode cX11_polish 1 = .ok (.iload_n 1, 1) := by decide +kernel
theorem dX11_polish_2 : decode cX11_polish 2 = .ok (.invokevirtual 116, 3) := by decide +kernel
theorem dX11_polish_5 : decode cX11_polish 5 = .ok (.astore_n 3, 1) := by decide +kernel
theorem dX11_polish_6 : decode cX11_polish 6 = .ok (.aload_n 3, 1) := by decide +kernel
theorem dX11_polish_7 : decode cX11_polish 7 = .ok (.ifnull 10, 3) := by decide +kernel
theorem dX11_polish_17 : decode cX11_polish 17 = .ok (.bipush (-2), 2) := by decide +kernel
theorem dX11_polish_19 : decode cX11_polish 19 = .ok (.ireturn, 1) := by decide +kernel
theorem dX11_polished_0 : decode cX11_polished 0 = .ok (.aload_n 0, 1) := by decide +kernel
theorem dX11_polished_1 : decode cX11_polished 1 = .ok (.iload_n 1, 1) := by decide +kernel
theorem dX11_polished_2 : decode cX11_polished 2 = .ok (.invokevirtual 116, 3) := by decide +kernel
theorem dX11_polished_5 : decode cX11_polished 5 = .ok (.astore_n 3, 1) := by decide +kernel
theorem dX11_polished_6 : decode cX11_polished 6 = .ok (.aload_n 3, 1) := by decide +kernel
theorem dX11_polished_7 : decode cX11_polished 7 = .ok (.ifnull 10, 3) := by decide +kernel
theorem dX11_polished_17 : decode cX11_polished 17 = .ok (.bipush (-2), 2) := by decide +kernel
theorem dX11_polished_19 : decode cX11_polished 19 = .ok (.ireturn, 1) := by decide +kernel
theorem dX11_price_0 : decode cX11_price 0 = .ok (.aload_n 0, 1) := by decide +kernel
theorem dX11_price_1 : decode cX11_price 1 = .ok (.iload_n 1, 1) := by decide +kernel
theorem dX11_price_2 : decode cX11_price 2 = .ok (.invokevirtual 116, 3) := by decide +kernel
theorem dX11_price_5 : decode cX11_price 5 = .ok (.astore 4, 2) := by decide +kernel
theorem dX11_price_7 : decode cX11_price 7 = .ok (.aload 4, 2) := by decide +kernel
theorem dX11_price_9 : decode cX11_price 9 = .ok (.ifnull 10, 3) := by decide +kernel
theorem dX11_price_19 : decode cX11_price 19 = .ok (.bipush (-2), 2) := by decide +kernel
theorem dX11_price_21 : decode cX11_price 21 = .ok (.ireturn, 1) := by decide +kernel
theorem dX11_reverse_0 : decode cX11_reverse 0 = .ok (.aload_n 0, 1) := by decide +kernel
theorem dX11_reverse_1 : decode cX11_reverse 1 = .ok (.iload_n 1, 1) := by decide +kernel
theorem dX11_reverse_2 : decode cX11_reverse 2 = .ok (.invokevirtual 116, 3) := by decide +kernel
theorem dX11_reverse_5 : decode cX11_reverse 5 = .ok (.astore_n 2, 1) := by decide +kernel
theorem dX11_reverse_6 : decode cX11_reverse 6 = .ok (.aload_n 2, 1) := by decide +kernel
theorem dX11_reverse_7 : decode cX11_reverse 7 = .ok (.ifnonnull 6, 3) := by decide +kernel
theorem dX11_reverse_10 : decode cX11_reverse 10 = .ok (.bipush (-2), 2) := by decide +kernel
theorem dX11_reverse_12 : decode cX11_reverse 12 = .ok (.ireturn, 1) := by decide +kernel
theorem dX11_row_0 : decode cX11_row 0 = .ok (.aload_n 0, 1) := by decide +kernel
theorem dX11_row_1 : decode cX11_row 1 = .ok (.iload_n 1, 1) := by decide +kernel
theorem dX11_row_2 : decode cX11_row 2 = .ok (.invokevirtual 116, 3) := by decide +kernel
theorem dX11_row_5 : decode cX11_row 5 = .ok (.astore_n 3, 1) := by decide +kernel
theorem dX11_row_6 : decode cX11_row 6 = .ok (.aload_n 3, 1) := by decide +kernel
theorem dX11_row_7 : decode cX11_row 7 = .ok (.ifnull 11, 3) := by decide +kernel
theorem dX11_row_18 : decode cX11_row 18 = .ok (.bipush (-2), 2) := by decide +kernel
theorem dX11_row_20 : decode cX11_row 20 = .ok (.goto 9, 3) := by decide +kernel
theorem dX11_row_29 : decode cX11_row 29 = .ok (.ireturn, 1) := by decide +kernel
theorem dX11_split_0 : decode cX11_split 0 = .ok (.aload_n 0, 1) := by decide +kernel
theorem dX11_split_1 : decode cX11_split 1 = .ok (.iload_n 1, 1) := by decide +kernel
theorem dX11_split_2 : decode cX11_split 2 = .ok (.invokevirtual 116, 3) := by decide +kernel
theorem dX11_split_5 : decode cX11_split 5 = .ok (.astore 4, 2) := by decide +kernel
theorem dX11_split_7 : decode cX11_split 7 = .ok (.aload 4, 2) := by decide +kernel
theorem dX11_split_9 : decode cX11_split 9 = .ok (.ifnull 16, 3) := by decide +kernel
theorem dX11_split_25 : decode cX11_split 25 = .ok (.bipush (-2), 2) := by decide +kernel
theorem dX11_split_27 : decode cX11_split 27 = .ok (.ireturn, 1) := by decide +kernel
theorem dX11_swaps_0 : decode cX11_swaps 0 = .ok (.aload_n 0, 1) := by decide +kernel
theorem dX11_swaps_1 : decode cX11_swaps 1 = .ok (.iload_n 1, 1) := by decide +kernel
theorem dX11_swaps_2 : decode cX11_swaps 2 = .ok (.invokevirtual 116, 3) := by decide +kernel
theorem dX11_swaps_5 : decode cX11_swaps 5 = .ok (.astore 4, 2) := by decide +kernel
theorem dX11_swaps_7 : decode cX11_swaps 7 = .ok (.aload 4, 2) := by decide +kernel
theorem dX11_swaps_9 : decode cX11_swaps 9 = .ok (.ifnull 21, 3) := by decide +kernel
theorem dX11_swaps_30 : decode cX11_swaps 30 = .ok (.bipush (-2), 2) := by decide +kernel
theorem dX11_swaps_32 : decode cX11_swaps 32 = .ok (.ireturn, 1) := by decide +kernel
theorem dX11_takes_0 : decode cX11_takes 0 = .ok (.aload_n 0, 1) := by decide +kernel
theorem dX11_takes_1 : decode cX11_takes 1 = .ok (.iload_n 1, 1) := by decide +kernel
theorem dX11_takes_2 : decode cX11_takes 2 = .ok (.iload_n 2, 1) := by decide +kernel
theorem dX11_takes_3 : decode cX11_takes 3 = .ok (.invokevirtual 189, 3) := by decide +kernel
theorem dX11_takes_6 : decode cX11_takes 6 = .ok (.astore_n 3, 1) := by decide +kernel
theorem dX11_takes_7 : decode cX11_takes 7 = .ok (.aload_n 3, 1) := by decide +kernel
theorem dX11_takes_8 : decode cX11_takes 8 = .ok (.ifnonnull 6, 3) := by decide +kernel
theorem dX11_takes_11 : decode cX11_takes 11 = .ok (.bipush (-2), 2) := by decide +kernel
theorem dX11_takes_13 : decode cX11_takes 13 = .ok (.ireturn, 1) := by decide +kernel
theorem dX11_tell_0 : decode cX11_tell 0 = .ok (.aload_n 0, 1) := by decide +kernel
theorem dX11_tell_1 : decode cX11_tell 1 = .ok (.iload_n 1, 1) := by decide +kernel
theorem dX11_tell_2 : decode cX11_tell 2 = .ok (.invokevirtual 116, 3) := by decide +kernel
theorem dX11_tell_5 : decode cX11_tell 5 = .ok (.astore_n 3, 1) := by decide +kernel
theorem dX11_tell_6 : decode cX11_tell 6 = .ok (.aload_n 3, 1) := by decide +kernel
theorem dX11_tell_7 : decode cX11_tell 7 = .ok (.ifnull 12, 3) := by decide +kernel
theorem dX11_tell_19 : decode cX11_tell 19 = .ok (.bipush (-2), 2) := by decide +kernel
theorem dX11_tell_21 : decode cX11_tell 21 = .ok (.ireturn, 1) := by decide +kernel
theorem dX11_told_0 : decode cX11_told 0 = .ok (.iload_n 1, 1) := by decide +kernel
theorem dX11_told_1 : decode cX11_told 1 = .ok (.invokestatic 83, 3) := by decide +kernel
theorem dX11_told_4 : decode cX11_told 4 = .ok (.ifCond .ne 6, 3) := by decide +kernel
theorem dX11_told_7 : decode cX11_told 7 = .ok (.bipush (-2), 2) := by decide +kernel
theorem dX11_told_9 : decode cX11_told 9 = .ok (.ireturn, 1) := by decide +kernel
theorem dX11_told_10 : decode cX11_told 10 = .ok (.aload_n 0, 1) := by decide +kernel
theorem dX11_told_11 : decode cX11_told 11 = .ok (.getfield 26, 3) := by decide +kernel
theorem dX11_told_14 : decode cX11_told 14 = .ok (.invokevirtual 86, 3) := by decide +kernel
theorem dX11_told_17 : decode cX11_told 17 = .ok (.istore_n 2, 1) := by decide +kernel
theorem dX11_told_18 : decode cX11_told 18 = .ok (.aload_n 0, 1) := by decide +kernel
theorem dX11_told_19 : decode cX11_told 19 = .ok (.getfield 14, 3) := by decide +kernel
theorem dX11_told_22 : decode cX11_told 22 = .ok (.iconst 0, 1) := by decide +kernel
theorem dX11_told_23 : decode cX11_told 23 = .ok (.putfield 79, 3) := by decide +kernel
theorem dX11_told_26 : decode cX11_told 26 = .ok (.iload_n 2, 1) := by decide +kernel
theorem dX11_told_27 : decode cX11_told 27 = .ok (.ifCond .ne 6, 3) := by decide +kernel
theorem dX11_told_30 : decode cX11_told 30 = .ok (.bipush (-4), 2) := by decide +kernel
theorem dX11_told_32 : decode cX11_told 32 = .ok (.ireturn, 1) := by decide +kernel
theorem dX11_undo_0 : decode cX11_undo 0 = .ok (.aload_n 0, 1) := by decide +kernel
theorem dX11_undo_1 : decode cX11_undo 1 = .ok (.getfield 61, 3) := by decide +kernel
theorem dX11_undo_4 : decode cX11_undo 4 = .ok (.getfield 113, 3) := by decide +kernel
theorem dX11_undo_7 : decode cX11_undo 7 = .ok (.ifCond .ne 5, 3) := by decide +kernel
theorem dX11_undo_10 : decode cX11_undo 10 = .ok (.iconst (-1), 1) := by decide +kernel
theorem dX11_undo_11 : decode cX11_undo 11 = .ok (.ireturn, 1) := by decide +kernel
theorem dX11_value_0 : decode cX11_value 0 = .ok (.aload_n 0, 1) := by decide +kernel
theorem dX11_value_1 : decode cX11_value 1 = .ok (.iload_n 1, 1) := by decide +kernel
theorem dX11_value_2 : decode cX11_value 2 = .ok (.invokevirtual 116, 3) := by decide +kernel
theorem dX11_value_5 : decode cX11_value 5 = .ok (.astore_n 3, 1) := by decide +kernel
theorem dX11_value_6 : decode cX11_value 6 = .ok (.aload_n 3, 1) := by decide +kernel
theorem dX11_value_7 : decode cX11_value 7 = .ok (.ifnull 10, 3) := by decide +kernel
theorem dX11_value_17 : decode cX11_value 17 = .ok (.bipush (-2), 2) := by decide +kernel
theorem dX11_value_19 : decode cX11_value 19 = .ok (.goto 8, 3) := by decide +kernel
theorem dX11_value_27 : decode cX11_value 27 = .ok (.ireturn, 1) := by decide +kernel
theorem dX11_ways_0 : decode cX11_ways 0 = .ok (.aload_n 0, 1) := by decide +kernel
theorem dX11_ways_1 : decode cX11_ways 1 = .ok (.iload_n 1, 1) := by decide +kernel
theorem dX11_ways_2 : decode cX11_ways 2 = .ok (.iload_n 2, 1) := by decide +kernel
theorem dX11_ways_3 : decode cX11_ways 3 = .ok (.invokevirtual 189, 3) := by decide +kernel
theorem dX11_ways_6 : decode cX11_ways 6 = .ok (.astore_n 3, 1) := by decide +kernel
theorem dX11_ways_7 : decode cX11_ways 7 = .ok (.aload_n 3, 1) := by decide +kernel
theorem dX11_ways_8 : decode cX11_ways 8 = .ok (.ifnonnull 8, 3) := by decide +kernel
theorem dX11_ways_11 : decode cX11_ways 11 = .ok (.bipush (-2), 2) := by decide +kernel
theorem dX11_ways_13 : decode cX11_ways 13 = .ok (.goto 7, 3) := by decide +kernel
theorem dX11_ways_20 : decode cX11_ways 20 = .ok (.ireturn, 1) := by decide +kernel
theorem dX11_within_0 : decode cX11_within 0 = .ok (.aload_n 0, 1) := by decide +kernel
theorem dX11_within_1 : decode cX11_within 1 = .ok (.iload_n 1, 1) := by decide +kernel
theorem dX11_within_2 : decode cX11_within 2 = .ok (.invokevirtual 116, 3) := by decide +kernel
theorem dX11_within_5 : decode cX11_within 5 = .ok (.astore 4, 2) := by decide +kernel
theorem dX11_within_7 : decode cX11_within 7 = .ok (.aload 4, 2) := by decide +kernel
theorem dX11_within_9 : decode cX11_within 9 = .ok (.ifnull 14, 3) := by decide +kernel
theorem dX11_within_23 : decode cX11_within 23 = .ok (.bipush (-2), 2) := by decide +kernel
theorem dX11_within_25 : decode cX11_within 25 = .ok (.ireturn, 1) := by decide +kernel
theorem dX11_worst_0 : decode cX11_worst 0 = .ok (.aload_n 0, 1) := by decide +kernel
theorem dX11_worst_1 : decode cX11_worst 1 = .ok (.iload_n 1, 1) := by decide +kernel
theorem dX11_worst_2 : decode cX11_worst 2 = .ok (.invokevirtual 116, 3) := by decide +kernel
theorem dX11_worst_5 : decode cX11_worst 5 = .ok (.astore_n 3, 1) := by decide +kernel
theorem dX11_worst_6 : decode cX11_worst 6 = .ok (.aload_n 3, 1) := by decide +kernel
theorem dX11_worst_7 : decode cX11_worst 7 = .ok (.ifnull 10, 3) := by decide +kernel
theorem dX11_worst_17 : decode cX11_worst 17 = .ok (.bipush (-2), 2) := by decide +kernel
theorem dX11_worst_19 : decode cX11_worst 19 = .ok (.ireturn, 1) := by decide +kernel
theorem dX12_adds_0 : decode cX12_adds 0 = .ok (.aload_n 0, 1) := by decide +kernel
theorem dX12_adds_1 : decode cX12_adds 1 = .ok (.iload_n 1, 1) := by decide +kernel
theorem dX12_adds_2 : decode cX12_adds 2 = .ok (.iload_n 2, 1) := by decide +kernel
theorem dX12_adds_3 : decode cX12_adds 3 = .ok (.iload_n 3, 1) := by decide +kernel
theorem dX12_adds_4 : decode cX12_adds 4 = .ok (.invokevirtual 326, 3) := by decide +kernel
theorem dX12_adds_7 : decode cX12_adds 7 = .ok (.ifCond .eq 16, 3) := by decide +kernel
theorem dX12_adds_23 : decode cX12_adds 23 = .ok (.bipush (-2), 2) := by decide +kernel
theorem dX12_adds_25 : decode cX12_adds 25 = .ok (.ireturn, 1) := by decide +kernel
theorem dX12_among_0 : decode cX12_among 0 = .ok (.aload_n 0, 1) := by decide +kernel
theorem dX12_among_1 : decode cX12_among 1 = .ok (.iload_n 1, 1) := by decide +kernel
theorem dX12_among_2 : decode cX12_among 2 = .ok (.invokevirtual 67, 3) := by decide +kernel
theorem dX12_among_5 : decode cX12_among 5 = .ok (.ifCond .eq 29, 3) := by decide +kernel
theorem dX12_among_34 : decode cX12_among 34 = .ok (.bipush (-2), 2) := by decide +kernel
theorem dX12_among_36 : decode cX12_among 36 = .ok (.ireturn, 1) := by decide +kernel
theorem dX12_areTwo_0 : decode cX12_areTwo 0 = .ok (.aload_n 0, 1) := by decide +kernel
theorem dX12_areTwo_1 : decode cX12_areTwo 1 = .ok (.iload_n 1, 1) := by decide +kernel
theorem dX12_areTwo_2 : decode cX12_areTwo 2 = .ok (.iload_n 2, 1) := by decide +kernel
theorem dX12_areTwo_3 : decode cX12_areTwo 3 = .ok (.invokevirtual 70, 3) := by decide +kernel
theorem dX12_areTwo_6 : decode cX12_areTwo 6 = .ok (.ifCond .eq 21, 3) := by decide +kernel
theorem dX12_areTwo_27 : decode cX12_areTwo 27 = .ok (.iconst 0, 1) := by decide +kernel
theorem dX12_areTwo_28 : decode cX12_areTwo 28 = .ok (.ireturn, 1) := by decide +kernel
theorem dX12_bag_0 : decode cX12_bag 0 = .ok (.aload_n 0, 1) := by decide +kernel
theorem dX12_bag_1 : decode cX12_bag 1 = .ok (.iload_n 1, 1) := by decide +kernel
theorem dX12_bag_2 : decode cX12_bag 2 = .ok (.iload_n 3, 1) := by decide +kernel
theorem dX12_bag_3 : decode cX12_bag 3 = .ok (.invokevirtual 70, 3) := by decide +kernel
theorem dX12_bag_6 : decode cX12_bag 6 = .ok (.ifCond .eq 13, 3) := by decide +kernel
theorem dX12_bag_19 : decode cX12_bag 19 = .ok (.bipush (-2), 2) := by decide +kernel
theorem dX12_bag_21 : decode cX12_bag 21 = .ok (.ireturn, 1) := by decide +kernel
theorem dX12_best_0 : decode cX12_best 0 = .ok (.aload_n 0, 1) := by decide +kernel
theorem dX12_best_1 : decode cX12_best 1 = .ok (.iload_n 1, 1) := by decide +kernel
theorem dX12_best_2 : decode cX12_best 2 = .ok (.iload_n 3, 1) := by decide +kernel
theorem dX12_best_3 : decode cX12_best 3 = .ok (.invokevirtual 70, 3) := by decide +kernel
theorem dX12_best_6 : decode cX12_best 6 = .ok (.ifCond .eq 10, 3) := by decide +kernel
theorem dX12_best_16 : decode cX12_best 16 = .ok (.bipush (-2), 2) := by decide +kernel
theorem dX12_best_18 : decode cX12_best 18 = .ok (.ireturn, 1) := by decide +kernel
theorem dX12_bound_0 : decode cX12_bound 0 = .ok (.aload_n 0, 1) := by decide +kernel
theorem dX12_bound_1 : decode cX12_bound 1 = .ok (.iload_n 1, 1) := by decide +kernel
theorem dX12_bound_2 : decode cX12_bound 2 = .ok (.invokevirtual 67, 3) := by decide +kernel
theorem dX12_bound_5 : decode cX12_bound 5 = .ok (.ifCond .eq 41, 3) := by decide +kernel
theorem dX12_bound_46 : decode cX12_bound 46 = .ok (.bipush (-2), 2) := by decide +kernel
theorem dX12_bound_48 : decode cX12_bound 48 = .ok (.ireturn, 1) := by decide +kernel
theorem dX12_count_0 : decode cX12_count 0 = .ok (.iconst 0, 1) := by decide +kernel
theorem dX12_count_1 : decode cX12_count 1 = .ok (.istore_n 2, 1) := by decide +kernel
theorem dX12_count_2 : decode cX12_count 2 = .ok (.iconst 0, 1) := by decide +kernel
theorem dX12_count_3 : decode cX12_count 3 = .ok (.istore_n 3, 1) := by decide +kernel
theorem dX12_count_4 : decode cX12_count 4 = .ok (.iload_n 3, 1) := by decide +kernel
theorem dX12_count_5 : decode cX12_count 5 = .ok (.iconst 3, 1) := by decide +kernel
theorem dX12_count_6 : decode cX12_count 6 = .ok (.if_icmp .ge 27, 3) := by decide +kernel
theorem dX12_count_9 : decode cX12_count 9 = .ok (.iload_n 2, 1) := by decide +kernel
theorem dX12_count_10 : decode cX12_count 10 = .ok (.aload_n 0, 1) := by decide +kernel
theorem dX12_count_11 : decode cX12_count 11 = .ok (.iload_n 3, 1) := by decide +kernel
theorem dX12_count_12 : decode cX12_count 12 = .ok (.invokevirtual 67, 3) := by decide +kernel
theorem dX12_count_15 : decode cX12_count 15 = .ok (.ifCond .eq 9, 3) := by decide +kernel
theorem dX12_count_24 : decode cX12_count 24 = .ok (.iconst 0, 1) := by decide +kernel
theorem dX12_count_25 : decode cX12_count 25 = .ok (.ior, 1) := by decide +kernel
theorem dX12_count_26 : decode cX12_count 26 = .ok (.istore_n 2, 1) := by decide +kernel
theorem dX12_count_27 : decode cX12_count 27 = .ok (.iinc 3 1, 3) := by decide +kernel
theorem dX12_count_30 : decode cX12_count 30 = .ok (.goto (-26), 3) := by decide +kernel
theorem dX12_count_33 : decode cX12_count 33 = .ok (.iload_n 1, 1) := by decide +kernel
theorem dX12_count_34 : decode cX12_count 34 = .ok (.tableswitch 47 0 3 #[30, 32, 37, 42], 30) := by decide +kernel
theorem dX12_count_64 : decode cX12_count 64 = .ok (.iload_n 2, 1) := by decide +kernel
theorem dX12_count_65 : decode cX12_count 65 = .ok (.ireturn, 1) := by decide +kernel
theorem dX12_count_66 : decode cX12_count 66 = .ok (.aload_n 0, 1) := by decide +kernel
theorem dX12_count_67 : decode cX12_count 67 = .ok (.getfield 87, 3) := by decide +kernel
theorem dX12_count_70 : decode cX12_count 70 = .ok (.ireturn, 1) := by decide +kernel
theorem dX12_count_71 : decode cX12_count 71 = .ok (.aload_n 0, 1) := by decide +kernel
theorem dX12_count_72 : decode cX12_count 72 = .ok (.getfield 100, 3) := by decide +kernel
theorem dX12_count_75 : decode cX12_count 75 = .ok (.ireturn, 1) := by decide +kernel
theorem dX12_count_76 : decode cX12_count 76 = .ok (.aload_n 0, 1) := by decide +kernel
theorem dX12_count_77 : decode cX12_count 77 = .ok (.getfield 193, 3) := by decide +kernel
theorem dX12_count_80 : decode cX12_count 80 = .ok (.ireturn, 1) := by decide +kernel
theorem dX12_count_81 : decode cX12_count 81 = .ok (.iconst (-1), 1) := by decide +kernel
theorem dX12_count_82 : decode cX12_count 82 = .ok (.ireturn, 1) := by decide +kernel
theorem dX12_cuts_0 : decode cX12_cuts 0 = .ok (.aload_n 0, 1) := by decide +kernel
theorem dX12_cuts_1 : decode cX12_cuts 1 = .ok (.iload_n 1, 1) := by decide +kernel
theorem dX12_cuts_2 : decode cX12_cuts 2 = .ok (.iload_n 2, 1) := by decide +kernel
theorem dX12_cuts_3 : decode cX12_cuts 3 = .ok (.iload_n 3, 1) := by decide +kernel
theorem dX12_cuts_4 : decode cX12_cuts 4 = .ok (.invokevirtual 326, 3) := by decide +kernel
theorem dX12_cuts_7 : decode cX12_cuts 7 = .ok (.ifCond .ne 6, 3) := by decide +kernel
theorem dX12_cuts_10 : decode cX12_cuts 10 = .ok (.bipush (-2), 2) := by decide +kernel
theorem dX12_cuts_12 : decode cX12_cuts 12 = .ok (.ireturn, 1) := by decide +kernel
theorem dX12_drops_0 : decode cX12_drops 0 = .ok (.iload_n 1, 1) := by decide +kernel
theorem dX12_drops_1 : decode cX12_drops 1 = .ok (.invokestatic 59, 3) := by decide +kernel
theorem dX12_drops_4 : decode cX12_drops 4 = .ok (.ifCond .ne 6, 3) := by decide +kernel
theorem dX12_drops_7 : decode cX12_drops 7 = .ok (.bipush (-2), 2) := by decide +kernel
theorem dX12_drops_9 : decode cX12_drops 9 = .ok (.ireturn, 1) := by decide +kernel
theorem dX12_drops_10 : decode cX12_drops 10 = .ok (.aload_n 0, 1) := by decide +kernel
theorem dX12_drops_11 : decode cX12_drops 11 = .ok (.iload_n 1, 1) := by decide +kernel
theorem dX12_drops_12 : decode cX12_drops 12 = .ok (.invokevirtual 67, 3) := by decide +kernel
theorem dX12_drops_15 : decode cX12_drops 15 = .ok (.ifCond .ne 5, 3) := by decide +kernel
theorem dX12_drops_18 : decode cX12_drops 18 = .ok (.iconst 0, 1) := by decide +kernel
theorem dX12_drops_19 : decode cX12_drops 19 = .ok (.ireturn, 1) := by decide +kernel
theorem dX12_end_0 : decode cX12_end 0 = .ok (.iload_n 1, 1) := by decide +kernel
theorem dX12_end_1 : decode cX12_end 1 = .ok (.i2l, 1) := by decide +kernel
theorem dX12_end_2 : decode cX12_end 2 = .ok (.lconst 0, 1) := by decide +kernel
theorem dX12_end_3 : decode cX12_end 3 = .ok (.aload_n 0, 1) := by decide +kernel
theorem dX12_end_4 : decode cX12_end 4 = .ok (.getfield 100, 3) := by decide +kernel
theorem dX12_end_7 : decode cX12_end 7 = .ok (.i2l, 1) := by decide +kernel
theorem dX12_end_8 : decode cX12_end 8 = .ok (.invokestatic 55, 3) := by decide +kernel
theorem dX12_end_11 : decode cX12_end 11 = .ok (.ifCond .ne 5, 3) := by decide +kernel
theorem dX12_end_14 : decode cX12_end 14 = .ok (.iconst (-1), 1) := by decide +kernel
theorem dX12_end_15 : decode cX12_end 15 = .ok (.ireturn, 1) := by decide +kernel
theorem dX12_end_16 : decode cX12_end 16 = .ok (.aload_n 0, 1) := by decide +kernel
theorem dX12_end_17 : decode cX12_end 17 = .ok (.iload_n 1, 1) := by decide +kernel
theorem dX12_end_18 : decode cX12_end 18 = .ok (.putfield 100, 3) := by decide +kernel
theorem dX12_end_21 : decode cX12_end 21 = .ok (.iload_n 1, 1) := by decide +kernel
theorem dX12_end_22 : decode cX12_end 22 = .ok (.ireturn, 1) := by decide +kernel
theorem dX12_far_0 : decode cX12_far 0 = .ok (.aload_n 0, 1) := by decide +kernel
theorem dX12_far_1 : decode cX12_far 1 = .ok (.iload_n 1, 1) := by decide +kernel
theorem dX12_far_2 : decode cX12_far 2 = .ok (.iload_n 2, 1) := by decide +kernel
theorem dX12_far_3 : decode cX12_far 3 = .ok (.invokevirtual 70, 3) := by decide +kernel
theorem dX12_far_6 : decode cX12_far 6 = .ok (.ifCond .eq 22, 3) := by decide +kernel
theorem dX12_far_28 : decode cX12_far 28 = .ok (.bipush (-2), 2) := by decide +kernel
theorem dX12_far_30 : decode cX12_far 30 = .ok (.ireturn, 1) := by decide +kernel
theorem dX12_fault_0 : decode cX12_fault 0 = .ok (.iload_n 1, 1) := by decide +kernel
theorem dX12_fault_1 : decode cX12_fault 1 = .ok (.ifCond .ne 10, 3) := by decide +kernel
theorem dX12_fault_4 : decode cX12_fault 4 = .ok (.aload_n 0, 1) := by decide +kernel
theorem dX12_fault_5 : decode cX12_fault 5 = .ok (.getfield 127, 3) := by decide +kernel
theorem dX12_fault_8 : decode cX12_fault 8 = .ok (.goto 16, 3) := by decide +kernel
theorem dX12_fault_11 : decode cX12_fault 11 = .ok (.iload_n 1, 1) := by decide +kernel
theorem dX12_fault_12 : decode cX12_fault 12 = .ok (.iconst 1, 1) := by decide +kernel
theorem dX12_fault_13 : decode cX12_fault 13 = .ok (.if_icmp .ne 10, 3) := by decide +kernel
theorem dX12_fault_16 : decode cX12_fault 16 = .ok (.aload_n 0, 1) := by decide +kernel
theorem dX12_fault_17 : decode cX12_fault 17 = .ok (.getfield 22, 3) := by decide +kernel
theorem dX12_fault_20 : decode cX12_fault 20 = .ok (.goto 4, 3) := by decide +kernel
theorem dX12_fault_23 : decode cX12_fault 23 = .ok (.iconst (-1), 1) := by decide +kernel
theorem dX12_fault_24 : decode cX12_fault 24 = .ok (.ireturn, 1) := by decide +kernel
theorem dX12_feed_0 : decode cX12_feed 0 = .ok (.aload_n 0, 1) := by decide +kernel
theorem dX12_feed_1 : decode cX12_feed 1 = .ok (.getfield 100, 3) := by decide +kernel
theorem dX12_feed_4 : decode cX12_feed 4 = .ok (.sipush 380, 3) := by decide +kernel
theorem dX12_feed_7 : decode cX12_feed 7 = .ok (.if_icmp .le 5, 3) := by decide +kernel
theorem dX12_feed_12 : decode cX12_feed 12 = .ok (.iconst 5, 1) := by decide +kernel
theorem dX12_feed_13 : decode cX12_feed 13 = .ok (.newarray .int, 2) := by decide +kernel
theorem dX12_feed_15 : decode cX12_feed 15 = .ok (.dup, 1) := by decide +kernel
theorem dX12_feed_16 : decode cX12_feed 16 = .ok (.iconst 0, 1) := by decide +kernel
theorem dX12_feed_17 : decode cX12_feed 17 = .ok (.iload_n 1, 1) := by decide +kernel
theorem dX12_feed_18 : decode cX12_feed 18 = .ok (.iastore, 1) := by decide +kernel
theorem dX12_feed_19 : decode cX12_feed 19 = .ok (.dup, 1) := by decide +kernel
theorem dX12_feed_20 : decode cX12_feed 20 = .ok (.iconst 1, 1) := by decide +kernel
theorem dX12_feed_21 : decode cX12_feed 21 = .ok (.iload_n 2, 1) := by decide +kernel
theorem dX12_feed_22 : decode cX12_feed 22 = .ok (.iastore, 1) := by decide +kernel
theorem dX12_feed_23 : decode cX12_feed 23 = .ok (.dup, 1) := by decide +kernel
theorem dX12_feed_24 : decode cX12_feed 24 = .ok (.iconst 2, 1) := by decide +kernel
theorem dX12_feed_25 : decode cX12_feed 25 = .ok (.iload_n 3, 1) := by decide +kernel
theorem dX12_feed_26 : decode cX12_feed 26 = .ok (.iastore, 1) := by decide +kernel
theorem dX12_feed_27 : decode cX12_feed 27 = .ok (.dup, 1) := by decide +kernel
theorem dX12_feed_28 : decode cX12_feed 28 = .ok (.iconst 3, 1) := by decide +kernel
theorem dX12_feed_29 : decode cX12_feed 29 = .ok (.iload 4, 2) := by decide +kernel
theorem dX12_feed_31 : decode cX12_feed 31 = .ok (.iastore, 1) := by decide +kernel
theorem dX12_feed_32 : decode cX12_feed 32 = .ok (.dup, 1) := by decide +kernel
theorem dX12_feed_33 : decode cX12_feed 33 = .ok (.iconst 4, 1) := by decide +kernel
theorem dX12_feed_34 : decode cX12_feed 34 = .ok (.iload 5, 2) := by decide +kernel
theorem dX12_feed_36 : decode cX12_feed 36 = .ok (.iastore, 1) := by decide +kernel
theorem dX12_feed_37 : decode cX12_feed 37 = .ok (.astore 6, 2) := by decide +kernel
theorem dX12_feed_39 : decode cX12_feed 39 = .ok (.iconst 0, 1) := by decide +kernel
theorem dX12_feed_40 : decode cX12_feed 40 = .ok (.istore 7, 2) := by decide +kernel
theorem dX12_feed_42 : decode cX12_feed 42 = .ok (.iload 7, 2) := by decide +kernel
theorem dX12_feed_44 : decode cX12_feed 44 = .ok (.bipush 20, 2) := by decide +kernel
theorem dX12_feed_46 : decode cX12_feed 46 = .ok (.if_icmp .ge 43, 3) := by decide +kernel
theorem dX12_feed_49 : decode cX12_feed 49 = .ok (.aload_n 0, 1) := by decide +kernel
theorem dX12_feed_50 : decode cX12_feed 50 = .ok (.getfield 19, 3) := by decide +kernel
theorem dX12_feed_53 : decode cX12_feed 53 = .ok (.aload_n 0, 1) := by decide +kernel
theorem dX12_feed_54 : decode cX12_feed 54 = .ok (.getfield 100, 3) := by decide +kernel
theorem dX12_feed_57 : decode cX12_feed 57 = .ok (.iload 7, 2) := by decide +kernel
theorem dX12_feed_59 : decode cX12_feed 59 = .ok (.iadd, 1) := by decide +kernel
theorem dX12_feed_60 : decode cX12_feed 60 = .ok (.aload 6, 2) := by decide +kernel
theorem dX12_feed_62 : decode cX12_feed 62 = .ok (.iload 7, 2) := by decide +kernel
theorem dX12_feed_64 : decode cX12_feed 64 = .ok (.iconst 4, 1) := by decide +kernel
theorem dX12_feed_65 : decode cX12_feed 65 = .ok (.idiv, 1) := by decide +kernel
theorem dX12_feed_66 : decode cX12_feed 66 = .ok (.iaload, 1) := by decide +kernel
theorem dX12_feed_67 : decode cX12_feed 67 = .ok (.bipush 24, 2) := by decide +kernel
theorem dX12_feed_69 : decode cX12_feed 69 = .ok (.bipush 8, 2) := by decide +kernel
theorem dX12_feed_71 : decode cX12_feed 71 = .ok (.iload 7, 2) := by decide +kernel
theorem dX12_feed_73 : decode cX12_feed 73 = .ok (.iconst 4, 1) := by decide +kernel
theorem dX12_feed_74 : decode cX12_feed 74 = .ok (.irem, 1) := by decide +kernel
theorem dX12_feed_75 : decode cX12_feed 75 = .ok (.imul, 1) := by decide +kernel
theorem dX12_feed_76 : decode cX12_feed 76 = .ok (.isub, 1) := by decide +kernel
theorem dX12_feed_77 : decode cX12_feed 77 = .ok (.iushr, 1) := by decide +kernel
theorem dX12_feed_78 : decode cX12_feed 78 = .ok (.sipush 255, 3) := by decide +kernel
theorem dX12_feed_81 : decode cX12_feed 81 = .ok (.iand, 1) := by decide +kernel
theorem dX12_feed_82 : decode cX12_feed 82 = .ok (.iastore, 1) := by decide +kernel
theorem dX12_feed_83 : decode cX12_feed 83 = .ok (.iinc 7 1, 3) := by decide +kernel
theorem dX12_feed_86 : decode cX12_feed 86 = .ok (.goto (-44), 3) := by decide +kernel
theorem dX12_feed_89 : decode cX12_feed 89 = .ok (.aload_n 0, 1) := by decide +kernel
theorem dX12_feed_90 : decode cX12_feed 90 = .ok (.dup, 1) := by decide +kernel
theorem dX12_feed_91 : decode cX12_feed 91 = .ok (.getfield 100, 3) := by decide +kernel
theorem dX12_feed_94 : decode cX12_feed 94 = .ok (.bipush 20, 2) := by decide +kernel
theorem dX12_feed_96 : decode cX12_feed 96 = .ok (.iadd, 1) := by decide +kernel
theorem dX12_feed_97 : decode cX12_feed 97 = .ok (.putfield 100, 3) := by decide +kernel
theorem dX12_feed_100 : decode cX12_feed 100 = .ok (.aload_n 0, 1) := by decide +kernel
theorem dX12_feed_101 : decode cX12_feed 101 = .ok (.getfield 100, 3) := by decide +kernel
theorem dX12_feed_104 : decode cX12_feed 104 = .ok (.ireturn, 1) := by decide +kernel
theorem dX12_filled_0 : decode cX12_filled 0 = .ok (.aload_n 0, 1) := by decide +kernel
theorem dX12_filled_1 : decode cX12_filled 1 = .ok (.iload_n 1, 1) := by decide +kernel
theorem dX12_filled_2 : decode cX12_filled 2 = .ok (.invokevirtual 67, 3) := by decide +kernel
theorem dX12_filled_5 : decode cX12_filled 5 = .ok (.ifCond .eq 8, 3) := by decide +kernel
theorem dX12_filled_13 : decode cX12_filled 13 = .ok (.bipush (-2), 2) := by decide +kernel
theorem dX12_filled_15 : decode cX12_filled 15 = .ok (.ireturn, 1) := by decide +kernel
theorem dX12_firsts_0 : decode cX12_firsts 0 = .ok (.aload_n 0, 1) := by decide +kernel
theorem dX12_firsts_1 : decode cX12_firsts 1 = .ok (.iload_n 1, 1) := by decide +kernel
theorem dX12_firsts_2 : decode cX12_firsts 2 = .ok (.invokevirtual 67, 3) := by decide +kernel
theorem dX12_firsts_5 : decode cX12_firsts 5 = .ok (.ifCond .eq 10, 3) := by decide +kernel
theorem dX12_firsts_15 : decode cX12_firsts 15 = .ok (.bipush (-2), 2) := by decide +kernel
theorem dX12_firsts_17 : decode cX12_firsts 17 = .ok (.ireturn, 1) := by decide +kernel
theorem dX12_gain_0 : decode cX12_gain 0 = .ok (.aload_n 0, 1) := by decide +kernel
theorem dX12_gain_1 : decode cX12_gain 1 = .ok (.iload_n 1, 1) := by decide +kernel
theorem dX12_gain_2 : decode cX12_gain 2 = .ok (.iload_n 3, 1) := by decide +kernel
theorem dX12_gain_3 : decode cX12_gain 3 = .ok (.invokevirtual 70, 3) := by decide +kernel
theorem dX12_gain_6 : decode cX12_gain 6 = .ok (.ifCond .eq 20, 3) := by decide +kernel
theorem dX12_gain_26 : decode cX12_gain 26 = .ok (.sipush (-1000), 3) := by decide +kernel
theorem dX12_gain_29 : decode cX12_gain 29 = .ok (.ireturn, 1) := by decide +kernel
theorem dX12_greedy_0 : decode cX12_greedy 0 = .ok (.aload_n 0, 1) := by decide +kernel
theorem dX12_greedy_1 : decode cX12_greedy 1 = .ok (.iload_n 1, 1) := by decide +kernel
theorem dX12_greedy_2 : decode cX12_greedy 2 = .ok (.invokevirtual 67, 3) := by decide +kernel
theorem dX12_greedy_5 : decode cX12_greedy 5 = .ok (.ifCond .eq 15, 3) := by decide +kernel
theorem dX12_greedy_20 : decode cX12_greedy 20 = .ok (.bipush (-2), 2) := by decide +kernel
theorem dX12_greedy_22 : decode cX12_greedy 22 = .ok (.ireturn, 1) := by decide +kernel
theorem dX12_halve_0 : decode cX12_halve 0 = .ok (.aload_n 0, 1) := by decide +kernel
theorem dX12_halve_1 : decode cX12_halve 1 = .ok (.iload_n 1, 1) := by decide +kernel
theorem dX12_halve_2 : decode cX12_halve 2 = .ok (.invokevirtual 67, 3) := by decide +kernel
theorem dX12_halve_5 : decode cX12_halve 5 = .ok (.ifCond .ne 6, 3) := by decide +kernel
theorem dX12_halve_8 : decode cX12_halve 8 = .ok (.bipush (-2), 2) := by decide +kernel
theorem dX12_halve_10 : decode cX12_halve 10 = .ok (.ireturn, 1) := by decide +kernel
theorem dX12_in_0 : decode cX12_in 0 = .ok (.lload_n 0, 1) := by decide +kernel
theorem dX12_in_1 : decode cX12_in 1 = .ok (.lload_n 2, 1) := by decide +kernel
theorem dX12_in_2 : decode cX12_in 2 = .ok (.lcmp, 1) := by decide +kernel
theorem dX12_in_3 : decode cX12_in 3 = .ok (.ifCond .lt 14, 3) := by decide +kernel
theorem dX12_in_6 : decode cX12_in 6 = .ok (.lload_n 0, 1) := by decide +kernel
theorem dX12_in_7 : decode cX12_in 7 = .ok (.lload 4, 2) := by decide +kernel
theorem dX12_in_9 : decode cX12_in 9 = .ok (.lcmp, 1) := by decide +kernel
theorem dX12_in_10 : decode cX12_in 10 = .ok (.ifCond .gt 7, 3) := by decide +kernel
theorem dX12_in_13 : decode cX12_in 13 = .ok (.iconst 1, 1) := by decide +kernel
theorem dX12_in_14 : decode cX12_in 14 = .ok (.goto 4, 3) := by decide +kernel
theorem dX12_in_17 : decode cX12_in 17 = .ok (.iconst 0, 1) := by decide +kernel
theorem dX12_in_18 : decode cX12_in 18 = .ok (.ireturn, 1) := by decide +kernel
theorem dX12_init_0 : decode cX12_init 0 = .ok (.aload_n 0, 1) := by decide +kernel
theorem dX12_init_1 : decode cX12_init 1 = .ok (.invokespecial 1, 3) := by decide +kernel
theorem dX12_init_4 : decode cX12_init 4 = .ok (.aload_n 0, 1) := by decide +kernel
theorem dX12_init_5 : decode cX12_init 5 = .ok (.sipush 273, 3) := by decide +kernel
theorem dX12_init_8 : decode cX12_init 8 = .ok (.newarray .int, 2) := by decide +kernel
theorem dX12_init_10 : decode cX12_init 10 = .ok (.putfield 7, 3) := by decide +kernel
theorem dX12_init_13 : decode cX12_init 13 = .ok (.aload_n 0, 1) := by decide +kernel
theorem dX12_init_14 : decode cX12_init 14 = .ok (.sipush 273, 3) := by decide +kernel
theorem dX12_init_17 : decode cX12_init 17 = .ok (.newarray .int, 2) := by decide +kernel
theorem dX12_init_19 : decode cX12_init 19 = .ok (.putfield 13, 3) := by decide +kernel
theorem dX12_init_22 : decode cX12_init 22 = .ok (.aload_n 0, 1) := by decide +kernel
theorem dX12_init_23 : decode cX12_init 23 = .ok (.sipush 2730, 3) := by decide +kernel
theorem dX12_init_26 : decode cX12_init 26 = .ok (.newarray .int, 2) := by decide +kernel
theorem dX12_init_28 : decode cX12_init 28 = .ok (.putfield 16, 3) := by decide +kernel
theorem dX12_init_31 : decode cX12_init 31 = .ok (.aload_n 0, 1) := by decide +kernel
theorem dX12_init_32 : decode cX12_init 32 = .ok (.sipush 400, 3) := by decide +kernel
theorem dX12_init_35 : decode cX12_init 35 = .ok (.newarray .int, 2) := by decide +kernel
theorem dX12_init_37 : decode cX12_init 37 = .ok (.putfield 19, 3) := by decide +kernel
theorem dX12_init_40 : decode cX12_init 40 = .ok (.aload_n 0, 1) := by decide +kernel
theorem dX12_init_41 : decode cX12_init 41 = .ok (.iconst (-1), 1) := by decide +kernel
theorem dX12_init_42 : decode cX12_init 42 = .ok (.putfield 22, 3) := by decide +kernel
theorem dX12_init_45 : decode cX12_init 45 = .ok (.aload_n 0, 1) := by decide +kernel
theorem dX12_init_46 : decode cX12_init 46 = .ok (.bipush 9, 2) := by decide +kernel
theorem dX12_init_48 : decode cX12_init 48 = .ok (.newarray .int, 2) := by decide +kernel
theorem dX12_init_50 : decode cX12_init 50 = .ok (.putfield 26, 3) := by decide +kernel
theorem dX12_init_53 : decode cX12_init 53 = .ok (.aload_n 0, 1) := by decide +kernel
theorem dX12_init_54 : decode cX12_init 54 = .ok (.sipush 512, 3) := by decide +kernel
theorem dX12_init_57 : decode cX12_init 57 = .ok (.newarray .int, 2) := by decide +kernel
theorem dX12_init_59 : decode cX12_init 59 = .ok (.putfield 29, 3) := by decide +kernel
theorem dX12_init_62 : decode cX12_init 62 = .ok (.aload_n 0, 1) := by decide +kernel
theorem dX12_init_63 : decode cX12_init 63 = .ok (.sipush 512, 3) := by decide +kernel
theorem dX12_init_66 : decode cX12_init 66 = .ok (.newarray .int, 2) := by decide +kernel
theorem dX12_init_68 : decode cX12_init 68 = .ok (.putfield 32, 3) := by decide +kernel
theorem dX12_init_71 : decode cX12_init 71 = .ok (.aload_n 0, 1) := by decide +kernel
theorem dX12_init_72 : decode cX12_init 72 = .ok (.sipush 4608, 3) := by decide +kernel
theorem dX12_init_75 : decode cX12_init 75 = .ok (.newarray .int, 2) := by decide +kernel
theorem dX12_init_77 : decode cX12_init 77 = .ok (.putfield 35, 3) := by decide +kernel
theorem dX12_init_80 : decode cX12_init 80 = .ok (.aload_n 0, 1) := by decide +kernel
theorem dX12_init_81 : decode cX12_init 81 = .ok (.bipush 9, 2) := by decide +kernel
theorem dX12_init_83 : decode cX12_init 83 = .ok (.newarray .int, 2) := by decide +kernel
theorem dX12_init_85 : decode cX12_init 85 = .ok (.putfield 38, 3) := by decide +kernel
theorem dX12_init_88 : decode cX12_init 88 = .ok (.aload_n 0, 1) := by decide +kernel
theorem dX12_init_89 : decode cX12_init 89 = .ok (.bipush 9, 2) := by decide +kernel
theorem dX12_init_91 : decode cX12_init 91 = .ok (.newarray .int, 2) := by decide +kernel
theorem dX12_init_93 : decode cX12_init 93 = .ok (.putfield 41, 3) := by decide +kernel
theorem dX12_init_96 : decode cX12_init 96 = .ok (.aload_n 0, 1) := by decide +kernel
theorem dX12_init_97 : decode cX12_init 97 = .ok (.bipush 9, 2) := by decide +kernel
theorem dX12_init_99 : decode cX12_init 99 = .ok (.newarray .int, 2) := by decide +kernel
theorem dX12_init_101 : decode cX12_init 101 = .ok (.putfield 44, 3) := by decide +kernel
theorem dX12_init_104 : decode cX12_init 104 = .ok (.aload_n 0, 1) := by decide +kernel
theorem dX12_init_105 : decode cX12_init 105 = .ok (.bipush 81, 2) := by decide +kernel
theorem dX12_init_107 : decode cX12_init 107 = .ok (.newarray .int, 2) := by decide +kernel
theorem dX12_init_109 : decode cX12_init 109 = .ok (.putfield 47, 3) := by decide +kernel
theorem dX12_init_112 : decode cX12_init 112 = .ok (.aload_n 0, 1) := by decide +kernel
theorem dX12_init_113 : decode cX12_init 113 = .ok (.sipush 400, 3) := by decide +kernel
theorem dX12_init_116 : decode cX12_init 116 = .ok (.newarray .int, 2) := by decide +kernel
theorem dX12_init_118 : decode cX12_init 118 = .ok (.putfield 50, 3) := by decide +kernel
theorem dX12_init_121 : decode cX12_init 121 = .ok (.return_, 1) := by decide +kernel
theorem dX12_isNet_0 : decode cX12_isNet 0 = .ok (.iload_n 1, 1) := by decide +kernel
theorem dX12_isNet_1 : decode cX12_isNet 1 = .ok (.invokestatic 59, 3) := by decide +kernel
theorem dX12_isNet_4 : decode cX12_isNet 4 = .ok (.ifCond .eq 15, 3) := by decide +kernel
theorem dX12_isNet_7 : decode cX12_isNet 7 = .ok (.aload_n 0, 1) := by decide +kernel
theorem dX12_isNet_8 : decode cX12_isNet 8 = .ok (.iload_n 1, 1) := by decide +kernel
theorem dX12_isNet_9 : decode cX12_isNet 9 = .ok (.invokevirtual 63, 3) := by decide +kernel
theorem dX12_isNet_12 : decode cX12_isNet 12 = .ok (.ifCond .le 7, 3) := by decide +kernel
theorem dX12_isNet_19 : decode cX12_isNet 19 = .ok (.iconst 0, 1) := by decide +kernel
theorem dX12_isNet_20 : decode cX12_isNet 20 = .ok (.ireturn, 1) := by decide +kernel
theorem dX12_isPoint_0 : decode cX12_isPoint 0 = .ok (.aload_n 0, 1) := by decide +kernel
theorem dX12_isPoint_1 : decode cX12_isPoint 1 = .ok (.iload_n 1, 1) := by decide +kernel
theorem dX12_isPoint_2 : decode cX12_isPoint 2 = .ok (.invokevirtual 67, 3) := by decide +kernel
theorem dX12_isPoint_5 : decode cX12_isPoint 5 = .ok (.ifCond .eq 24, 3) := by decide +kernel
theorem dX12_isPoint_29 : decode cX12_isPoint 29 = .ok (.iconst 0, 1) := by decide +kernel
theorem dX12_isPoint_30 : decode cX12_isPoint 30 = .ok (.ireturn, 1) := by decide +kernel
theorem dX12_isSlot_0 : decode cX12_isSlot 0 = .ok (.iload_n 0, 1) := by decide +kernel
theorem dX12_isSlot_1 : decode cX12_isSlot 1 = .ok (.i2l, 1) := by decide +kernel
theorem dX12_isSlot_2 : decode cX12_isSlot 2 = .ok (.lconst 0, 1) := by decide +kernel
theorem dX12_isSlot_3 : decode cX12_isSlot 3 = .ok (.ldc2_w 53, 3) := by decide +kernel
theorem dX12_isSlot_6 : decode cX12_isSlot 6 = .ok (.invokestatic 55, 3) := by decide +kernel
theorem dX12_isSlot_9 : decode cX12_isSlot 9 = .ok (.ireturn, 1) := by decide +kernel
theorem dX12_layers_0 : decode cX12_layers 0 = .ok (.aload_n 0, 1) := by decide +kernel
theorem dX12_layers_1 : decode cX12_layers 1 = .ok (.iload_n 1, 1) := by decide +kernel
theorem dX12_layers_2 : decode cX12_layers 2 = .ok (.iload_n 2, 1) := by decide +kernel
theorem dX12_layers_3 : decode cX12_layers 3 = .ok (.invokevirtual 70, 3) := by decide +kernel
theorem dX12_layers_6 : decode cX12_layers 6 = .ok (.ifCond .ne 6, 3) := by decide +kernel
theorem dX12_layers_9 : decode cX12_layers 9 = .ok (.bipush (-2), 2) := by decide +kernel
theorem dX12_layers_11 : decode cX12_layers 11 = .ok (.ireturn, 1) := by decide +kernel
theorem dX12_least_0 : decode cX12_least 0 = .ok (.aload_n 0, 1) := by decide +kernel
theorem dX12_least_1 : decode cX12_least 1 = .ok (.iload_n 1, 1) := by decide +kernel
theorem dX12_least_2 : decode cX12_least 2 = .ok (.invokevirtual 67, 3) := by decide +kernel
theorem dX12_least_5 : decode cX12_least 5 = .ok (.ifCond .eq 10, 3) := by decide +kernel
theorem dX12_least_15 : decode cX12_least 15 = .ok (.bipush (-2), 2) := by decide +kernel
theorem dX12_least_17 : decode cX12_least 17 = .ok (.ireturn, 1) := by decide +kernel
theorem dX12_line_0 : decode cX12_line 0 = .ok (.aload_n 0, 1) := by decide +kernel
theorem dX12_line_1 : decode cX12_line 1 = .ok (.iload_n 1, 1) := by decide +kernel
theorem dX12_line_2 : decode cX12_line 2 = .ok (.iload_n 2, 1) := by decide +kernel
theorem dX12_line_3 : decode cX12_line 3 = .ok (.invokevirtual 70, 3) := by decide +kernel
theorem dX12_line_6 : decode cX12_line 6 = .ok (.ifCond .eq 22, 3) := by decide +kernel
theorem dX12_line_28 : decode cX12_line 28 = .ok (.bipush (-2), 2) := by decide +kernel
theorem dX12_line_30 : decode cX12_line 30 = .ok (.ireturn, 1) := by decide +kernel
theorem dX12_longest_0 : decode cX12_longest 0 = .ok (.aload_n 0, 1) := by decide +kernel
theorem dX12_longest_1 : decode cX12_longest 1 = .ok (.iload_n 1, 1) := by decide +kernel
theorem dX12_longest_2 : decode cX12_longest 2 = .ok (.invokevirtual 67, 3) := by decide +kernel
theorem dX12_longest_5 : decode cX12_longest 5 = .ok (.ifCond .ne 6, 3) := by decide +kernel
theorem dX12_longest_8 : decode cX12_longest 8 = .ok (.bipush (-2), 2) := by decide +kernel
theorem dX12_longest_10 : decode cX12_longest 10 = .ok (.ireturn, 1) := by decide +kernel
theorem dX12_look_0 : decode cX12_look 0 = .ok (.aload_n 0, 1) := by decide +kernel
theorem dX12_look_1 : decode cX12_look 1 = .ok (.iload_n 1, 1) := by decide +kernel
theorem dX12_look_2 : decode cX12_look 2 = .ok (.invokevirtual 67, 3) := by decide +kernel
theorem dX12_look_5 : decode cX12_look 5 = .ok (.ifCond .eq 15, 3) := by decide +kernel
theorem dX12_look_20 : decode cX12_look 20 = .ok (.bipush (-2), 2) := by decide +kernel
theorem dX12_look_22 : decode cX12_look 22 = .ok (.ireturn, 1) := by decide +kernel
theorem dX12_merges_0 : decode cX12_merges 0 = .ok (.aload_n 0, 1) := by decide +kernel
theorem dX12_merges_1 : decode cX12_merges 1 = .ok (.iload_n 1, 1) := by decide +kernel
theorem dX12_merges_2 : decode cX12_merges 2 = .ok (.iload_n 2, 1) := by decide +kernel
theorem dX12_merges_3 : decode cX12_merges 3 = .ok (.iload_n 3, 1) := by decide +kernel
theorem dX12_merges_4 : decode cX12_merges 4 = .ok (.invokevirtual 326, 3) := by decide +kernel
theorem dX12_merges_7 : decode cX12_merges 7 = .ok (.ifCond .ne 6, 3) := by decide +kernel
theorem dX12_merges_10 : decode cX12_merges 10 = .ok (.bipush (-2), 2) := by decide +kernel
theorem dX12_merges_12 : decode cX12_merges 12 = .ok (.ireturn, 1) := by decide +kernel
theorem dX12_minor_0 : decode cX12_minor 0 = .ok (.aload_n 0, 1) := by decide +kernel
theorem dX12_minor_1 : decode cX12_minor 1 = .ok (.iload_n 1, 1) := by decide +kernel
theorem dX12_minor_2 : decode cX12_minor 2 = .ok (.invokevirtual 67, 3) := by decide +kernel
theorem dX12_minor_5 : decode cX12_minor 5 = .ok (.ifCond .ne 6, 3) := by decide +kernel
theorem dX12_minor_8 : decode cX12_minor 8 = .ok (.bipush (-2), 2) := by decide +kernel
theorem dX12_minor_10 : decode cX12_minor 10 = .ok (.ireturn, 1) := by decide +kernel
theorem dX12_moves_0 : decode cX12_moves 0 = .ok (.aload_n 0, 1) := by decide +kernel
theorem dX12_moves_1 : decode cX12_moves 1 = .ok (.iload_n 1, 1) := by decide +kernel
theorem dX12_moves_2 : decode cX12_moves 2 = .ok (.iload_n 2, 1) := by decide +kernel
theorem dX12_moves_3 : decode cX12_moves 3 = .ok (.invokevirtual 70, 3) := by decide +kernel
theorem dX12_moves_6 : decode cX12_moves 6 = .ok (.ifCond .eq 12, 3) := by decide +kernel
theorem dX12_moves_18 : decode cX12_moves 18 = .ok (.bipush (-2), 2) := by decide +kernel
theorem dX12_moves_20 : decode cX12_moves 20 = .ok (.ireturn, 1) := by decide +kernel
theorem dX12_near_0 : decode cX12_near 0 = .ok (.aload_n 0, 1) := by decide +kernel
theorem dX12_near_1 : decode cX12_near 1 = .ok (.iload_n 1, 1) := by decide +kernel
theorem dX12_near_2 : decode cX12_near 2 = .ok (.iload_n 2, 1) := by decide +kernel
theorem dX12_near_3 : decode cX12_near 3 = .ok (.invokevirtual 70, 3) := by decide +kernel
theorem dX12_near_6 : decode cX12_near 6 = .ok (.ifCond .eq 12, 3) := by decide +kernel
theorem dX12_near_18 : decode cX12_near 18 = .ok (.bipush (-2), 2) := by decide +kernel
theorem dX12_near_20 : decode cX12_near 20 = .ok (.ireturn, 1) := by decide +kernel
theorem dX12_octet_0 : decode cX12_octet 0 = .ok (.iload_n 1, 1) := by decide +kernel
theorem dX12_octet_1 : decode cX12_octet 1 = .ok (.i2l, 1) := by decide +kernel
theorem dX12_octet_2 : decode cX12_octet 2 = .ok (.lconst 0, 1) := by decide +kernel
theorem dX12_octet_3 : decode cX12_octet 3 = .ok (.aload_n 0, 1) := by decide +kernel
theorem dX12_octet_4 : decode cX12_octet 4 = .ok (.getfield 193, 3) := by decide +kernel
theorem dX12_octet_7 : decode cX12_octet 7 = .ok (.iconst 1, 1) := by decide +kernel
theorem dX12_octet_8 : decode cX12_octet 8 = .ok (.isub, 1) := by decide +kernel
theorem dX12_octet_9 : decode cX12_octet 9 = .ok (.i2l, 1) := by decide +kernel
theorem dX12_octet_10 : decode cX12_octet 10 = .ok (.invokestatic 55, 3) := by decide +kernel
theorem dX12_octet_13 : decode cX12_octet 13 = .ok (.ifCond .eq 12, 3) := by decide +kernel
theorem dX12_octet_25 : decode cX12_octet 25 = .ok (.iconst (-1), 1) := by decide +kernel
theorem dX12_octet_26 : decode cX12_octet 26 = .ok (.ireturn, 1) := by decide +kernel
theorem dX12_place_0 : decode cX12_place 0 = .ok (.aload_n 0, 1) := by decide +kernel
theorem dX12_place_1 : decode cX12_place 1 = .ok (.iload_n 1, 1) := by decide +kernel
theorem dX12_place_2 : decode cX12_place 2 = .ok (.iload_n 2, 1) := by decide +kernel
theorem dX12_place_3 : decode cX12_place 3 = .ok (.invokevirtual 70, 3) := by decide +kernel
theorem dX12_place_6 : decode cX12_place 6 = .ok (.ifCond .eq 12, 3) := by decide +kernel
theorem dX12_place_18 : decode cX12_place 18 = .ok (.bipush (-2), 2) := by decide +kernel
theorem dX12_place_20 : decode cX12_place 20 = .ok (.ireturn, 1) := by decide +kernel
theorem dX12_points_0 : decode cX12_points 0 = .ok (.aload_n 0, 1) := by decide +kernel
theorem dX12_points_1 : decode cX12_points 1 = .ok (.getfield 7, 3) := by decide +kernel
theorem dX12_points_4 : decode cX12_points 4 = .ok (.bipush 91, 2) := by decide +kernel
theorem dX12_points_6 : decode cX12_points 6 = .ok (.iload_n 1, 1) := by decide +kernel
theorem dX12_points_7 : decode cX12_points 7 = .ok (.imul, 1) := by decide +kernel
theorem dX12_points_8 : decode cX12_points 8 = .ok (.iaload, 1) := by decide +kernel
theorem dX12_points_9 : decode cX12_points 9 = .ok (.ireturn, 1) := by decide +kernel
theorem dX12_polish_0 : decode cX12_polish 0 = .ok (.aload_n 0, 1) := by decide +kernel
theorem dX12_polish_1 : decode cX12_polish 1 = .ok (.iload_n 1, 1) := by decide +kernel
theorem dX12_polish_2 : decode cX12_polish 2 = .ok (.invokevirtual 67, 3) := by decide +kernel
theorem dX12_polish_5 : decode cX12_polish 5 = .ok (.ifCond .eq 10, 3) := by decide +kernel
theorem dX12_polish_15 : decode cX12_polish 15 = .ok (.bipush (-2), 2) := by decide +kernel
theorem dX12_polish_17 : decode cX12_polish 17 = .ok (.ireturn, 1) := by decide +kernel
theorem dX12_polished_0 : decode cX12_polished 0 = .ok (.aload_n 0, 1) := by decide +kernel
theorem dX12_polished_1 : decode cX12_polished 1 = .ok (.iload_n 1, 1) := by decide +kernel
theorem dX12_polished_2 : decode cX12_polished 2 = .ok (.invokevirtual 67, 3) := by decide +kernel
theorem dX12_polished_5 : decode cX12_polished 5 = .ok (.ifCond .eq 10, 3) := by decide +kernel
theorem dX12_polished_15 : decode cX12_polished 15 = .ok (.bipush (-2), 2) := by decide +kernel
theorem dX12_polished_17 : decode cX12_polished 17 = .ok (.ireturn, 1) := by decide +kernel
theorem dX12_price_0 : decode cX12_price 0 = .ok (.aload_n 0, 1) := by decide +kernel
theorem dX12_price_1 : decode cX12_price 1 = .ok (.iload_n 1, 1) := by decide +kernel
theorem dX12_price_2 : decode cX12_price 2 = .ok (.invokevirtual 67, 3) := by decide +kernel
theorem dX12_price_5 : decode cX12_price 5 = .ok (.ifCond .eq 43, 3) := by decide +kernel
theorem dX12_price_48 : decode cX12_price 48 = .ok (.bipush (-2), 2) := by decide +kernel
theorem dX12_price_50 : decode cX12_price 50 = .ok (.ireturn, 1) := by decide +kernel
theorem dX12_reverse_0 : decode cX12_reverse 0 = .ok (.aload_n 0, 1) := by decide +kernel
theorem dX12_reverse_1 : decode cX12_reverse 1 = .ok (.iload_n 1, 1) := by decide +kernel
theorem dX12_reverse_2 : decode cX12_reverse 2 = .ok (.invokevirtual 67, 3) := by decide +kernel
theorem dX12_reverse_5 : decode cX12_reverse 5 = .ok (.ifCond .ne 6, 3) := by decide +kernel
theorem dX12_reverse_8 : decode cX12_reverse 8 = .ok (.bipush (-2), 2) := by decide +kernel
theorem dX12_reverse_10 : decode cX12_reverse 10 = .ok (.ireturn, 1) := by decide +kernel
theorem dX12_row_0 : decode cX12_row 0 = .ok (.aload_n 0, 1) := by decide +kernel
theorem dX12_row_1 : decode cX12_row 1 = .ok (.iload_n 1, 1) := by decide +kernel
theorem dX12_row_2 : decode cX12_row 2 = .ok (.iload_n 2, 1) := by decide +kernel
theorem dX12_row_3 : decode cX12_row 3 = .ok (.invokevirtual 70, 3) := by decide +kernel
theorem dX12_row_6 : decode cX12_row 6 = .ok (.ifCond .eq 12, 3) := by decide +kernel
theorem dX12_row_18 : decode cX12_row 18 = .ok (.bipush (-2), 2) := by decide +kernel
theorem dX12_row_20 : decode cX12_row 20 = .ok (.ireturn, 1) := by decide +kernel
theorem dX12_split_0 : decode cX12_split 0 = .ok (.aload_n 0, 1) := by decide +kernel
theorem dX12_split_1 : decode cX12_split 1 = .ok (.iload_n 1, 1) := by decide +kernel
theorem dX12_split_2 : decode cX12_split 2 = .ok (.invokevirtual 67, 3) := by decide +kernel
theorem dX12_split_5 : decode cX12_split 5 = .ok (.ifCond .eq 44, 3) := by decide +kernel
theorem dX12_split_49 : decode cX12_split 49 = .ok (.bipush (-2), 2) := by decide +kernel
theorem dX12_split_51 : decode cX12_split 51 = .ok (.ireturn, 1) := by decide +kernel
theorem dX12_swaps_0 : decode cX12_swaps 0 = .ok (.aload_n 0, 1) := by decide +kernel
theorem dX12_swaps_1 : decode cX12_swaps 1 = .ok (.iload_n 1, 1) := by decide +kernel
theorem dX12_swaps_2 : decode cX12_swaps 2 = .ok (.iload_n 2, 1) := by decide +kernel
theorem dX12_swaps_3 : decode cX12_swaps 3 = .ok (.invokevirtual 70, 3) := by decide +kernel
theorem dX12_swaps_6 : decode cX12_swaps 6 = .ok (.ifCond .eq 12, 3) := by decide +kernel
theorem dX12_swaps_18 : decode cX12_swaps 18 = .ok (.bipush (-2), 2) := by decide +kernel
theorem dX12_swaps_20 : decode cX12_swaps 20 = .ok (.ireturn, 1) := by decide +kernel
theorem dX12_takes_0 : decode cX12_takes 0 = .ok (.aload_n 0, 1) := by decide +kernel
theorem dX12_takes_1 : decode cX12_takes 1 = .ok (.iload_n 1, 1) := by decide +kernel
theorem dX12_takes_2 : decode cX12_takes 2 = .ok (.invokevirtual 67, 3) := by decide +kernel
theorem dX12_takes_5 : decode cX12_takes 5 = .ok (.ifCond .eq 10, 3) := by decide +kernel
theorem dX12_takes_15 : decode cX12_takes 15 = .ok (.bipush (-2), 2) := by decide +kernel
theorem dX12_takes_17 : decode cX12_takes 17 = .ok (.ireturn, 1) := by decide +kernel
theorem dX12_tell_0 : decode cX12_tell 0 = .ok (.aload_n 0, 1) := by decide +kernel
theorem dX12_tell_1 : decode cX12_tell 1 = .ok (.iload_n 1, 1) := by decide +kernel
theorem dX12_tell_2 : decode cX12_tell 2 = .ok (.invokevirtual 67, 3) := by decide +kernel
theorem dX12_tell_5 : decode cX12_tell 5 = .ok (.ifCond .eq 13, 3) := by decide +kernel
theorem dX12_tell_18 : decode cX12_tell 18 = .ok (.bipush (-2), 2) := by decide +kernel
theorem dX12_tell_20 : decode cX12_tell 20 = .ok (.ireturn, 1) := by decide +kernel
theorem dX12_undo_0 : decode cX12_undo 0 = .ok (.aload_n 0, 1) := by decide +kernel
theorem dX12_undo_1 : decode cX12_undo 1 = .ok (.getfield 87, 3) := by decide +kernel
theorem dX12_undo_4 : decode cX12_undo 4 = .ok (.ifCond .ne 5, 3) := by decide +kernel
theorem dX12_undo_7 : decode cX12_undo 7 = .ok (.iconst (-1), 1) := by decide +kernel
theorem dX12_undo_8 : decode cX12_undo 8 = .ok (.ireturn, 1) := by decide +kernel
theorem dX12_value_0 : decode cX12_value 0 = .ok (.aload_n 0, 1) := by decide +kernel
theorem dX12_value_1 : decode cX12_value 1 = .ok (.iload_n 1, 1) := by decide +kernel
theorem dX12_value_2 : decode cX12_value 2 = .ok (.invokevirtual 67, 3) := by decide +kernel
theorem dX12_value_5 : decode cX12_value 5 = .ok (.ifCond .eq 10, 3) := by decide +kernel
theorem dX12_value_15 : decode cX12_value 15 = .ok (.bipush (-2), 2) := by decide +kernel
theorem dX12_value_17 : decode cX12_value 17 = .ok (.ireturn, 1) := by decide +kernel
theorem dX12_ways_0 : decode cX12_ways 0 = .ok (.aload_n 0, 1) := by decide +kernel
theorem dX12_ways_1 : decode cX12_ways 1 = .ok (.iload_n 1, 1) := by decide +kernel
theorem dX12_ways_2 : decode cX12_ways 2 = .ok (.invokevirtual 67, 3) := by decide +kernel
theorem dX12_ways_5 : decode cX12_ways 5 = .ok (.ifCond .eq 10, 3) := by decide +kernel
theorem dX12_ways_15 : decode cX12_ways 15 = .ok (.bipush (-2), 2) := by decide +kernel
theorem dX12_ways_17 : decode cX12_ways 17 = .ok (.ireturn, 1) := by decide +kernel
theorem dX12_within_0 : decode cX12_within 0 = .ok (.aload_n 0, 1) := by decide +kernel
theorem dX12_within_1 : decode cX12_within 1 = .ok (.iload_n 1, 1) := by decide +kernel
theorem dX12_within_2 : decode cX12_within 2 = .ok (.invokevirtual 67, 3) := by decide +kernel
theorem dX12_within_5 : decode cX12_within 5 = .ok (.ifCond .eq 26, 3) := by decide +kernel
theorem dX12_within_31 : decode cX12_within 31 = .ok (.bipush (-2), 2) := by decide +kernel
theorem dX12_within_33 : decode cX12_within 33 = .ok (.ireturn, 1) := by decide +kernel
theorem dX12_worst_0 : decode cX12_worst 0 = .ok (.aload_n 0, 1) := by decide +kernel
theorem dX12_worst_1 : decode cX12_worst 1 = .ok (.iload_n 1, 1) := by decide +kernel
theorem dX12_worst_2 : decode cX12_worst 2 = .ok (.invokevirtual 67, 3) := by decide +kernel
theorem dX12_worst_5 : decode cX12_worst 5 = .ok (.ifCond .eq 31, 3) := by decide +kernel
theorem dX12_worst_36 : decode cX12_worst 36 = .ok (.bipush (-2), 2) := by decide +kernel
theorem dX12_worst_38 : decode cX12_worst 38 = .ok (.ireturn, 1) := by decide +kernel
theorem dX1_at_0 : decode cX1_at 0 = .ok (.iload_n 1, 1) := by decide +kernel
theorem dX1_at_1 : decode cX1_at 1 = .ok (.ifCond .lt 24, 3) := by decide +kernel
theorem dX1_at_4 : decode cX1_at 4 = .ok (.iload_n 1, 1) := by decide +kernel
theorem dX1_at_5 : decode cX1_at 5 = .ok (.aload_n 0, 1) := by decide +kernel
theorem dX1_at_6 : decode cX1_at 6 = .ok (.getfield 21, 3) := by decide +kernel
theorem dX1_at_9 : decode cX1_at 9 = .ok (.if_icmp .ge 16, 3) := by decide +kernel
theorem dX1_at_12 : decode cX1_at 12 = .ok (.aload_n 0, 1) := by decide +kernel
theorem dX1_at_13 : decode cX1_at 13 = .ok (.getfield 15, 3) := by decide +kernel
theorem dX1_at_16 : decode cX1_at 16 = .ok (.iload_n 1, 1) := by decide +kernel
theorem dX1_at_17 : decode cX1_at 17 = .ok (.baload, 1) := by decide +kernel
theorem dX1_at_18 : decode cX1_at 18 = .ok (.sipush 255, 3) := by decide +kernel
theorem dX1_at_21 : decode cX1_at 21 = .ok (.iand, 1) := by decide +kernel
theorem dX1_at_22 : decode cX1_at 22 = .ok (.goto 4, 3) := by decide +kernel
theorem dX1_at_25 : decode cX1_at 25 = .ok (.iconst (-1), 1) := by decide +kernel
theorem dX1_at_26 : decode cX1_at 26 = .ok (.ireturn, 1) := by decide +kernel
theorem dX1_hasRoom_0 : decode cX1_hasRoom 0 = .ok (.aload_n 0, 1) := by decide +kernel
theorem dX1_hasRoom_1 : decode cX1_hasRoom 1 = .ok (.getfield 21, 3) := by decide +kernel
theorem dX1_hasRoom_4 : decode cX1_hasRoom 4 = .ok (.iload_n 1, 1) := by decide +kernel
theorem dX1_hasRoom_5 : decode cX1_hasRoom 5 = .ok (.iadd, 1) := by decide +kernel
theorem dX1_hasRoom_6 : decode cX1_hasRoom 6 = .ok (.aload_n 0, 1) := by decide +kernel
theorem dX1_hasRoom_7 : decode cX1_hasRoom 7 = .ok (.getfield 15, 3) := by decide +kernel
theorem dX1_hasRoom_10 : decode cX1_hasRoom 10 = .ok (.arraylength, 1) := by decide +kernel
theorem dX1_hasRoom_11 : decode cX1_hasRoom 11 = .ok (.if_icmp .gt 7, 3) := by decide +kernel
theorem dX1_hasRoom_14 : decode cX1_hasRoom 14 = .ok (.iconst 1, 1) := by decide +kernel
theorem dX1_hasRoom_15 : decode cX1_hasRoom 15 = .ok (.goto 4, 3) := by decide +kernel
theorem dX1_hasRoom_19 : decode cX1_hasRoom 19 = .ok (.ireturn, 1) := by decide +kernel
theorem dX1_init_0 : decode cX1_init 0 = .ok (.aload_n 0, 1) := by decide +kernel
theorem dX1_init_1 : decode cX1_init 1 = .ok (.invokespecial 3, 3) := by decide +kernel
theorem dX1_init_4 : decode cX1_init 4 = .ok (.aload_n 0, 1) := by decide +kernel
theorem dX1_init_5 : decode cX1_init 5 = .ok (.iconst 0, 1) := by decide +kernel
theorem dX1_init_6 : decode cX1_init 6 = .ok (.iload_n 1, 1) := by decide +kernel
theorem dX1_init_7 : decode cX1_init 7 = .ok (.invokestatic 9, 3) := by decide +kernel
theorem dX1_init_10 : decode cX1_init 10 = .ok (.newarray .byte, 2) := by decide +kernel
theorem dX1_init_12 : decode cX1_init 12 = .ok (.putfield 15, 3) := by decide +kernel
theorem dX1_init_15 : decode cX1_init 15 = .ok (.return_, 1) := by decide +kernel
theorem dX1_put_0 : decode cX1_put 0 = .ok (.aload_n 0, 1) := by decide +kernel
theorem dX1_put_1 : decode cX1_put 1 = .ok (.iconst 1, 1) := by decide +kernel
theorem dX1_put_2 : decode cX1_put 2 = .ok (.invokevirtual 25, 3) := by decide +kernel
theorem dX1_put_5 : decode cX1_put 5 = .ok (.ifCond .eq 24, 3) := by decide +kernel
theorem dX1_put_8 : decode cX1_put 8 = .ok (.aload_n 0, 1) := by decide +kernel
theorem dX1_put_9 : decode cX1_put 9 = .ok (.getfield 15, 3) := by decide +kernel
theorem dX1_put_12 : decode cX1_put 12 = .ok (.aload_n 0, 1) := by decide +kernel
theorem dX1_put_13 : decode cX1_put 13 = .ok (.getfield 21, 3) := by decide +kernel
theorem dX1_put_16 : decode cX1_put 16 = .ok (.iload_n 1, 1) := by decide +kernel
theorem dX1_put_17 : decode cX1_put 17 = .ok (.i2b, 1) := by decide +kernel
theorem dX1_put_18 : decode cX1_put 18 = .ok (.bastore, 1) := by decide +kernel
theorem dX1_put_19 : decode cX1_put 19 = .ok (.aload_n 0, 1) := by decide +kernel
theorem dX1_put_20 : decode cX1_put 20 = .ok (.dup, 1) := by decide +kernel
theorem dX1_put_21 : decode cX1_put 21 = .ok (.getfield 21, 3) := by decide +kernel
theorem dX1_put_24 : decode cX1_put 24 = .ok (.iconst 1, 1) := by decide +kernel
theorem dX1_put_25 : decode cX1_put 25 = .ok (.iadd, 1) := by decide +kernel
theorem dX1_put_26 : decode cX1_put 26 = .ok (.putfield 21, 3) := by decide +kernel
theorem dX1_put_29 : decode cX1_put 29 = .ok (.return_, 1) := by decide +kernel
theorem dX1_putFour_0 : decode cX1_putFour 0 = .ok (.aload_n 0, 1) := by decide +kernel
theorem dX1_putFour_1 : decode cX1_putFour 1 = .ok (.iload_n 1, 1) := by decide +kernel
theorem dX1_putFour_2 : decode cX1_putFour 2 = .ok (.bipush 24, 2) := by decide +kernel
theorem dX1_putFour_4 : decode cX1_putFour 4 = .ok (.iushr, 1) := by decide +kernel
theorem dX1_putFour_5 : decode cX1_putFour 5 = .ok (.invokevirtual 29, 3) := by decide +kernel
theorem dX1_putFour_8 : decode cX1_putFour 8 = .ok (.aload_n 0, 1) := by decide +kernel
theorem dX1_putFour_9 : decode cX1_putFour 9 = .ok (.iload_n 1, 1) := by decide +kernel
theorem dX1_putFour_10 : decode cX1_putFour 10 = .ok (.bipush 16, 2) := by decide +kernel
theorem dX1_putFour_12 : decode cX1_putFour 12 = .ok (.iushr, 1) := by decide +kernel
theorem dX1_putFour_13 : decode cX1_putFour 13 = .ok (.invokevirtual 29, 3) := by decide +kernel
theorem dX1_putFour_16 : decode cX1_putFour 16 = .ok (.aload_n 0, 1) := by decide +kernel
theorem dX1_putFour_17 : decode cX1_putFour 17 = .ok (.iload_n 1, 1) := by decide +kernel
theorem dX1_putFour_18 : decode cX1_putFour 18 = .ok (.bipush 8, 2) := by decide +kernel
theorem dX1_putFour_20 : decode cX1_putFour 20 = .ok (.iushr, 1) := by decide +kernel
theorem dX1_putFour_21 : decode cX1_putFour 21 = .ok (.invokevirtual 29, 3) := by decide +kernel
theorem dX1_putFour_24 : decode cX1_putFour 24 = .ok (.aload_n 0, 1) := by decide +kernel
theorem dX1_putFour_25 : decode cX1_putFour 25 = .ok (.iload_n 1, 1) := by decide +kernel
theorem dX1_putFour_26 : decode cX1_putFour 26 = .ok (.invokevirtual 29, 3) := by decide +kernel
theorem dX1_putFour_29 : decode cX1_putFour 29 = .ok (.return_, 1) := by decide +kernel
theorem dX2_init_0 : decode cX2_init 0 = .ok (.aload_n 0, 1) := by decide +kernel
theorem dX2_init_1 : decode cX2_init 1 = .ok (.invokespecial 3, 3) := by decide +kernel
theorem dX2_init_4 : decode cX2_init 4 = .ok (.aload_n 0, 1) := by decide +kernel
theorem dX2_init_5 : decode cX2_init 5 = .ok (.bipush 9, 2) := by decide +kernel
theorem dX2_init_7 : decode cX2_init 7 = .ok (.newarray .int, 2) := by decide +kernel
theorem dX2_init_9 : decode cX2_init 9 = .ok (.putfield 9, 3) := by decide +kernel
theorem dX2_init_12 : decode cX2_init 12 = .ok (.return_, 1) := by decide +kernel
theorem dX3_init_0 : decode cX3_init 0 = .ok (.aload_n 0, 1) := by decide +kernel
theorem dX3_init_1 : decode cX3_init 1 = .ok (.invokespecial 3, 3) := by decide +kernel
theorem dX3_init_4 : decode cX3_init 4 = .ok (.aload_n 0, 1) := by decide +kernel
theorem dX3_init_5 : decode cX3_init 5 = .ok (.bipush 7, 2) := by decide +kernel
theorem dX3_init_7 : decode cX3_init 7 = .ok (.anewarray 9, 3) := by decide +kernel
theorem dX3_init_10 : decode cX3_init 10 = .ok (.putfield 11, 3) := by decide +kernel
theorem dX3_init_13 : decode cX3_init 13 = .ok (.aload_n 0, 1) := by decide +kernel
theorem dX3_init_14 : decode cX3_init 14 = .ok (.new 17, 3) := by decide +kernel
theorem dX3_init_17 : decode cX3_init 17 = .ok (.dup, 1) := by decide +kernel
theorem dX3_init_18 : decode cX3_init 18 = .ok (.invokespecial 19, 3) := by decide +kernel
theorem dX3_init_21 : decode cX3_init 21 = .ok (.putfield 20, 3) := by decide +kernel
theorem dX3_init_24 : decode cX3_init 24 = .ok (.iconst 0, 1) := by decide +kernel
theorem dX3_init_25 : decode cX3_init 25 = .ok (.istore_n 1, 1) := by decide +kernel
theorem dX3_init_26 : decode cX3_init 26 = .ok (.iload_n 1, 1) := by decide +kernel
theorem dX3_init_27 : decode cX3_init 27 = .ok (.bipush 7, 2) := by decide +kernel
theorem dX3_init_29 : decode cX3_init 29 = .ok (.if_icmp .ge 22, 3) := by decide +kernel
theorem dX3_init_32 : decode cX3_init 32 = .ok (.aload_n 0, 1) := by decide +kernel
theorem dX3_init_33 : decode cX3_init 33 = .ok (.getfield 11, 3) := by decide +kernel
theorem dX3_init_36 : decode cX3_init 36 = .ok (.iload_n 1, 1) := by decide +kernel
theorem dX3_init_37 : decode cX3_init 37 = .ok (.new 9, 3) := by decide +kernel
theorem dX3_init_40 : decode cX3_init 40 = .ok (.dup, 1) := by decide +kernel
theorem dX3_init_41 : decode cX3_init 41 = .ok (.invokespecial 24, 3) := by decide +kernel
theorem dX3_init_44 : decode cX3_init 44 = .ok (.aastore, 1) := by decide +kernel
theorem dX3_init_45 : decode cX3_init 45 = .ok (.iinc 1 1, 3) := by decide +kernel
theorem dX3_init_48 : decode cX3_init 48 = .ok (.goto (-22), 3) := by decide +kernel
theorem dX3_init_51 : decode cX3_init 51 = .ok (.return_, 1) := by decide +kernel
theorem dX4_init_0 : decode cX4_init 0 = .ok (.aload_n 0, 1) := by decide +kernel
theorem dX4_init_1 : decode cX4_init 1 = .ok (.invokespecial 3, 3) := by decide +kernel
theorem dX4_init_4 : decode cX4_init 4 = .ok (.aload_n 0, 1) := by decide +kernel
theorem dX4_init_5 : decode cX4_init 5 = .ok (.bipush 10, 2) := by decide +kernel
theorem dX4_init_7 : decode cX4_init 7 = .ok (.newarray .int, 2) := by decide +kernel
theorem dX4_init_9 : decode cX4_init 9 = .ok (.putfield 9, 3) := by decide +kernel
theorem dX4_init_12 : decode cX4_init 12 = .ok (.aload_n 0, 1) := by decide +kernel
theorem dX4_init_13 : decode cX4_init 13 = .ok (.bipush 10, 2) := by decide +kernel
theorem dX4_init_15 : decode cX4_init 15 = .ok (.anewarray 15, 3) := by decide +kernel
theorem dX4_init_18 : decode cX4_init 18 = .ok (.putfield 17, 3) := by decide +kernel
theorem dX4_init_21 : decode cX4_init 21 = .ok (.iconst 0, 1) := by decide +kernel
theorem dX4_init_22 : decode cX4_init 22 = .ok (.istore_n 1, 1) := by decide +kernel
theorem dX4_init_23 : decode cX4_init 23 = .ok (.iload_n 1, 1) := by decide +kernel
theorem dX4_init_24 : decode cX4_init 24 = .ok (.bipush 10, 2) := by decide +kernel
theorem dX4_init_26 : decode cX4_init 26 = .ok (.if_icmp .ge 22, 3) := by decide +kernel
theorem dX4_init_29 : decode cX4_init 29 = .ok (.aload_n 0, 1) := by decide +kernel
theorem dX4_init_30 : decode cX4_init 30 = .ok (.getfield 17, 3) := by decide +kernel
theorem dX4_init_33 : decode cX4_init 33 = .ok (.iload_n 1, 1) := by decide +kernel
theorem dX4_init_34 : decode cX4_init 34 = .ok (.new 15, 3) := by decide +kernel
theorem dX4_init_37 : decode cX4_init 37 = .ok (.dup, 1) := by decide +kernel
theorem dX4_init_38 : decode cX4_init 38 = .ok (.invokespecial 21, 3) := by decide +kernel
theorem dX4_init_41 : decode cX4_init 41 = .ok (.aastore, 1) := by decide +kernel
theorem dX4_init_42 : decode cX4_init 42 = .ok (.iinc 1 1, 3) := by decide +kernel
theorem dX4_init_45 : decode cX4_init 45 = .ok (.goto (-22), 3) := by decide +kernel
theorem dX4_init_48 : decode cX4_init 48 = .ok (.return_, 1) := by decide +kernel
theorem dX5_init_0 : decode cX5_init 0 = .ok (.aload_n 0, 1) := by decide +kernel
theorem dX5_init_1 : decode cX5_init 1 = .ok (.invokespecial 3, 3) := by decide +kernel
theorem dX5_init_4 : decode cX5_init 4 = .ok (.aload_n 0, 1) := by decide +kernel
theorem dX5_init_5 : decode cX5_init 5 = .ok (.bipush 9, 2) := by decide +kernel
theorem dX5_init_7 : decode cX5_init 7 = .ok (.newarray .int, 2) := by decide +kernel
theorem dX5_init_9 : decode cX5_init 9 = .ok (.putfield 9, 3) := by decide +kernel
theorem dX5_init_12 : decode cX5_init 12 = .ok (.aload_n 0, 1) := by decide +kernel
theorem dX5_init_13 : decode cX5_init 13 = .ok (.bipush 9, 2) := by decide +kernel
theorem dX5_init_15 : decode cX5_init 15 = .ok (.newarray .int, 2) := by decide +kernel
theorem dX5_init_17 : decode cX5_init 17 = .ok (.putfield 15, 3) := by decide +kernel
theorem dX5_init_20 : decode cX5_init 20 = .ok (.aload_n 0, 1) := by decide +kernel
theorem dX5_init_21 : decode cX5_init 21 = .ok (.bipush 81, 2) := by decide +kernel
theorem dX5_init_23 : decode cX5_init 23 = .ok (.newarray .int, 2) := by decide +kernel
theorem dX5_init_25 : decode cX5_init 25 = .ok (.putfield 18, 3) := by decide +kernel
theorem dX5_init_28 : decode cX5_init 28 = .ok (.return_, 1) := by decide +kernel
theorem dX7_blame_0 : decode cX7_blame 0 = .ok (.aload_n 0, 1) := by decide +kernel
theorem dX7_blame_1 : decode cX7_blame 1 = .ok (.iload_n 1, 1) := by decide +kernel
theorem dX7_blame_2 : decode cX7_blame 2 = .ok (.putfield 26, 3) := by decide +kernel
theorem dX7_blame_5 : decode cX7_blame 5 = .ok (.aload_n 0, 1) := by decide +kernel
theorem dX7_blame_6 : decode cX7_blame 6 = .ok (.aload_n 0, 1) := by decide +kernel
theorem dX7_blame_7 : decode cX7_blame 7 = .ok (.getfield 101, 3) := by decide +kernel
theorem dX7_blame_10 : decode cX7_blame 10 = .ok (.putfield 18, 3) := by decide +kernel
theorem dX7_blame_13 : decode cX7_blame 13 = .ok (.iconst 0, 1) := by decide +kernel
theorem dX7_blame_14 : decode cX7_blame 14 = .ok (.ireturn, 1) := by decide +kernel
theorem dX7_init_0 : decode cX7_init 0 = .ok (.aload_n 0, 1) := by decide +kernel
theorem dX7_init_1 : decode cX7_init 1 = .ok (.invokespecial 3, 3) := by decide +kernel
theorem dX7_init_4 : decode cX7_init 4 = .ok (.aload_n 0, 1) := by decide +kernel
theorem dX7_init_5 : decode cX7_init 5 = .ok (.new 9, 3) := by decide +kernel
theorem dX7_init_8 : decode cX7_init 8 = .ok (.dup, 1) := by decide +kernel
theorem dX7_init_9 : decode cX7_init 9 = .ok (.invokespecial 11, 3) := by decide +kernel
theorem dX7_init_12 : decode cX7_init 12 = .ok (.putfield 12, 3) := by decide +kernel
theorem dX7_init_15 : decode cX7_init 15 = .ok (.aload_n 0, 1) := by decide +kernel
theorem dX7_init_16 : decode cX7_init 16 = .ok (.iconst (-1), 1) := by decide +kernel
theorem dX7_init_17 : decode cX7_init 17 = .ok (.putfield 18, 3) := by decide +kernel
theorem dX7_init_20 : decode cX7_init 20 = .ok (.aload_n 0, 1) := by decide +kernel
theorem dX7_init_21 : decode cX7_init 21 = .ok (.aload_n 1, 1) := by decide +kernel
theorem dX7_init_22 : decode cX7_init 22 = .ok (.putfield 22, 3) := by decide +kernel
theorem dX7_init_25 : decode cX7_init 25 = .ok (.return_, 1) := by decide +kernel
theorem dX7_isWord_0 : decode cX7_isWord 0 = .ok (.aload_n 0, 1) := by decide +kernel
theorem dX7_isWord_1 : decode cX7_isWord 1 = .ok (.getfield 93, 3) := by decide +kernel
theorem dX7_isWord_4 : decode cX7_isWord 4 = .ok (.iconst 1, 1) := by decide +kernel
theorem dX7_isWord_5 : decode cX7_isWord 5 = .ok (.if_icmp .ne 19, 3) := by decide +kernel
theorem dX7_isWord_24 : decode cX7_isWord 24 = .ok (.iconst 0, 1) := by decide +kernel
theorem dX7_isWord_25 : decode cX7_isWord 25 = .ok (.ireturn, 1) := by decide +kernel
theorem dX7_kindOf_0 : decode cX7_kindOf 0 = .ok (.iload_n 0, 1) := by decide +kernel
theorem dX7_kindOf_1 : decode cX7_kindOf 1 = .ok (.iconst (-1), 1) := by decide +kernel
theorem dX7_kindOf_2 : decode cX7_kindOf 2 = .ok (.if_icmp .ne 5, 3) := by decide +kernel
theorem dX7_kindOf_5 : decode cX7_kindOf 5 = .ok (.iconst 0, 1) := by decide +kernel
theorem dX7_kindOf_6 : decode cX7_kindOf 6 = .ok (.ireturn, 1) := by decide +kernel
theorem dX7_readAll_0 : decode cX7_readAll 0 = .ok (.aload_n 0, 1) := by decide +kernel
theorem dX7_readAll_1 : decode cX7_readAll 1 = .ok (.iconst 0, 1) := by decide +kernel
theorem dX7_readAll_2 : decode cX7_readAll 2 = .ok (.putfield 26, 3) := by decide +kernel
theorem dX7_readAll_5 : decode cX7_readAll 5 = .ok (.aload_n 0, 1) := by decide +kernel
theorem dX7_readAll_6 : decode cX7_readAll 6 = .ok (.iconst (-1), 1) := by decide +kernel
theorem dX7_readAll_7 : decode cX7_readAll 7 = .ok (.putfield 18, 3) := by decide +kernel
theorem dX7_readAll_10 : decode cX7_readAll 10 = .ok (.aload_n 0, 1) := by decide +kernel
theorem dX7_readAll_11 : decode cX7_readAll 11 = .ok (.iconst 0, 1) := by decide +kernel
theorem dX7_readAll_12 : decode cX7_readAll 12 = .ok (.putfield 29, 3) := by decide +kernel
theorem dX7_readAll_15 : decode cX7_readAll 15 = .ok (.aload_n 0, 1) := by decide +kernel
theorem dX7_readAll_16 : decode cX7_readAll 16 = .ok (.invokevirtual 32, 3) := by decide +kernel
theorem dX7_readAll_19 : decode cX7_readAll 19 = .ok (.aload_n 0, 1) := by decide +kernel
theorem dX7_readAll_20 : decode cX7_readAll 20 = .ok (.invokevirtual 35, 3) := by decide +kernel
theorem dX7_readAll_23 : decode cX7_readAll 23 = .ok (.ifCond .eq 21, 3) := by decide +kernel
theorem dX7_readAll_44 : decode cX7_readAll 44 = .ok (.iconst 0, 1) := by decide +kernel
theorem dX7_readAll_45 : decode cX7_readAll 45 = .ok (.ireturn, 1) := by decide +kernel
theorem dX7_readHead_0 : decode cX7_readHead 0 = .ok (.aload_n 0, 1) := by decide +kernel
theorem dX7_readHead_1 : decode cX7_readHead 1 = .ok (.ldc 45, 2) := by decide +kernel
theorem dX7_readHead_3 : decode cX7_readHead 3 = .ok (.invokevirtual 47, 3) := by decide +kernel
theorem dX7_readHead_6 : decode cX7_readHead 6 = .ok (.ifCond .ne 9, 3) := by decide +kernel
theorem dX7_readHead_9 : decode cX7_readHead 9 = .ok (.aload_n 0, 1) := by decide +kernel
theorem dX7_readHead_10 : decode cX7_readHead 10 = .ok (.iconst 1, 1) := by decide +kernel
theorem dX7_readHead_11 : decode cX7_readHead 11 = .ok (.invokevirtual 51, 3) := by decide +kernel
theorem dX7_readHead_14 : decode cX7_readHead 14 = .ok (.ireturn, 1) := by decide +kernel
theorem dX7_step_0 : decode cX7_step 0 = .ok (.aload_n 0, 1) := by decide +kernel
theorem dX7_step_1 : decode cX7_step 1 = .ok (.aload_n 0, 1) := by decide +kernel
theorem dX7_step_2 : decode cX7_step 2 = .ok (.getfield 29, 3) := by decide +kernel
theorem dX7_step_5 : decode cX7_step 5 = .ok (.putfield 101, 3) := by decide +kernel
theorem dX7_step_8 : decode cX7_step 8 = .ok (.aload_n 0, 1) := by decide +kernel
theorem dX7_step_9 : decode cX7_step 9 = .ok (.getfield 101, 3) := by decide +kernel
theorem dX7_step_12 : decode cX7_step 12 = .ok (.aload_n 0, 1) := by decide +kernel
theorem dX7_step_13 : decode cX7_step 13 = .ok (.getfield 22, 3) := by decide +kernel
theorem dX7_step_16 : decode cX7_step 16 = .ok (.getfield 138, 3) := by decide +kernel
theorem dX7_step_19 : decode cX7_step 19 = .ok (.if_icmp .ge 33, 3) := by decide +kernel
theorem dX7_step_52 : decode cX7_step 52 = .ok (.aload_n 0, 1) := by decide +kernel
theorem dX7_step_53 : decode cX7_step 53 = .ok (.aload_n 0, 1) := by decide +kernel
theorem dX7_step_54 : decode cX7_step 54 = .ok (.getfield 22, 3) := by decide +kernel
theorem dX7_step_57 : decode cX7_step 57 = .ok (.aload_n 0, 1) := by decide +kernel
theorem dX7_step_58 : decode cX7_step 58 = .ok (.getfield 101, 3) := by decide +kernel
theorem dX7_step_61 : decode cX7_step 61 = .ok (.invokevirtual 107, 3) := by decide +kernel
theorem dX7_step_64 : decode cX7_step 64 = .ok (.invokestatic 144, 3) := by decide +kernel
theorem dX7_step_67 : decode cX7_step 67 = .ok (.putfield 93, 3) := by decide +kernel
theorem dX7_step_70 : decode cX7_step 70 = .ok (.aload_n 0, 1) := by decide +kernel
theorem dX7_step_71 : decode cX7_step 71 = .ok (.aload_n 0, 1) := by decide +kernel
theorem dX7_step_72 : decode cX7_step 72 = .ok (.getfield 93, 3) := by decide +kernel
theorem dX7_step_75 : decode cX7_step 75 = .ok (.ifCond .ne 10, 3) := by decide +kernel
theorem dX7_step_78 : decode cX7_step 78 = .ok (.aload_n 0, 1) := by decide +kernel
theorem dX7_step_79 : decode cX7_step 79 = .ok (.getfield 101, 3) := by decide +kernel
theorem dX7_step_82 : decode cX7_step 82 = .ok (.goto 9, 3) := by decide +kernel
theorem dX7_step_91 : decode cX7_step 91 = .ok (.putfield 29, 3) := by decide +kernel
theorem dX7_step_94 : decode cX7_step 94 = .ok (.aload_n 0, 1) := by decide +kernel
theorem dX7_step_95 : decode cX7_step 95 = .ok (.getfield 93, 3) := by decide +kernel
theorem dX7_step_98 : decode cX7_step 98 = .ok (.iconst 1, 1) := by decide +kernel
theorem dX7_step_99 : decode cX7_step 99 = .ok (.if_icmp .eq 11, 3) := by decide +kernel
theorem dX7_step_102 : decode cX7_step 102 = .ok (.aload_n 0, 1) := by decide +kernel
theorem dX7_step_103 : decode cX7_step 103 = .ok (.getfield 93, 3) := by decide +kernel
theorem dX7_step_106 : decode cX7_step 106 = .ok (.iconst 2, 1) := by decide +kernel
theorem dX7_step_107 : decode cX7_step 107 = .ok (.if_icmp .ne 51, 3) := by decide +kernel
theorem dX7_step_158 : decode cX7_step 158 = .ok (.return_, 1) := by decide +kernel
theorem dX9_init_0 : decode cX9_init 0 = .ok (.aload_n 0, 1) := by decide +kernel
theorem dX9_init_1 : decode cX9_init 1 = .ok (.invokespecial 3, 3) := by decide +kernel
theorem dX9_init_4 : decode cX9_init 4 = .ok (.aload_n 0, 1) := by decide +kernel
theorem dX9_init_5 : decode cX9_init 5 = .ok (.sipush 4608, 3) := by decide +kernel
theorem dX9_init_8 : decode cX9_init 8 = .ok (.newarray .int, 2) := by decide +kernel
theorem dX9_init_10 : decode cX9_init 10 = .ok (.putfield 11, 3) := by decide +kernel
theorem dX9_init_13 : decode cX9_init 13 = .ok (.aload_n 0, 1) := by decide +kernel
theorem dX9_init_14 : decode cX9_init 14 = .ok (.sipush 4608, 3) := by decide +kernel
theorem dX9_init_17 : decode cX9_init 17 = .ok (.newarray .int, 2) := by decide +kernel
theorem dX9_init_19 : decode cX9_init 19 = .ok (.putfield 15, 3) := by decide +kernel
theorem dX9_init_22 : decode cX9_init 22 = .ok (.aload_n 0, 1) := by decide +kernel
theorem dX9_init_23 : decode cX9_init 23 = .ok (.sipush 4608, 3) := by decide +kernel
theorem dX9_init_26 : decode cX9_init 26 = .ok (.newarray .int, 2) := by decide +kernel
theorem dX9_init_28 : decode cX9_init 28 = .ok (.putfield 18, 3) := by decide +kernel
theorem dX9_init_31 : decode cX9_init 31 = .ok (.aload_n 0, 1) := by decide +kernel
theorem dX9_init_32 : decode cX9_init 32 = .ok (.sipush 512, 3) := by decide +kernel
theorem dX9_init_35 : decode cX9_init 35 = .ok (.newarray .int, 2) := by decide +kernel
theorem dX9_init_37 : decode cX9_init 37 = .ok (.putfield 21, 3) := by decide +kernel
theorem dX9_init_40 : decode cX9_init 40 = .ok (.aload_n 0, 1) := by decide +kernel
theorem dX9_init_41 : decode cX9_init 41 = .ok (.sipush 512, 3) := by decide +kernel
theorem dX9_init_44 : decode cX9_init 44 = .ok (.newarray .int, 2) := by decide +kernel
theorem dX9_init_46 : decode cX9_init 46 = .ok (.putfield 24, 3) := by decide +kernel
theorem dX9_init_49 : decode cX9_init 49 = .ok (.return_, 1) := by decide +kernel
end
section
/-! the constructors (printed by wip/p1/gen1.py): the cells that they make stand behind one another -/
set_option maxHeartbeats 4000000 in
set_option maxRecDepth 100000 in
theorem ct_X5_init (G : xG) (P : xMem) (L : Nat) (hP : P.length = L) (M : xMem) (hM : M = P ++ [.inr (5, [.int 0, .int 0, .null, .null, .null])]) : xC G mX5_init 0 3 99 [.ref L] M (fun v M2 => v = none ∧ M2 = (P ++ [.inr (5, [.int 0, .int 0, .ref (L + 1), .ref (L + 2), .ref (L + 3)]), xz 9, xz 9, xz 81])) := by
  subst hM
  refine xC.of (by decide) (Nat.le_of_ble_eq_true rfl) ?_
  show xW _ _ _ _ 0 [(0, .ref L)] [] _ 0 0
  refine xi_aload_n 0 dX5_init_0 rfl ?_
  refine xi_obj dX5_init_1 w_60 w_28 w_obj (Nat.le_of_ble_eq_true rfl) (Nat.le_of_ble_eq_true rfl) (Nat.le_of_ble_eq_true rfl) ?_
  refine xi_aload_n 0 dX5_init_4 rfl ?_
  refine xi_bipush (v := 9) dX5_init_5 (by decide) ?_
  refine xi_newI (i := (L + 1)) (N := 9) (M' := (P ++ [.inr (5, [.int 0, .int 0, .null, .null, .null]), xz 9])) dX5_init_7 w_95 (by decide) (by decide) (Nat.le_of_ble_eq_true rfl) (xpl hP rfl) (List.append_assoc _ _ _) (Nat.le_of_ble_eq_true rfl) (Nat.le_of_ble_eq_true rfl) ?_
  refine xi_putF (f := 2) (ty := (.array .int)) (M' := (P ++ [.inr (5, [.int 0, .int 0, .ref (L + 1), .null, .null]), xz 9])) dX5_init_9 (xpg0 hP rfl) rfl ok_5 (by decide) w_72 rfl rfl rfl pf__I (fun _ h => by cases h) rfl rfl (Nat.le_of_ble_eq_true rfl) (xps0 hP) ?_
  refine xi_aload_n 0 dX5_init_12 rfl ?_
  refine xi_bipush (v := 9) dX5_init_13 (by decide) ?_
  refine xi_newI (i := (L + 2)) (N := 9) (M' := (P ++ [.inr (5, [.int 0, .int 0, .ref (L + 1), .null, .null]), xz 9, xz 9])) dX5_init_15 w_95 (by decide) (by decide) (Nat.le_of_ble_eq_true rfl) (xpl hP rfl) (List.append_assoc _ _ _) (Nat.le_of_ble_eq_true rfl) (Nat.le_of_ble_eq_true rfl) ?_
  refine xi_putF (f := 3) (ty := (.array .int)) (M' := (P ++ [.inr (5, [.int 0, .int 0, .ref (L + 1), .ref (L + 2), .null]), xz 9, xz 9])) dX5_init_17 (xpg0 hP rfl) rfl ok_5 (by decide) w_78 rfl rfl rfl pf__I (fun _ h => by cases h) rfl rfl (Nat.le_of_ble_eq_true rfl) (xps0 hP) ?_
  refine xi_aload_n 0 dX5_init_20 rfl ?_
  refine xi_bipush (v := 81) dX5_init_21 (by decide) ?_
  refine xi_newI (i := (L + 3)) (N := 81) (M' := (P ++ [.inr (5, [.int 0, .int 0, .ref (L + 1), .ref (L + 2), .null]), xz 9, xz 9, xz 81])) dX5_init_23 w_95 (by decide) (by decide) (Nat.le_of_ble_eq_true rfl) (xpl hP rfl) (List.append_assoc _ _ _) (Nat.le_of_ble_eq_true rfl) (Nat.le_of_ble_eq_true rfl) ?_
  refine xi_putF (f := 4) (ty := (.array .int)) (M' := (P ++ [.inr (5, [.int 0, .int 0, .ref (L + 1), .ref (L + 2), .ref (L + 3)]), xz 9, xz 9, xz 81])) dX5_init_25 (xpg0 hP rfl) rfl ok_5 (by decide) w_83 rfl rfl rfl pf__I (fun _ h => by cases h) rfl rfl (Nat.le_of_ble_eq_true rfl) (xps0 hP) ?_
  exact xi_vret dX5_init_28 rfl (Nat.le_of_ble_eq_true rfl) (Nat.le_of_ble_eq_true rfl) ⟨rfl, rfl⟩
set_option maxHeartbeats 4000000 in
set_option maxRecDepth 100000 in
theorem ct_X1_init_400 (G : xG) (P : xMem) (L : Nat) (hP : P.length = L) (M : xMem) (hM : M = P ++ [.inr (1, [.null, .int 0])]) : xC G mX1_init 0 1 400 [.ref L, .int 400] M (fun v M2 => v = none ∧ M2 = (P ++ [.inr (1, [.ref (L + 1), .int 0]), xzb 400])) := by
  subst hM
  refine xC.of (by decide) (Nat.le_of_ble_eq_true rfl) ?_
  show xW _ _ _ _ 0 [(0, .ref L), (1, .int 400)] [] _ 0 0
  refine xi_aload_n 0 dX1_init_0 rfl ?_
  refine xi_obj dX1_init_1 w_35 w_28 w_obj (Nat.le_of_ble_eq_true rfl) (Nat.le_of_ble_eq_true rfl) (Nat.le_of_ble_eq_true rfl) ?_
  refine xi_aload_n 0 dX1_init_4 rfl ?_
  refine xi_iconst (v := 0) dX1_init_5 (by decide) ?_
  refine xi_iload_n 1 dX1_init_6 rfl ?_
  refine xi_max (v := 400) dX1_init_7 w_36 w_37 w_3 w_mmax (Nat.le_of_ble_eq_true rfl) (Nat.le_of_ble_eq_true rfl) (Nat.le_of_ble_eq_true rfl) (Nat.le_of_ble_eq_true rfl) (Nat.le_of_ble_eq_true rfl) (by decide) ?_
  refine xi_newB (i := (L + 1)) (N := 400) (M' := (P ++ [.inr (1, [.null, .int 0]), xzb 400])) dX1_init_10 w_48 (by decide) (by decide) (Nat.le_of_ble_eq_true rfl) (xpl hP rfl) (List.append_assoc _ _ _) (Nat.le_of_ble_eq_true rfl) (Nat.le_of_ble_eq_true rfl) ?_
  refine xi_putF (f := 0) (ty := (.array .byte)) (M' := (P ++ [.inr (1, [.ref (L + 1), .int 0]), xzb 400])) dX1_init_12 (xpg0 hP rfl) rfl ok_1 (by decide) w_39 rfl rfl rfl pf__B (fun _ h => by cases h) rfl rfl (Nat.le_of_ble_eq_true rfl) (xps0 hP) ?_
  exact xi_vret dX1_init_15 rfl (Nat.le_of_ble_eq_true rfl) (Nat.le_of_ble_eq_true rfl) ⟨rfl, rfl⟩
set_option maxHeartbeats 4000000 in
set_option maxRecDepth 100000 in
theorem ct_X1_init_256 (G : xG) (P : xMem) (L : Nat) (hP : P.length = L) (M : xMem) (hM : M = P ++ [.inr (1, [.null, .int 0])]) : xC G mX1_init 0 1 256 [.ref L, .int 256] M (fun v M2 => v = none ∧ M2 = (P ++ [.inr (1, [.ref (L + 1), .int 0]), xzb 256])) := by
  subst hM
  refine xC.of (by decide) (Nat.le_of_ble_eq_true rfl) ?_
  show xW _ _ _ _ 0 [(0, .ref L), (1, .int 256)] [] _ 0 0
  refine xi_aload_n 0 dX1_init_0 rfl ?_
  refine xi_obj dX1_init_1 w_35 w_28 w_obj (Nat.le_of_ble_eq_true rfl) (Nat.le_of_ble_eq_true rfl) (Nat.le_of_ble_eq_true rfl) ?_
  refine xi_aload_n 0 dX1_init_4 rfl ?_
  refine xi_iconst (v := 0) dX1_init_5 (by decide) ?_
  refine xi_iload_n 1 dX1_init_6 rfl ?_
  refine xi_max (v := 256) dX1_init_7 w_36 w_37 w_3 w_mmax (Nat.le_of_ble_eq_true rfl) (Nat.le_of_ble_eq_true rfl) (Nat.le_of_ble_eq_true rfl) (Nat.le_of_ble_eq_true rfl) (Nat.le_of_ble_eq_true rfl) (by decide) ?_
  refine xi_newB (i := (L + 1)) (N := 256) (M' := (P ++ [.inr (1, [.null, .int 0]), xzb 256])) dX1_init_10 w_48 (by decide) (by decide) (Nat.le_of_ble_eq_true rfl) (xpl hP rfl) (List.append_assoc _ _ _) (Nat.le_of_ble_eq_true rfl) (Nat.le_of_ble_eq_true rfl) ?_
  refine xi_putF (f := 0) (ty := (.array .byte)) (M' := (P ++ [.inr (1, [.ref (L + 1), .int 0]), xzb 256])) dX1_init_12 (xpg0 hP rfl) rfl ok_1 (by decide) w_39 rfl rfl rfl pf__B (fun _ h => by cases h) rfl rfl (Nat.le_of_ble_eq_true rfl) (xps0 hP) ?_
  exact xi_vret dX1_init_15 rfl (Nat.le_of_ble_eq_true rfl) (Nat.le_of_ble_eq_true rfl) ⟨rfl, rfl⟩
set_option maxHeartbeats 4000000 in
set_option maxRecDepth 100000 in
theorem ct_X7_init (G : xG) (P : xMem) (L : Nat) (hP : P.length = L) (M : xMem) (hM : M = P ++ [.inr (6, [.null, .int 0, .int 0, .null, .int 0, .int 0, .int 0, .int 0])]) (a1 : Nat) : xC G mX7_init 1 4 104 [.ref L, .ref a1] M (fun v M2 => v = none ∧ M2 = (P ++ [.inr (6, [.ref (L + 1), .int 0, .int (-1), .ref a1, .int 0, .int 0, .int 0, .int 0]), .inr (5, [.int 0, .int 0, .ref (L + 2), .ref (L + 3), .ref (L + 4)]), xz 9, xz 9, xz 81])) := by
  subst hM
  refine xC.of (by decide) (Nat.le_of_ble_eq_true rfl) ?_
  show xW _ _ _ _ 0 [(0, .ref L), (1, .ref a1)] [] _ 0 0
  refine xi_aload_n 0 dX7_init_0 rfl ?_
  refine xi_obj dX7_init_1 w_54 w_28 w_obj (Nat.le_of_ble_eq_true rfl) (Nat.le_of_ble_eq_true rfl) (Nat.le_of_ble_eq_true rfl) ?_
  refine xi_aload_n 0 dX7_init_4 rfl ?_
  refine xi_new (i := (L + 1)) (ci := 5) (fs := [.int 0, .int 0, .null, .null, .null]) (M' := (P ++ [.inr (6, [.null, .int 0, .int 0, .null, .int 0, .int 0, .int 0, .int 0]), .inr (5, [.int 0, .int 0, .null, .null, .null])])) dX7_init_5 rfl ok_5 w_55 w_56 w_5 nf_5 rfl (xpl hP rfl) (List.append_assoc _ _ _) (Nat.le_of_ble_eq_true rfl) (Nat.le_of_ble_eq_true rfl) ?_
  refine xi_dup dX7_init_8 rfl ?_
  refine xi_callIN (as := []) (rest := [.ref (L + 1), .ref L]) dX7_init_9 (ct_X5_init G (P ++ [.inr (6, [.null, .int 0, .int 0, .null, .int 0, .int 0, .int 0, .int 0])]) (L + 1) (xpl hP rfl) _ (List.append_assoc P [.inr (6, [.null, .int 0, .int 0, .null, .int 0, .int 0, .int 0, .int 0])] _).symm ) mkX5_init w_58 wn_57 rfl rfl rfl rfl (Nat.le_of_ble_eq_true rfl) (Nat.le_of_ble_eq_true rfl) (Nat.le_of_ble_eq_true rfl) (Nat.le_of_ble_eq_true rfl) (Nat.le_of_ble_eq_true rfl) ?_
  intro v M2 hq
  obtain ⟨rfl, hM2⟩ := hq
  rw [List.append_assoc] at hM2
  subst hM2
  show xW _ _ _ _ 12 _ [.ref (L + 1), .ref L] (P ++ [.inr (6, [.null, .int 0, .int 0, .null, .int 0, .int 0, .int 0, .int 0]), .inr (5, [.int 0, .int 0, .ref (L + 2), .ref (L + 3), .ref (L + 4)]), xz 9, xz 9, xz 81]) _ _
  refine xi_putF (f := 0) (ty := (.object "ThinRow$Net")) (M' := (P ++ [.inr (6, [.ref (L + 1), .int 0, .int 0, .null, .int 0, .int 0, .int 0, .int 0]), .inr (5, [.int 0, .int 0, .ref (L + 2), .ref (L + 3), .ref (L + 4)]), xz 9, xz 9, xz 81])) dX7_init_12 (xpg0 hP rfl) rfl ok_6 (by decide) w_96 rfl rfl rfl pf_LThinRow_Net_ (fun _ h => by cases h) rfl rfl (Nat.le_of_ble_eq_true rfl) (xps0 hP) ?_
  refine xi_aload_n 0 dX7_init_15 rfl ?_
  refine xi_iconst (v := (-1)) dX7_init_16 (by decide) ?_
  refine xi_put (f := 2) (ty := .int) (M' := (P ++ [.inr (6, [.ref (L + 1), .int 0, .int (-1), .null, .int 0, .int 0, .int 0, .int 0]), .inr (5, [.int 0, .int 0, .ref (L + 2), .ref (L + 3), .ref (L + 4)]), xz 9, xz 9, xz 81])) dX7_init_17 (xpg0 hP rfl) rfl ok_6 (by decide) w_100 rfl pf_I (fun _ h => by cases h) rfl rfl (Nat.le_of_ble_eq_true rfl) (xps0 hP) ?_
  refine xi_aload_n 0 dX7_init_20 rfl ?_
  refine xi_aload_n 1 dX7_init_21 rfl ?_
  refine xi_putF (f := 3) (ty := (.object "ThinRow$Bytes")) (M' := (P ++ [.inr (6, [.ref (L + 1), .int 0, .int (-1), .ref a1, .int 0, .int 0, .int 0, .int 0]), .inr (5, [.int 0, .int 0, .ref (L + 2), .ref (L + 3), .ref (L + 4)]), xz 9, xz 9, xz 81])) dX7_init_22 (xpg0 hP rfl) rfl ok_6 (by decide) w_102 rfl rfl rfl pf_LThinRow_Bytes_ (fun _ h => by cases h) rfl rfl (Nat.le_of_ble_eq_true rfl) (xps0 hP) ?_
  exact xi_vret dX7_init_25 rfl (Nat.le_of_ble_eq_true rfl) (Nat.le_of_ble_eq_true rfl) ⟨rfl, rfl⟩
set_option maxHeartbeats 4000000 in
set_option maxRecDepth 100000 in
theorem ct_X2_init (G : xG) (P : xMem) (L : Nat) (hP : P.length = L) (M : xMem) (hM : M = P ++ [.inr (2, [.int 0, .int 0, .int 0, .int 0, .null])]) : xC G mX2_init 0 1 9 [.ref L] M (fun v M2 => v = none ∧ M2 = (P ++ [.inr (2, [.int 0, .int 0, .int 0, .int 0, .ref (L + 1)]), xz 9])) := by
  subst hM
  refine xC.of (by decide) (Nat.le_of_ble_eq_true rfl) ?_
  show xW _ _ _ _ 0 [(0, .ref L)] [] _ 0 0
  refine xi_aload_n 0 dX2_init_0 rfl ?_
  refine xi_obj dX2_init_1 w_142 w_28 w_obj (Nat.le_of_ble_eq_true rfl) (Nat.le_of_ble_eq_true rfl) (Nat.le_of_ble_eq_true rfl) ?_
  refine xi_aload_n 0 dX2_init_4 rfl ?_
  refine xi_bipush (v := 9) dX2_init_5 (by decide) ?_
  refine xi_newI (i := (L + 1)) (N := 9) (M' := (P ++ [.inr (2, [.int 0, .int 0, .int 0, .int 0, .null]), xz 9])) dX2_init_7 w_95 (by decide) (by decide) (Nat.le_of_ble_eq_true rfl) (xpl hP rfl) (List.append_assoc _ _ _) (Nat.le_of_ble_eq_true rfl) (Nat.le_of_ble_eq_true rfl) ?_
  refine xi_putF (f := 4) (ty := (.array .int)) (M' := (P ++ [.inr (2, [.int 0, .int 0, .int 0, .int 0, .ref (L + 1)]), xz 9])) dX2_init_9 (xpg0 hP rfl) rfl ok_2 (by decide) w_154 rfl rfl rfl pf__I (fun _ h => by cases h) rfl rfl (Nat.le_of_ble_eq_true rfl) (xps0 hP) ?_
  exact xi_vret dX2_init_12 rfl (Nat.le_of_ble_eq_true rfl) (Nat.le_of_ble_eq_true rfl) ⟨rfl, rfl⟩
set_option maxHeartbeats 4000000 in
set_option maxRecDepth 100000 in
theorem ct_X3_init (G : xG) (P : xMem) (L : Nat) (hP : P.length = L) (M : xMem) (hM : M = P ++ [.inr (3, [.null, .null])]) : xC G mX3_init 1 19 209 [.ref L] M (fun v M2 => v = none ∧ M2 = (P ++ [.inr (3, [.ref (L + 1), .ref (L + 2)]), .inl (4, 7, .inr (.inr (.inr (.inr (va_up (va_up (va_up (va_up (va_up (va_up (va_up (fun _ => none) 0 (some (L + 6))) 1 (some (L + 8))) 2 (some (L + 10))) 3 (some (L + 12))) 4 (some (L + 14))) 5 (some (L + 16))) 6 (some (L + 18))))))), .inr (5, [.int 0, .int 0, .ref (L + 3), .ref (L + 4), .ref (L + 5)]), xz 9, xz 9, xz 81, .inr (2, [.int 0, .int 0, .int 0, .int 0, .ref (L + 7)]), xz 9, .inr (2, [.int 0, .int 0, .int 0, .int 0, .ref (L + 9)]), xz 9, .inr (2, [.int 0, .int 0, .int 0, .int 0, .ref (L + 11)]), xz 9, .inr (2, [.int 0, .int 0, .int 0, .int 0, .ref (L + 13)]), xz 9, .inr (2, [.int 0, .int 0, .int 0, .int 0, .ref (L + 15)]), xz 9, .inr (2, [.int 0, .int 0, .int 0, .int 0, .ref (L + 17)]), xz 9, .inr (2, [.int 0, .int 0, .int 0, .int 0, .ref (L + 19)]), xz 9])) := by
  subst hM
  refine xC.of (by decide) (Nat.le_of_ble_eq_true rfl) ?_
  show xW _ _ _ _ 0 [(0, .ref L)] [] _ 0 0
  refine xi_aload_n 0 dX3_init_0 rfl ?_
  refine xi_obj dX3_init_1 w_133 w_28 w_obj (Nat.le_of_ble_eq_true rfl) (Nat.le_of_ble_eq_true rfl) (Nat.le_of_ble_eq_true rfl) ?_
  refine xi_aload_n 0 dX3_init_4 rfl ?_
  refine xi_bipush (v := 7) dX3_init_5 (by decide) ?_
  refine xi_newQ (t := 4) (i := (L + 1)) (N := 7) (M' := (P ++ [.inr (3, [.null, .null]), .inl (4, 7, .inr (.inr (.inr (.inr (fun _ => none)))))])) dX3_init_7 w_134 ao_4 rfl (by decide) (by decide) (Nat.le_of_ble_eq_true rfl) (xpl hP rfl) (List.append_assoc _ _ _) (Nat.le_of_ble_eq_true rfl) (Nat.le_of_ble_eq_true rfl) ?_
  refine xi_putF (f := 0) (ty := (.array (.object "ThinRow$Finding"))) (M' := (P ++ [.inr (3, [.ref (L + 1), .null]), .inl (4, 7, .inr (.inr (.inr (.inr (fun _ => none)))))])) dX3_init_10 (xpg0 hP rfl) rfl ok_3 (by decide) w_169 rfl rfl rfl pf__LThinRow_Finding_ (fun _ h => by cases h) rfl rfl (Nat.le_of_ble_eq_true rfl) (xps0 hP) ?_
  refine xi_aload_n 0 dX3_init_13 rfl ?_
  refine xi_new (i := (L + 2)) (ci := 5) (fs := [.int 0, .int 0, .null, .null, .null]) (M' := (P ++ [.inr (3, [.ref (L + 1), .null]), .inl (4, 7, .inr (.inr (.inr (.inr (fun _ => none))))), .inr (5, [.int 0, .int 0, .null, .null, .null])])) dX3_init_14 rfl ok_5 w_136 w_56 w_5 nf_5 rfl (xpl hP rfl) (List.append_assoc _ _ _) (Nat.le_of_ble_eq_true rfl) (Nat.le_of_ble_eq_true rfl) ?_
  refine xi_dup dX3_init_17 rfl ?_
  refine xi_callIN (as := []) (rest := [.ref (L + 2), .ref L]) dX3_init_18 (ct_X5_init G (P ++ [.inr (3, [.ref (L + 1), .null]), .inl (4, 7, .inr (.inr (.inr (.inr (fun _ => none)))))]) (L + 2) (xpl hP rfl) _ (List.append_assoc P [.inr (3, [.ref (L + 1), .null]), .inl (4, 7, .inr (.inr (.inr (.inr (fun _ => none)))))] _).symm ) mkX5_init w_58 wn_137 rfl rfl rfl rfl (Nat.le_of_ble_eq_true rfl) (Nat.le_of_ble_eq_true rfl) (Nat.le_of_ble_eq_true rfl) (Nat.le_of_ble_eq_true rfl) (Nat.le_of_ble_eq_true rfl) ?_
  intro v M2 hq
  obtain ⟨rfl, hM2⟩ := hq
  rw [List.append_assoc] at hM2
  subst hM2
  show xW _ _ _ _ 21 _ [.ref (L + 2), .ref L] (P ++ [.inr (3, [.ref (L + 1), .null]), .inl (4, 7, .inr (.inr (.inr (.inr (fun _ => none))))), .inr (5, [.int 0, .int 0, .ref (L + 3), .ref (L + 4), .ref (L + 5)]), xz 9, xz 9, xz 81]) _ _
  refine xi_putF (f := 1) (ty := (.object "ThinRow$Net")) (M' := (P ++ [.inr (3, [.ref (L + 1), .ref (L + 2)]), .inl (4, 7, .inr (.inr (.inr (.inr (fun _ => none))))), .inr (5, [.int 0, .int 0, .ref (L + 3), .ref (L + 4), .ref (L + 5)]), xz 9, xz 9, xz 81])) dX3_init_21 (xpg0 hP rfl) rfl ok_3 (by decide) w_171 rfl rfl rfl pf_LThinRow_Net_ (fun _ h => by cases h) rfl rfl (Nat.le_of_ble_eq_true rfl) (xps0 hP) ?_
  refine xi_iconst (v := 0) dX3_init_24 (by decide) ?_
  refine xi_istore_n (lv' := [(1, .int 0), (0, .ref L)]) dX3_init_25 (by decide) rfl ?_
  refine xi_iload_n 0 dX3_init_26 rfl ?_
  refine xi_bipush (v := 7) dX3_init_27 (by decide) ?_
  refine xi_icmp_ge_f (tgt := 51) dX3_init_29 (by decide) (by decide) ?_
  refine xi_aload_n 1 dX3_init_32 rfl ?_
  refine xi_get (f := 0) dX3_init_33 (xpg0 hP rfl) rfl ok_3 (by decide) w_169 rfl ?_
  refine xi_iload_n 0 dX3_init_36 rfl ?_
  refine xi_new (i := (L + 6)) (ci := 2) (fs := [.int 0, .int 0, .int 0, .int 0, .null]) (M' := (P ++ [.inr (3, [.ref (L + 1), .ref (L + 2)]), .inl (4, 7, .inr (.inr (.inr (.inr (fun _ => none))))), .inr (5, [.int 0, .int 0, .ref (L + 3), .ref (L + 4), .ref (L + 5)]), xz 9, xz 9, xz 81, .inr (2, [.int 0, .int 0, .int 0, .int 0, .null])])) dX3_init_37 rfl ok_2 w_134 w_138 w_7 nf_2 rfl (xpl hP rfl) (List.append_assoc _ _ _) (Nat.le_of_ble_eq_true rfl) (Nat.le_of_ble_eq_true rfl) ?_
  refine xi_dup dX3_init_40 rfl ?_
  refine xi_callIN (as := []) (rest := [.ref (L + 6), .int 0, .ref (L + 1)]) dX3_init_41 (ct_X2_init G (P ++ [.inr (3, [.ref (L + 1), .ref (L + 2)]), .inl (4, 7, .inr (.inr (.inr (.inr (fun _ => none))))), .inr (5, [.int 0, .int 0, .ref (L + 3), .ref (L + 4), .ref (L + 5)]), xz 9, xz 9, xz 81]) (L + 6) (xpl hP rfl) _ (List.append_assoc P [.inr (3, [.ref (L + 1), .ref (L + 2)]), .inl (4, 7, .inr (.inr (.inr (.inr (fun _ => none))))), .inr (5, [.int 0, .int 0, .ref (L + 3), .ref (L + 4), .ref (L + 5)]), xz 9, xz 9, xz 81] _).symm ) mkX2_init w_140 wn_139 rfl rfl rfl rfl (Nat.le_of_ble_eq_true rfl) (Nat.le_of_ble_eq_true rfl) (Nat.le_of_ble_eq_true rfl) (Nat.le_of_ble_eq_true rfl) (Nat.le_of_ble_eq_true rfl) ?_
  intro v M2 hq
  obtain ⟨rfl, hM2⟩ := hq
  rw [List.append_assoc] at hM2
  subst hM2
  show xW _ _ _ _ 44 _ [.ref (L + 6), .int 0, .ref (L + 1)] (P ++ [.inr (3, [.ref (L + 1), .ref (L + 2)]), .inl (4, 7, .inr (.inr (.inr (.inr (fun _ => none))))), .inr (5, [.int 0, .int 0, .ref (L + 3), .ref (L + 4), .ref (L + 5)]), xz 9, xz 9, xz 81, .inr (2, [.int 0, .int 0, .int 0, .int 0, .ref (L + 7)]), xz 9]) _ _
  refine xi_aastore (M' := (P ++ [.inr (3, [.ref (L + 1), .ref (L + 2)]), .inl (4, 7, .inr (.inr (.inr (.inr (va_up (fun _ => none) 0 (some (L + 6))))))), .inr (5, [.int 0, .int 0, .ref (L + 3), .ref (L + 4), .ref (L + 5)]), xz 9, xz 9, xz 81, .inr (2, [.int 0, .int 0, .int 0, .int 0, .ref (L + 7)]), xz 9])) dX3_init_44 (xpg hP rfl) rfl (xpg hP rfl) rfl (by unfold vp_in; decide) (xps hP) ?_
  refine xi_iinc (v := 1) (lv' := [(1, .int 1), (0, .ref L)]) 0 dX3_init_45 rfl (by decide) (by decide) rfl ?_
  refine xi_goto (tgt := 26) dX3_init_48 (by decide) ?_
  refine xi_iload_n 0 dX3_init_26 rfl ?_
  refine xi_bipush (v := 7) dX3_init_27 (by decide) ?_
  refine xi_icmp_ge_f (tgt := 51) dX3_init_29 (by decide) (by decide) ?_
  refine xi_aload_n 1 dX3_init_32 rfl ?_
  refine xi_get (f := 0) dX3_init_33 (xpg0 hP rfl) rfl ok_3 (by decide) w_169 rfl ?_
  refine xi_iload_n 0 dX3_init_36 rfl ?_
  refine xi_new (i := (L + 8)) (ci := 2) (fs := [.int 0, .int 0, .int 0, .int 0, .null]) (M' := (P ++ [.inr (3, [.ref (L + 1), .ref (L + 2)]), .inl (4, 7, .inr (.inr (.inr (.inr (va_up (fun _ => none) 0 (some (L + 6))))))), .inr (5, [.int 0, .int 0, .ref (L + 3), .ref (L + 4), .ref (L + 5)]), xz 9, xz 9, xz 81, .inr (2, [.int 0, .int 0, .int 0, .int 0, .ref (L + 7)]), xz 9, .inr (2, [.int 0, .int 0, .int 0, .int 0, .null])])) dX3_init_37 rfl ok_2 w_134 w_138 w_7 nf_2 rfl (xpl hP rfl) (List.append_assoc _ _ _) (Nat.le_of_ble_eq_true rfl) (Nat.le_of_ble_eq_true rfl) ?_
  refine xi_dup dX3_init_40 rfl ?_
  refine xi_callIN (as := []) (rest := [.ref (L + 8), .int 1, .ref (L + 1)]) dX3_init_41 (ct_X2_init G (P ++ [.inr (3, [.ref (L + 1), .ref (L + 2)]), .inl (4, 7, .inr (.inr (.inr (.inr (va_up (fun _ => none) 0 (some (L + 6))))))), .inr (5, [.int 0, .int 0, .ref (L + 3), .ref (L + 4), .ref (L + 5)]), xz 9, xz 9, xz 81, .inr (2, [.int 0, .int 0, .int 0, .int 0, .ref (L + 7)]), xz 9]) (L + 8) (xpl hP rfl) _ (List.append_assoc P [.inr (3, [.ref (L + 1), .ref (L + 2)]), .inl (4, 7, .inr (.inr (.inr (.inr (va_up (fun _ => none) 0 (some (L + 6))))))), .inr (5, [.int 0, .int 0, .ref (L + 3), .ref (L + 4), .ref (L + 5)]), xz 9, xz 9, xz 81, .inr (2, [.int 0, .int 0, .int 0, .int 0, .ref (L + 7)]), xz 9] _).symm ) mkX2_init w_140 wn_139 rfl rfl rfl rfl (Nat.le_of_ble_eq_true rfl) (Nat.le_of_ble_eq_true rfl) (Nat.le_of_ble_eq_true rfl) (Nat.le_of_ble_eq_true rfl) (Nat.le_of_ble_eq_true rfl) ?_
  intro v M2 hq
  obtain ⟨rfl, hM2⟩ := hq
  rw [List.append_assoc] at hM2
  subst hM2
  show xW _ _ _ _ 44 _ [.ref (L + 8), .int 1, .ref (L + 1)] (P ++ [.inr (3, [.ref (L + 1), .ref (L + 2)]), .inl (4, 7, .inr (.inr (.inr (.inr (va_up (fun _ => none) 0 (some (L + 6))))))), .inr (5, [.int 0, .int 0, .ref (L + 3), .ref (L + 4), .ref (L + 5)]), xz 9, xz 9, xz 81, .inr (2, [.int 0, .int 0, .int 0, .int 0, .ref (L + 7)]), xz 9, .inr (2, [.int 0, .int 0, .int 0, .int 0, .ref (L + 9)]), xz 9]) _ _
  refine xi_aastore (M' := (P ++ [.inr (3, [.ref (L + 1), .ref (L + 2)]), .inl (4, 7, .inr (.inr (.inr (.inr (va_up (va_up (fun _ => none) 0 (some (L + 6))) 1 (some (L + 8))))))), .inr (5, [.int 0, .int 0, .ref (L + 3), .ref (L + 4), .ref (L + 5)]), xz 9, xz 9, xz 81, .inr (2, [.int 0, .int 0, .int 0, .int 0, .ref (L + 7)]), xz 9, .inr (2, [.int 0, .int 0, .int 0, .int 0, .ref (L + 9)]), xz 9])) dX3_init_44 (xpg hP rfl) rfl (xpg hP rfl) rfl (by unfold vp_in; decide) (xps hP) ?_
  refine xi_iinc (v := 2) (lv' := [(1, .int 2), (0, .ref L)]) 0 dX3_init_45 rfl (by decide) (by decide) rfl ?_
  refine xi_goto (tgt := 26) dX3_init_48 (by decide) ?_
  refine xi_iload_n 0 dX3_init_26 rfl ?_
  refine xi_bipush (v := 7) dX3_init_27 (by decide) ?_
  refine xi_icmp_ge_f (tgt := 51) dX3_init_29 (by decide) (by decide) ?_
  refine xi_aload_n 1 dX3_init_32 rfl ?_
  refine xi_get (f := 0) dX3_init_33 (xpg0 hP rfl) rfl ok_3 (by decide) w_169 rfl ?_
  refine xi_iload_n 0 dX3_init_36 rfl ?_
  refine xi_new (i := (L + 10)) (ci := 2) (fs := [.int 0, .int 0, .int 0, .int 0, .null]) (M' := (P ++ [.inr (3, [.ref (L + 1), .ref (L + 2)]), .inl (4, 7, .inr (.inr (.inr (.inr (va_up (va_up (fun _ => none) 0 (some (L + 6))) 1 (some (L + 8))))))), .inr (5, [.int 0, .int 0, .ref (L + 3), .ref (L + 4), .ref (L + 5)]), xz 9, xz 9, xz 81, .inr (2, [.int 0, .int 0, .int 0, .int 0, .ref (L + 7)]), xz 9, .inr (2, [.int 0, .int 0, .int 0, .int 0, .ref (L + 9)]), xz 9, .inr (2, [.int 0, .int 0, .int 0, .int 0, .null])])) dX3_init_37 rfl ok_2 w_134 w_138 w_7 nf_2 rfl (xpl hP rfl) (List.append_assoc _ _ _) (Nat.le_of_ble_eq_true rfl) (Nat.le_of_ble_eq_true rfl) ?_
  refine xi_dup dX3_init_40 rfl ?_
  refine xi_callIN (as := []) (rest := [.ref (L + 10), .int 2, .ref (L + 1)]) dX3_init_41 (ct_X2_init G (P ++ [.inr (3, [.ref (L + 1), .ref (L + 2)]), .inl (4, 7, .inr (.inr (.inr (.inr (va_up (va_up (fun _ => none) 0 (some (L + 6))) 1 (some (L + 8))))))), .inr (5, [.int 0, .int 0, .ref (L + 3), .ref (L + 4), .ref (L + 5)]), xz 9, xz 9, xz 81, .inr (2, [.int 0, .int 0, .int 0, .int 0, .ref (L + 7)]), xz 9, .inr (2, [.int 0, .int 0, .int 0, .int 0, .ref (L + 9)]), xz 9]) (L + 10) (xpl hP rfl) _ (List.append_assoc P [.inr (3, [.ref (L + 1), .ref (L + 2)]), .inl (4, 7, .inr (.inr (.inr (.inr (va_up (va_up (fun _ => none) 0 (some (L + 6))) 1 (some (L + 8))))))), .inr (5, [.int 0, .int 0, .ref (L + 3), .ref (L + 4), .ref (L + 5)]), xz 9, xz 9, xz 81, .inr (2, [.int 0, .int 0, .int 0, .int 0, .ref (L + 7)]), xz 9, .inr (2, [.int 0, .int 0, .int 0, .int 0, .ref (L + 9)]), xz 9] _).symm ) mkX2_init w_140 wn_139 rfl rfl rfl rfl (Nat.le_of_ble_eq_true rfl) (Nat.le_of_ble_eq_true rfl) (Nat.le_of_ble_eq_true rfl) (Nat.le_of_ble_eq_true rfl) (Nat.le_of_ble_eq_true rfl) ?_
  intro v M2 hq
  obtain ⟨rfl, hM2⟩ := hq
  rw [List.append_assoc] at hM2
  subst hM2
  show xW _ _ _ _ 44 _ [.ref (L + 10), .int 2, .ref (L + 1)] (P ++ [.inr (3, [.ref (L + 1), .ref (L + 2)]), .inl (4, 7, .inr (.inr (.inr (.inr (va_up (va_up (fun _ => none) 0 (some (L + 6))) 1 (some (L + 8))))))), .inr (5, [.int 0, .int 0, .ref (L + 3), .ref (L + 4), .ref (L + 5)]), xz 9, xz 9, xz 81, .inr (2, [.int 0, .int 0, .int 0, .int 0, .ref (L + 7)]), xz 9, .inr (2, [.int 0, .int 0, .int 0, .int 0, .ref (L + 9)]), xz 9, .inr (2, [.int 0, .int 0, .int 0, .int 0, .ref (L + 11)]), xz 9]) _ _
  refine xi_aastore (M' := (P ++ [.inr (3, [.ref (L + 1), .ref (L + 2)]), .inl (4, 7, .inr (.inr (.inr (.inr (va_up (va_up (va_up (fun _ => none) 0 (some (L + 6))) 1 (some (L + 8))) 2 (some (L + 10))))))), .inr (5, [.int 0, .int 0, .ref (L + 3), .ref (L + 4), .ref (L + 5)]), xz 9, xz 9, xz 81, .inr (2, [.int 0, .int 0, .int 0, .int 0, .ref (L + 7)]), xz 9, .inr (2, [.int 0, .int 0, .int 0, .int 0, .ref (L + 9)]), xz 9, .inr (2, [.int 0, .int 0, .int 0, .int 0, .ref (L + 11)]), xz 9])) dX3_init_44 (xpg hP rfl) rfl (xpg hP rfl) rfl (by unfold vp_in; decide) (xps hP) ?_
  refine xi_iinc (v := 3) (lv' := [(1, .int 3), (0, .ref L)]) 0 dX3_init_45 rfl (by decide) (by decide) rfl ?_
  refine xi_goto (tgt := 26) dX3_init_48 (by decide) ?_
  refine xi_iload_n 0 dX3_init_26 rfl ?_
  refine xi_bipush (v := 7) dX3_init_27 (by decide) ?_
  refine xi_icmp_ge_f (tgt := 51) dX3_init_29 (by decide) (by decide) ?_
  refine xi_aload_n 1 dX3_init_32 rfl ?_
  refine xi_get (f := 0) dX3_init_33 (xpg0 hP rfl) rfl ok_3 (by decide) w_169 rfl ?_
  refine xi_iload_n 0 dX3_init_36 rfl ?_
  refine xi_new (i := (L + 12)) (ci := 2) (fs := [.int 0, .int 0, .int 0, .int 0, .null]) (M' := (P ++ [.inr (3, [.ref (L + 1), .ref (L + 2)]), .inl (4, 7, .inr (.inr (.inr (.inr (va_up (va_up (va_up (fun _ => none) 0 (some (L + 6))) 1 (some (L + 8))) 2 (some (L + 10))))))), .inr (5, [.int 0, .int 0, .ref (L + 3), .ref (L + 4), .ref (L + 5)]), xz 9, xz 9, xz 81, .inr (2, [.int 0, .int 0, .int 0, .int 0, .ref (L + 7)]), xz 9, .inr (2, [.int 0, .int 0, .int 0, .int 0, .ref (L + 9)]), xz 9, .inr (2, [.int 0, .int 0, .int 0, .int 0, .ref (L + 11)]), xz 9, .inr (2, [.int 0, .int 0, .int 0, .int 0, .null])])) dX3_init_37 rfl ok_2 w_134 w_138 w_7 nf_2 rfl (xpl hP rfl) (List.append_assoc _ _ _) (Nat.le_of_ble_eq_true rfl) (Nat.le_of_ble_eq_true rfl) ?_
  refine xi_dup dX3_init_40 rfl ?_
  refine xi_callIN (as := []) (rest := [.ref (L + 12), .int 3, .ref (L + 1)]) dX3_init_41 (ct_X2_init G (P ++ [.inr (3, [.ref (L + 1), .ref (L + 2)]), .inl (4, 7, .inr (.inr (.inr (.inr (va_up (va_up (va_up (fun _ => none) 0 (some (L + 6))) 1 (some (L + 8))) 2 (some (L + 10))))))), .inr (5, [.int 0, .int 0, .ref (L + 3), .ref (L + 4), .ref (L + 5)]), xz 9, xz 9, xz 81, .inr (2, [.int 0, .int 0, .int 0, .int 0, .ref (L + 7)]), xz 9, .inr (2, [.int 0, .int 0, .int 0, .int 0, .ref (L + 9)]), xz 9, .inr (2, [.int 0, .int 0, .int 0, .int 0, .ref (L + 11)]), xz 9]) (L + 12) (xpl hP rfl) _ (List.append_assoc P [.inr (3, [.ref (L + 1), .ref (L + 2)]), .inl (4, 7, .inr (.inr (.inr (.inr (va_up (va_up (va_up (fun _ => none) 0 (some (L + 6))) 1 (some (L + 8))) 2 (some (L + 10))))))), .inr (5, [.int 0, .int 0, .ref (L + 3), .ref (L + 4), .ref (L + 5)]), xz 9, xz 9, xz 81, .inr (2, [.int 0, .int 0, .int 0, .int 0, .ref (L + 7)]), xz 9, .inr (2, [.int 0, .int 0, .int 0, .int 0, .ref (L + 9)]), xz 9, .inr (2, [.int 0, .int 0, .int 0, .int 0, .ref (L + 11)]), xz 9] _).symm ) mkX2_init w_140 wn_139 rfl rfl rfl rfl (Nat.le_of_ble_eq_true rfl) (Nat.le_of_ble_eq_true rfl) (Nat.le_of_ble_eq_true rfl) (Nat.le_of_ble_eq_true rfl) (Nat.le_of_ble_eq_true rfl) ?_
  intro v M2 hq
  obtain ⟨rfl, hM2⟩ := hq
  rw [List.append_assoc] at hM2
  subst hM2
  show xW _ _ _ _ 44 _ [.ref (L + 12), .int 3, .ref (L + 1)] (P ++ [.inr (3, [.ref (L + 1), .ref (L + 2)]), .inl (4, 7, .inr (.inr (.inr (.inr (va_up (va_up (va_up (fun _ => none) 0 (some (L + 6))) 1 (some (L + 8))) 2 (some (L + 10))))))), .inr (5, [.int 0, .int 0, .ref (L + 3), .ref (L + 4), .ref (L + 5)]), xz 9, xz 9, xz 81, .inr (2, [.int 0, .int 0, .int 0, .int 0, .ref (L + 7)]), xz 9, .inr (2, [.int 0, .int 0, .int 0, .int 0, .ref (L + 9)]), xz 9, .inr (2, [.int 0, .int 0, .int 0, .int 0, .ref (L + 11)]), xz 9, .inr (2, [.int 0, .int 0, .int 0, .int 0, .ref (L + 13)]), xz 9]) _ _
  refine xi_aastore (M' := (P ++ [.inr (3, [.ref (L + 1), .ref (L + 2)]), .inl (4, 7, .inr (.inr (.inr (.inr (va_up (va_up (va_up (va_up (fun _ => none) 0 (some (L + 6))) 1 (some (L + 8))) 2 (some (L + 10))) 3 (some (L + 12))))))), .inr (5, [.int 0, .int 0, .ref (L + 3), .ref (L + 4), .ref (L + 5)]), xz 9, xz 9, xz 81, .inr (2, [.int 0, .int 0, .int 0, .int 0, .ref (L + 7)]), xz 9, .inr (2, [.int 0, .int 0, .int 0, .int 0, .ref (L + 9)]), xz 9, .inr (2, [.int 0, .int 0, .int 0, .int 0, .ref (L + 11)]), xz 9, .inr (2, [.int 0, .int 0, .int 0, .int 0, .ref (L + 13)]), xz 9])) dX3_init_44 (xpg hP rfl) rfl (xpg hP rfl) rfl (by unfold vp_in; decide) (xps hP) ?_
  refine xi_iinc (v := 4) (lv' := [(1, .int 4), (0, .ref L)]) 0 dX3_init_45 rfl (by decide) (by decide) rfl ?_
  refine xi_goto (tgt := 26) dX3_init_48 (by decide) ?_
  refine xi_iload_n 0 dX3_init_26 rfl ?_
  refine xi_bipush (v := 7) dX3_init_27 (by decide) ?_
  refine xi_icmp_ge_f (tgt := 51) dX3_init_29 (by decide) (by decide) ?_
  refine xi_aload_n 1 dX3_init_32 rfl ?_
  refine xi_get (f := 0) dX3_init_33 (xpg0 hP rfl) rfl ok_3 (by decide) w_169 rfl ?_
  refine xi_iload_n 0 dX3_init_36 rfl ?_
  refine xi_new (i := (L + 14)) (ci := 2) (fs := [.int 0, .int 0, .int 0, .int 0, .null]) (M' := (P ++ [.inr (3, [.ref (L + 1), .ref (L + 2)]), .inl (4, 7, .inr (.inr (.inr (.inr (va_up (va_up (va_up (va_up (fun _ => none) 0 (some (L + 6))) 1 (some (L + 8))) 2 (some (L + 10))) 3 (some (L + 12))))))), .inr (5, [.int 0, .int 0, .ref (L + 3), .ref (L + 4), .ref (L + 5)]), xz 9, xz 9, xz 81, .inr (2, [.int 0, .int 0, .int 0, .int 0, .ref (L + 7)]), xz 9, .inr (2, [.int 0, .int 0, .int 0, .int 0, .ref (L + 9)]), xz 9, .inr (2, [.int 0, .int 0, .int 0, .int 0, .ref (L + 11)]), xz 9, .inr (2, [.int 0, .int 0, .int 0, .int 0, .ref (L + 13)]), xz 9, .inr (2, [.int 0, .int 0, .int 0, .int 0, .null])])) dX3_init_37 rfl ok_2 w_134 w_138 w_7 nf_2 rfl (xpl hP rfl) (List.append_assoc _ _ _) (Nat.le_of_ble_eq_true rfl) (Nat.le_of_ble_eq_true rfl) ?_
  refine xi_dup dX3_init_40 rfl ?_
  refine xi_callIN (as := []) (rest := [.ref (L + 14), .int 4, .ref (L + 1)]) dX3_init_41 (ct_X2_init G (P ++ [.inr (3, [.ref (L + 1), .ref (L + 2)]), .inl (4, 7, .inr (.inr (.inr (.inr (va_up (va_up (va_up (va_up (fun _ => none) 0 (some (L + 6))) 1 (some (L + 8))) 2 (some (L + 10))) 3 (some (L + 12))))))), .inr (5, [.int 0, .int 0, .ref (L + 3), .ref (L + 4), .ref (L + 5)]), xz 9, xz 9, xz 81, .inr (2, [.int 0, .int 0, .int 0, .int 0, .ref (L + 7)]), xz 9, .inr (2, [.int 0, .int 0, .int 0, .int 0, .ref (L + 9)]), xz 9, .inr (2, [.int 0, .int 0, .int 0, .int 0, .ref (L + 11)]), xz 9, .inr (2, [.int 0, .int 0, .int 0, .int 0, .ref (L + 13)]), xz 9]) (L + 14) (xpl hP rfl) _ (List.append_assoc P [.inr (3, [.ref (L + 1), .ref (L + 2)]), .inl (4, 7, .inr (.inr (.inr (.inr (va_up (va_up (va_up (va_up (fun _ => none) 0 (some (L + 6))) 1 (some (L + 8))) 2 (some (L + 10))) 3 (some (L + 12))))))), .inr (5, [.int 0, .int 0, .ref (L + 3), .ref (L + 4), .ref (L + 5)]), xz 9, xz 9, xz 81, .inr (2, [.int 0, .int 0, .int 0, .int 0, .ref (L + 7)]), xz 9, .inr (2, [.int 0, .int 0, .int 0, .int 0, .ref (L + 9)]), xz 9, .inr (2, [.int 0, .int 0, .int 0, .int 0, .ref (L + 11)]), xz 9, .inr (2, [.int 0, .int 0, .int 0, .int 0, .ref (L + 13)]), xz 9] _).symm ) mkX2_init w_140 wn_139 rfl rfl rfl rfl (Nat.le_of_ble_eq_true rfl) (Nat.le_of_ble_eq_true rfl) (Nat.le_of_ble_eq_true rfl) (Nat.le_of_ble_eq_true rfl) (Nat.le_of_ble_eq_true rfl) ?_
  intro v M2 hq
  obtain ⟨rfl, hM2⟩ := hq
  rw [List.append_assoc] at hM2
  subst hM2
  show xW _ _ _ _ 44 _ [.ref (L + 14), .int 4, .ref (L + 1)] (P ++ [.inr (3, [.ref (L + 1), .ref (L + 2)]), .inl (4, 7, .inr (.inr (.inr (.inr (va_up (va_up (va_up (va_up (fun _ => none) 0 (some (L + 6))) 1 (some (L + 8))) 2 (some (L + 10))) 3 (some (L + 12))))))), .inr (5, [.int 0, .int 0, .ref (L + 3), .ref (L + 4), .ref (L + 5)]), xz 9, xz 9, xz 81, .inr (2, [.int 0, .int 0, .int 0, .int 0, .ref (L + 7)]), xz 9, .inr (2, [.int 0, .int 0, .int 0, .int 0, .ref (L + 9)]), xz 9, .inr (2, [.int 0, .int 0, .int 0, .int 0, .ref (L + 11)]), xz 9, .inr (2, [.int 0, .int 0, .int 0, .int 0, .ref (L + 13)]), xz 9, .inr (2, [.int 0, .int 0, .int 0, .int 0, .ref (L + 15)]), xz 9]) _ _
  refine xi_aastore (M' := (P ++ [.inr (3, [.ref (L + 1), .ref (L + 2)]), .inl (4, 7, .inr (.inr (.inr (.inr (va_up (va_up (va_up (va_up (va_up (fun _ => none) 0 (some (L + 6))) 1 (some (L + 8))) 2 (some (L + 10))) 3 (some (L + 12))) 4 (some (L + 14))))))), .inr (5, [.int 0, .int 0, .ref (L + 3), .ref (L + 4), .ref (L + 5)]), xz 9, xz 9, xz 81, .inr (2, [.int 0, .int 0, .int 0, .int 0, .ref (L + 7)]), xz 9, .inr (2, [.int 0, .int 0, .int 0, .int 0, .ref (L + 9)]), xz 9, .inr (2, [.int 0, .int 0, .int 0, .int 0, .ref (L + 11)]), xz 9, .inr (2, [.int 0, .int 0, .int 0, .int 0, .ref (L + 13)]), xz 9, .inr (2, [.int 0, .int 0, .int 0, .int 0, .ref (L + 15)]), xz 9])) dX3_init_44 (xpg hP rfl) rfl (xpg hP rfl) rfl (by unfold vp_in; decide) (xps hP) ?_
  refine xi_iinc (v := 5) (lv' := [(1, .int 5), (0, .ref L)]) 0 dX3_init_45 rfl (by decide) (by decide) rfl ?_
  refine xi_goto (tgt := 26) dX3_init_48 (by decide) ?_
  refine xi_iload_n 0 dX3_init_26 rfl ?_
  refine xi_bipush (v := 7) dX3_init_27 (by decide) ?_
  refine xi_icmp_ge_f (tgt := 51) dX3_init_29 (by decide) (by decide) ?_
  refine xi_aload_n 1 dX3_init_32 rfl ?_
  refine xi_get (f := 0) dX3_init_33 (xpg0 hP rfl) rfl ok_3 (by decide) w_169 rfl ?_
  refine xi_iload_n 0 dX3_init_36 rfl ?_
  refine xi_new (i := (L + 16)) (ci := 2) (fs := [.int 0, .int 0, .int 0, .int 0, .null]) (M' := (P ++ [.inr (3, [.ref (L + 1), .ref (L + 2)]), .inl (4, 7, .inr (.inr (.inr (.inr (va_up (va_up (va_up (va_up (va_up (fun _ => none) 0 (some (L + 6))) 1 (some (L + 8))) 2 (some (L + 10))) 3 (some (L + 12))) 4 (some (L + 14))))))), .inr (5, [.int 0, .int 0, .ref (L + 3), .ref (L + 4), .ref (L + 5)]), xz 9, xz 9, xz 81, .inr (2, [.int 0, .int 0, .int 0, .int 0, .ref (L + 7)]), xz 9, .inr (2, [.int 0, .int 0, .int 0, .int 0, .ref (L + 9)]), xz 9, .inr (2, [.int 0, .int 0, .int 0, .int 0, .ref (L + 11)]), xz 9, .inr (2, [.int 0, .int 0, .int 0, .int 0, .ref (L + 13)]), xz 9, .inr (2, [.int 0, .int 0, .int 0, .int 0, .ref (L + 15)]), xz 9, .inr (2, [.int 0, .int 0, .int 0, .int 0, .null])])) dX3_init_37 rfl ok_2 w_134 w_138 w_7 nf_2 rfl (xpl hP rfl) (List.append_assoc _ _ _) (Nat.le_of_ble_eq_true rfl) (Nat.le_of_ble_eq_true rfl) ?_
  refine xi_dup dX3_init_40 rfl ?_
  refine xi_callIN (as := []) (rest := [.ref (L + 16), .int 5, .ref (L + 1)]) dX3_init_41 (ct_X2_init G (P ++ [.inr (3, [.ref (L + 1), .ref (L + 2)]), .inl (4, 7, .inr (.inr (.inr (.inr (va_up (va_up (va_up (va_up (va_up (fun _ => none) 0 (some (L + 6))) 1 (some (L + 8))) 2 (some (L + 10))) 3 (some (L + 12))) 4 (some (L + 14))))))), .inr (5, [.int 0, .int 0, .ref (L + 3), .ref (L + 4), .ref (L + 5)]), xz 9, xz 9, xz 81, .inr (2, [.int 0, .int 0, .int 0, .int 0, .ref (L + 7)]), xz 9, .inr (2, [.int 0, .int 0, .int 0, .int 0, .ref (L + 9)]), xz 9, .inr (2, [.int 0, .int 0, .int 0, .int 0, .ref (L + 11)]), xz 9, .inr (2, [.int 0, .int 0, .int 0, .int 0, .ref (L + 13)]), xz 9, .inr (2, [.int 0, .int 0, .int 0, .int 0, .ref (L + 15)]), xz 9]) (L + 16) (xpl hP rfl) _ (List.append_assoc P [.inr (3, [.ref (L + 1), .ref (L + 2)]), .inl (4, 7, .inr (.inr (.inr (.inr (va_up (va_up (va_up (va_up (va_up (fun _ => none) 0 (some (L + 6))) 1 (some (L + 8))) 2 (some (L + 10))) 3 (some (L + 12))) 4 (some (L + 14))))))), .inr (5, [.int 0, .int 0, .ref (L + 3), .ref (L + 4), .ref (L + 5)]), xz 9, xz 9, xz 81, .inr (2, [.int 0, .int 0, .int 0, .int 0, .ref (L + 7)]), xz 9, .inr (2, [.int 0, .int 0, .int 0, .int 0, .ref (L + 9)]), xz 9, .inr (2, [.int 0, .int 0, .int 0, .int 0, .ref (L + 11)]), xz 9, .inr (2, [.int 0, .int 0, .int 0, .int 0, .ref (L + 13)]), xz 9, .inr (2, [.int 0, .int 0, .int 0, .int 0, .ref (L + 15)]), xz 9] _).symm ) mkX2_init w_140 wn_139 rfl rfl rfl rfl (Nat.le_of_ble_eq_true rfl) (Nat.le_of_ble_eq_true rfl) (Nat.le_of_ble_eq_true rfl) (Nat.le_of_ble_eq_true rfl) (Nat.le_of_ble_eq_true rfl) ?_
  intro v M2 hq
  obtain ⟨rfl, hM2⟩ := hq
  rw [List.append_assoc] at hM2
  subst hM2
  show xW _ _ _ _ 44 _ [.ref (L + 16), .int 5, .ref (L + 1)] (P ++ [.inr (3, [.ref (L + 1), .ref (L + 2)]), .inl (4, 7, .inr (.inr (.inr (.inr (va_up (va_up (va_up (va_up (va_up (fun _ => none) 0 (some (L + 6))) 1 (some (L + 8))) 2 (some (L + 10))) 3 (some (L + 12))) 4 (some (L + 14))))))), .inr (5, [.int 0, .int 0, .ref (L + 3), .ref (L + 4), .ref (L + 5)]), xz 9, xz 9, xz 81, .inr (2, [.int 0, .int 0, .int 0, .int 0, .ref (L + 7)]), xz 9, .inr (2, [.int 0, .int 0, .int 0, .int 0, .ref (L + 9)]), xz 9, .inr (2, [.int 0, .int 0, .int 0, .int 0, .ref (L + 11)]), xz 9, .inr (2, [.int 0, .int 0, .int 0, .int 0, .ref (L + 13)]), xz 9, .inr (2, [.int 0, .int 0, .int 0, .int 0, .ref (L + 15)]), xz 9, .inr (2, [.int 0, .int 0, .int 0, .int 0, .ref (L + 17)]), xz 9]) _ _
  refine xi_aastore (M' := (P ++ [.inr (3, [.ref (L + 1), .ref (L + 2)]), .inl (4, 7, .inr (.inr (.inr (.inr (va_up (va_up (va_up (va_up (va_up (va_up (fun _ => none) 0 (some (L + 6))) 1 (some (L + 8))) 2 (some (L + 10))) 3 (some (L + 12))) 4 (some (L + 14))) 5 (some (L + 16))))))), .inr (5, [.int 0, .int 0, .ref (L + 3), .ref (L + 4), .ref (L + 5)]), xz 9, xz 9, xz 81, .inr (2, [.int 0, .int 0, .int 0, .int 0, .ref (L + 7)]), xz 9, .inr (2, [.int 0, .int 0, .int 0, .int 0, .ref (L + 9)]), xz 9, .inr (2, [.int 0, .int 0, .int 0, .int 0, .ref (L + 11)]), xz 9, .inr (2, [.int 0, .int 0, .int 0, .int 0, .ref (L + 13)]), xz 9, .inr (2, [.int 0, .int 0, .int 0, .int 0, .ref (L + 15)]), xz 9, .inr (2, [.int 0, .int 0, .int 0, .int 0, .ref (L + 17)]), xz 9])) dX3_init_44 (xpg hP rfl) rfl (xpg hP rfl) rfl (by unfold vp_in; decide) (xps hP) ?_
  refine xi_iinc (v := 6) (lv' := [(1, .int 6), (0, .ref L)]) 0 dX3_init_45 rfl (by decide) (by decide) rfl ?_
  refine xi_goto (tgt := 26) dX3_init_48 (by decide) ?_
  refine xi_iload_n 0 dX3_init_26 rfl ?_
  refine xi_bipush (v := 7) dX3_init_27 (by decide) ?_
  refine xi_icmp_ge_f (tgt := 51) dX3_init_29 (by decide) (by decide) ?_
  refine xi_aload_n 1 dX3_init_32 rfl ?_
  refine xi_get (f := 0) dX3_init_33 (xpg0 hP rfl) rfl ok_3 (by decide) w_169 rfl ?_
  refine xi_iload_n 0 dX3_init_36 rfl ?_
  refine xi_new (i := (L + 18)) (ci := 2) (fs := [.int 0, .int 0, .int 0, .int 0, .null]) (M' := (P ++ [.inr (3, [.ref (L + 1), .ref (L + 2)]), .inl (4, 7, .inr (.inr (.inr (.inr (va_up (va_up (va_up (va_up (va_up (va_up (fun _ => none) 0 (some (L + 6))) 1 (some (L + 8))) 2 (some (L + 10))) 3 (some (L + 12))) 4 (some (L + 14))) 5 (some (L + 16))))))), .inr (5, [.int 0, .int 0, .ref (L + 3), .ref (L + 4), .ref (L + 5)]), xz 9, xz 9, xz 81, .inr (2, [.int 0, .int 0, .int 0, .int 0, .ref (L + 7)]), xz 9, .inr (2, [.int 0, .int 0, .int 0, .int 0, .ref (L + 9)]), xz 9, .inr (2, [.int 0, .int 0, .int 0, .int 0, .ref (L + 11)]), xz 9, .inr (2, [.int 0, .int 0, .int 0, .int 0, .ref (L + 13)]), xz 9, .inr (2, [.int 0, .int 0, .int 0, .int 0, .ref (L + 15)]), xz 9, .inr (2, [.int 0, .int 0, .int 0, .int 0, .ref (L + 17)]), xz 9, .inr (2, [.int 0, .int 0, .int 0, .int 0, .null])])) dX3_init_37 rfl ok_2 w_134 w_138 w_7 nf_2 rfl (xpl hP rfl) (List.append_assoc _ _ _) (Nat.le_of_ble_eq_true rfl) (Nat.le_of_ble_eq_true rfl) ?_
  refine xi_dup dX3_init_40 rfl ?_
  refine xi_callIN (as := []) (rest := [.ref (L + 18), .int 6, .ref (L + 1)]) dX3_init_41 (ct_X2_init G (P ++ [.inr (3, [.ref (L + 1), .ref (L + 2)]), .inl (4, 7, .inr (.inr (.inr (.inr (va_up (va_up (va_up (va_up (va_up (va_up (fun _ => none) 0 (some (L + 6))) 1 (some (L + 8))) 2 (some (L + 10))) 3 (some (L + 12))) 4 (some (L + 14))) 5 (some (L + 16))))))), .inr (5, [.int 0, .int 0, .ref (L + 3), .ref (L + 4), .ref (L + 5)]), xz 9, xz 9, xz 81, .inr (2, [.int 0, .int 0, .int 0, .int 0, .ref (L + 7)]), xz 9, .inr (2, [.int 0, .int 0, .int 0, .int 0, .ref (L + 9)]), xz 9, .inr (2, [.int 0, .int 0, .int 0, .int 0, .ref (L + 11)]), xz 9, .inr (2, [.int 0, .int 0, .int 0, .int 0, .ref (L + 13)]), xz 9, .inr (2, [.int 0, .int 0, .int 0, .int 0, .ref (L + 15)]), xz 9, .inr (2, [.int 0, .int 0, .int 0, .int 0, .ref (L + 17)]), xz 9]) (L + 18) (xpl hP rfl) _ (List.append_assoc P [.inr (3, [.ref (L + 1), .ref (L + 2)]), .inl (4, 7, .inr (.inr (.inr (.inr (va_up (va_up (va_up (va_up (va_up (va_up (fun _ => none) 0 (some (L + 6))) 1 (some (L + 8))) 2 (some (L + 10))) 3 (some (L + 12))) 4 (some (L + 14))) 5 (some (L + 16))))))), .inr (5, [.int 0, .int 0, .ref (L + 3), .ref (L + 4), .ref (L + 5)]), xz 9, xz 9, xz 81, .inr (2, [.int 0, .int 0, .int 0, .int 0, .ref (L + 7)]), xz 9, .inr (2, [.int 0, .int 0, .int 0, .int 0, .ref (L + 9)]), xz 9, .inr (2, [.int 0, .int 0, .int 0, .int 0, .ref (L + 11)]), xz 9, .inr (2, [.int 0, .int 0, .int 0, .int 0, .ref (L + 13)]), xz 9, .inr (2, [.int 0, .int 0, .int 0, .int 0, .ref (L + 15)]), xz 9, .inr (2, [.int 0, .int 0, .int 0, .int 0, .ref (L + 17)]), xz 9] _).symm ) mkX2_init w_140 wn_139 rfl rfl rfl rfl (Nat.le_of_ble_eq_true rfl) (Nat.le_of_ble_eq_true rfl) (Nat.le_of_ble_eq_true rfl) (Nat.le_of_ble_eq_true rfl) (Nat.le_of_ble_eq_true rfl) ?_
  intro v M2 hq
  obtain ⟨rfl, hM2⟩ := hq
  rw [List.append_assoc] at hM2
  subst hM2
  show xW _ _ _ _ 44 _ [.ref (L + 18), .int 6, .ref (L + 1)] (P ++ [.inr (3, [.ref (L + 1), .ref (L + 2)]), .inl (4, 7, .inr (.inr (.inr (.inr (va_up (va_up (va_up (va_up (va_up (va_up (fun _ => none) 0 (some (L + 6))) 1 (some (L + 8))) 2 (some (L + 10))) 3 (some (L + 12))) 4 (some (L + 14))) 5 (some (L + 16))))))), .inr (5, [.int 0, .int 0, .ref (L + 3), .ref (L + 4), .ref (L + 5)]), xz 9, xz 9, xz 81, .inr (2, [.int 0, .int 0, .int 0, .int 0, .ref (L + 7)]), xz 9, .inr (2, [.int 0, .int 0, .int 0, .int 0, .ref (L + 9)]), xz 9, .inr (2, [.int 0, .int 0, .int 0, .int 0, .ref (L + 11)]), xz 9, .inr (2, [.int 0, .int 0, .int 0, .int 0, .ref (L + 13)]), xz 9, .inr (2, [.int 0, .int 0, .int 0, .int 0, .ref (L + 15)]), xz 9, .inr (2, [.int 0, .int 0, .int 0, .int 0, .ref (L + 17)]), xz 9, .inr (2, [.int 0, .int 0, .int 0, .int 0, .ref (L + 19)]), xz 9]) _ _
  refine xi_aastore (M' := (P ++ [.inr (3, [.ref (L + 1), .ref (L + 2)]), .inl (4, 7, .inr (.inr (.inr (.inr (va_up (va_up (va_up (va_up (va_up (va_up (va_up (fun _ => none) 0 (some (L + 6))) 1 (some (L + 8))) 2 (some (L + 10))) 3 (some (L + 12))) 4 (some (L + 14))) 5 (some (L + 16))) 6 (some (L + 18))))))), .inr (5, [.int 0, .int 0, .ref (L + 3), .ref (L + 4), .ref (L + 5)]), xz 9, xz 9, xz 81, .inr (2, [.int 0, .int 0, .int 0, .int 0, .ref (L + 7)]), xz 9, .inr (2, [.int 0, .int 0, .int 0, .int 0, .ref (L + 9)]), xz 9, .inr (2, [.int 0, .int 0, .int 0, .int 0, .ref (L + 11)]), xz 9, .inr (2, [.int 0, .int 0, .int 0, .int 0, .ref (L + 13)]), xz 9, .inr (2, [.int 0, .int 0, .int 0, .int 0, .ref (L + 15)]), xz 9, .inr (2, [.int 0, .int 0, .int 0, .int 0, .ref (L + 17)]), xz 9, .inr (2, [.int 0, .int 0, .int 0, .int 0, .ref (L + 19)]), xz 9])) dX3_init_44 (xpg hP rfl) rfl (xpg hP rfl) rfl (by unfold vp_in; decide) (xps hP) ?_
  refine xi_iinc (v := 7) (lv' := [(1, .int 7), (0, .ref L)]) 0 dX3_init_45 rfl (by decide) (by decide) rfl ?_
  refine xi_goto (tgt := 26) dX3_init_48 (by decide) ?_
  refine xi_iload_n 0 dX3_init_26 rfl ?_
  refine xi_bipush (v := 7) dX3_init_27 (by decide) ?_
  refine xi_icmp_ge_t (tgt := 51) dX3_init_29 (by decide) (by decide) ?_
  exact xi_vret dX3_init_51 rfl (Nat.le_of_ble_eq_true rfl) (Nat.le_of_ble_eq_true rfl) ⟨rfl, rfl⟩
set_option maxHeartbeats 4000000 in
set_option maxRecDepth 100000 in
theorem ct_X9_init (G : xG) (P : xMem) (L : Nat) (hP : P.length = L) (M : xMem) (hM : M = P ++ [.inr (7, [.null, .null, .null, .null, .null])]) : xC G mX9_init 0 5 14848 [.ref L] M (fun v M2 => v = none ∧ M2 = (P ++ [.inr (7, [.ref (L + 1), .ref (L + 2), .ref (L + 3), .ref (L + 4), .ref (L + 5)]), xz 4608, xz 4608, xz 4608, xz 512, xz 512])) := by
  subst hM
  refine xC.of (by decide) (Nat.le_of_ble_eq_true rfl) ?_
  show xW _ _ _ _ 0 [(0, .ref L)] [] _ 0 0
  refine xi_aload_n 0 dX9_init_0 rfl ?_
  refine xi_obj dX9_init_1 w_182 w_28 w_obj (Nat.le_of_ble_eq_true rfl) (Nat.le_of_ble_eq_true rfl) (Nat.le_of_ble_eq_true rfl) ?_
  refine xi_aload_n 0 dX9_init_4 rfl ?_
  refine xi_sipush (v := 4608) dX9_init_5 (by decide) ?_
  refine xi_newI (i := (L + 1)) (N := 4608) (M' := (P ++ [.inr (7, [.null, .null, .null, .null, .null]), xz 4608])) dX9_init_8 w_95 (by decide) (by decide) (Nat.le_of_ble_eq_true rfl) (xpl hP rfl) (List.append_assoc _ _ _) (Nat.le_of_ble_eq_true rfl) (Nat.le_of_ble_eq_true rfl) ?_
  refine xi_putF (f := 0) (ty := (.array .int)) (M' := (P ++ [.inr (7, [.ref (L + 1), .null, .null, .null, .null]), xz 4608])) dX9_init_10 (xpg0 hP rfl) rfl ok_7 (by decide) w_183 rfl rfl rfl pf__I (fun _ h => by cases h) rfl rfl (Nat.le_of_ble_eq_true rfl) (xps0 hP) ?_
  refine xi_aload_n 0 dX9_init_13 rfl ?_
  refine xi_sipush (v := 4608) dX9_init_14 (by decide) ?_
  refine xi_newI (i := (L + 2)) (N := 4608) (M' := (P ++ [.inr (7, [.ref (L + 1), .null, .null, .null, .null]), xz 4608, xz 4608])) dX9_init_17 w_95 (by decide) (by decide) (Nat.le_of_ble_eq_true rfl) (xpl hP rfl) (List.append_assoc _ _ _) (Nat.le_of_ble_eq_true rfl) (Nat.le_of_ble_eq_true rfl) ?_
  refine xi_putF (f := 1) (ty := (.array .int)) (M' := (P ++ [.inr (7, [.ref (L + 1), .ref (L + 2), .null, .null, .null]), xz 4608, xz 4608])) dX9_init_19 (xpg0 hP rfl) rfl ok_7 (by decide) w_184 rfl rfl rfl pf__I (fun _ h => by cases h) rfl rfl (Nat.le_of_ble_eq_true rfl) (xps0 hP) ?_
  refine xi_aload_n 0 dX9_init_22 rfl ?_
  refine xi_sipush (v := 4608) dX9_init_23 (by decide) ?_
  refine xi_newI (i := (L + 3)) (N := 4608) (M' := (P ++ [.inr (7, [.ref (L + 1), .ref (L + 2), .null, .null, .null]), xz 4608, xz 4608, xz 4608])) dX9_init_26 w_95 (by decide) (by decide) (Nat.le_of_ble_eq_true rfl) (xpl hP rfl) (List.append_assoc _ _ _) (Nat.le_of_ble_eq_true rfl) (Nat.le_of_ble_eq_true rfl) ?_
  refine xi_putF (f := 2) (ty := (.array .int)) (M' := (P ++ [.inr (7, [.ref (L + 1), .ref (L + 2), .ref (L + 3), .null, .null]), xz 4608, xz 4608, xz 4608])) dX9_init_28 (xpg0 hP rfl) rfl ok_7 (by decide) w_185 rfl rfl rfl pf__I (fun _ h => by cases h) rfl rfl (Nat.le_of_ble_eq_true rfl) (xps0 hP) ?_
  refine xi_aload_n 0 dX9_init_31 rfl ?_
  refine xi_sipush (v := 512) dX9_init_32 (by decide) ?_
  refine xi_newI (i := (L + 4)) (N := 512) (M' := (P ++ [.inr (7, [.ref (L + 1), .ref (L + 2), .ref (L + 3), .null, .null]), xz 4608, xz 4608, xz 4608, xz 512])) dX9_init_35 w_95 (by decide) (by decide) (Nat.le_of_ble_eq_true rfl) (xpl hP rfl) (List.append_assoc _ _ _) (Nat.le_of_ble_eq_true rfl) (Nat.le_of_ble_eq_true rfl) ?_
  refine xi_putF (f := 3) (ty := (.array .int)) (M' := (P ++ [.inr (7, [.ref (L + 1), .ref (L + 2), .ref (L + 3), .ref (L + 4), .null]), xz 4608, xz 4608, xz 4608, xz 512])) dX9_init_37 (xpg0 hP rfl) rfl ok_7 (by decide) w_186 rfl rfl rfl pf__I (fun _ h => by cases h) rfl rfl (Nat.le_of_ble_eq_true rfl) (xps0 hP) ?_
  refine xi_aload_n 0 dX9_init_40 rfl ?_
  refine xi_sipush (v := 512) dX9_init_41 (by decide) ?_
  refine xi_newI (i := (L + 5)) (N := 512) (M' := (P ++ [.inr (7, [.ref (L + 1), .ref (L + 2), .ref (L + 3), .ref (L + 4), .null]), xz 4608, xz 4608, xz 4608, xz 512, xz 512])) dX9_init_44 w_95 (by decide) (by decide) (Nat.le_of_ble_eq_true rfl) (xpl hP rfl) (List.append_assoc _ _ _) (Nat.le_of_ble_eq_true rfl) (Nat.le_of_ble_eq_true rfl) ?_
  refine xi_putF (f := 4) (ty := (.array .int)) (M' := (P ++ [.inr (7, [.ref (L + 1), .ref (L + 2), .ref (L + 3), .ref (L + 4), .ref (L + 5)]), xz 4608, xz 4608, xz 4608, xz 512, xz 512])) dX9_init_46 (xpg0 hP rfl) rfl ok_7 (by decide) w_187 rfl rfl rfl pf__I (fun _ h => by cases h) rfl rfl (Nat.le_of_ble_eq_true rfl) (xps0 hP) ?_
  exact xi_vret dX9_init_49 rfl (Nat.le_of_ble_eq_true rfl) (Nat.le_of_ble_eq_true rfl) ⟨rfl, rfl⟩
set_option maxHeartbeats 4000000 in
set_option maxRecDepth 100000 in
theorem ct_X0_init (G : xG) (P : xMem) (L : Nat) (hP : P.length = L) (M : xMem) (hM : M = P ++ [.inr (0, [.null, .null, .null, .null])]) : xC G mX0_init 1 7 8305 [.ref L] M (fun v M2 => v = none ∧ M2 = (P ++ [.inr (0, [.ref (L + 1), .ref (L + 5), .ref (L + 6), .ref (L + 7)]), .inr (5, [.int 0, .int 0, .ref (L + 2), .ref (L + 3), .ref (L + 4)]), xz 9, xz 9, xz 81, xz 9, xz 4096, xz 4096])) := by
  subst hM
  refine xC.of (by decide) (Nat.le_of_ble_eq_true rfl) ?_
  show xW _ _ _ _ 0 [(0, .ref L)] [] _ 0 0
  refine xi_aload_n 0 dX0_init_0 rfl ?_
  refine xi_obj dX0_init_1 w_204 w_28 w_obj (Nat.le_of_ble_eq_true rfl) (Nat.le_of_ble_eq_true rfl) (Nat.le_of_ble_eq_true rfl) ?_
  refine xi_aload_n 0 dX0_init_4 rfl ?_
  refine xi_new (i := (L + 1)) (ci := 5) (fs := [.int 0, .int 0, .null, .null, .null]) (M' := (P ++ [.inr (0, [.null, .null, .null, .null]), .inr (5, [.int 0, .int 0, .null, .null, .null])])) dX0_init_5 rfl ok_5 w_205 w_56 w_5 nf_5 rfl (xpl hP rfl) (List.append_assoc _ _ _) (Nat.le_of_ble_eq_true rfl) (Nat.le_of_ble_eq_true rfl) ?_
  refine xi_dup dX0_init_8 rfl ?_
  refine xi_callIN (as := []) (rest := [.ref (L + 1), .ref L]) dX0_init_9 (ct_X5_init G (P ++ [.inr (0, [.null, .null, .null, .null])]) (L + 1) (xpl hP rfl) _ (List.append_assoc P [.inr (0, [.null, .null, .null, .null])] _).symm ) mkX5_init w_58 wn_206 rfl rfl rfl rfl (Nat.le_of_ble_eq_true rfl) (Nat.le_of_ble_eq_true rfl) (Nat.le_of_ble_eq_true rfl) (Nat.le_of_ble_eq_true rfl) (Nat.le_of_ble_eq_true rfl) ?_
  intro v M2 hq
  obtain ⟨rfl, hM2⟩ := hq
  rw [List.append_assoc] at hM2
  subst hM2
  show xW _ _ _ _ 12 _ [.ref (L + 1), .ref L] (P ++ [.inr (0, [.null, .null, .null, .null]), .inr (5, [.int 0, .int 0, .ref (L + 2), .ref (L + 3), .ref (L + 4)]), xz 9, xz 9, xz 81]) _ _
  refine xi_putF (f := 0) (ty := (.object "ThinRow$Net")) (M' := (P ++ [.inr (0, [.ref (L + 1), .null, .null, .null]), .inr (5, [.int 0, .int 0, .ref (L + 2), .ref (L + 3), .ref (L + 4)]), xz 9, xz 9, xz 81])) dX0_init_12 (xpg0 hP rfl) rfl ok_0 (by decide) w_207 rfl rfl rfl pf_LThinRow_Net_ (fun _ h => by cases h) rfl rfl (Nat.le_of_ble_eq_true rfl) (xps0 hP) ?_
  refine xi_aload_n 0 dX0_init_15 rfl ?_
  refine xi_bipush (v := 9) dX0_init_16 (by decide) ?_
  refine xi_newI (i := (L + 5)) (N := 9) (M' := (P ++ [.inr (0, [.ref (L + 1), .null, .null, .null]), .inr (5, [.int 0, .int 0, .ref (L + 2), .ref (L + 3), .ref (L + 4)]), xz 9, xz 9, xz 81, xz 9])) dX0_init_18 w_95 (by decide) (by decide) (Nat.le_of_ble_eq_true rfl) (xpl hP rfl) (List.append_assoc _ _ _) (Nat.le_of_ble_eq_true rfl) (Nat.le_of_ble_eq_true rfl) ?_
  refine xi_putF (f := 1) (ty := (.array .int)) (M' := (P ++ [.inr (0, [.ref (L + 1), .ref (L + 5), .null, .null]), .inr (5, [.int 0, .int 0, .ref (L + 2), .ref (L + 3), .ref (L + 4)]), xz 9, xz 9, xz 81, xz 9])) dX0_init_20 (xpg0 hP rfl) rfl ok_0 (by decide) w_208 rfl rfl rfl pf__I (fun _ h => by cases h) rfl rfl (Nat.le_of_ble_eq_true rfl) (xps0 hP) ?_
  refine xi_aload_n 0 dX0_init_23 rfl ?_
  refine xi_sipush (v := 4096) dX0_init_24 (by decide) ?_
  refine xi_newI (i := (L + 6)) (N := 4096) (M' := (P ++ [.inr (0, [.ref (L + 1), .ref (L + 5), .null, .null]), .inr (5, [.int 0, .int 0, .ref (L + 2), .ref (L + 3), .ref (L + 4)]), xz 9, xz 9, xz 81, xz 9, xz 4096])) dX0_init_27 w_95 (by decide) (by decide) (Nat.le_of_ble_eq_true rfl) (xpl hP rfl) (List.append_assoc _ _ _) (Nat.le_of_ble_eq_true rfl) (Nat.le_of_ble_eq_true rfl) ?_
  refine xi_putF (f := 2) (ty := (.array .int)) (M' := (P ++ [.inr (0, [.ref (L + 1), .ref (L + 5), .ref (L + 6), .null]), .inr (5, [.int 0, .int 0, .ref (L + 2), .ref (L + 3), .ref (L + 4)]), xz 9, xz 9, xz 81, xz 9, xz 4096])) dX0_init_29 (xpg0 hP rfl) rfl ok_0 (by decide) w_209 rfl rfl rfl pf__I (fun _ h => by cases h) rfl rfl (Nat.le_of_ble_eq_true rfl) (xps0 hP) ?_
  refine xi_aload_n 0 dX0_init_32 rfl ?_
  refine xi_sipush (v := 4096) dX0_init_33 (by decide) ?_
  refine xi_newI (i := (L + 7)) (N := 4096) (M' := (P ++ [.inr (0, [.ref (L + 1), .ref (L + 5), .ref (L + 6), .null]), .inr (5, [.int 0, .int 0, .ref (L + 2), .ref (L + 3), .ref (L + 4)]), xz 9, xz 9, xz 81, xz 9, xz 4096, xz 4096])) dX0_init_36 w_95 (by decide) (by decide) (Nat.le_of_ble_eq_true rfl) (xpl hP rfl) (List.append_assoc _ _ _) (Nat.le_of_ble_eq_true rfl) (Nat.le_of_ble_eq_true rfl) ?_
  refine xi_putF (f := 3) (ty := (.array .int)) (M' := (P ++ [.inr (0, [.ref (L + 1), .ref (L + 5), .ref (L + 6), .ref (L + 7)]), .inr (5, [.int 0, .int 0, .ref (L + 2), .ref (L + 3), .ref (L + 4)]), xz 9, xz 9, xz 81, xz 9, xz 4096, xz 4096])) dX0_init_38 (xpg0 hP rfl) rfl ok_0 (by decide) w_210 rfl rfl rfl pf__I (fun _ h => by cases h) rfl rfl (Nat.le_of_ble_eq_true rfl) (xps0 hP) ?_
  exact xi_vret dX0_init_41 rfl (Nat.le_of_ble_eq_true rfl) (Nat.le_of_ble_eq_true rfl) ⟨rfl, rfl⟩
set_option maxHeartbeats 4000000 in
set_option maxRecDepth 100000 in
theorem ct_X4_init (G : xG) (P : xMem) (L : Nat) (hP : P.length = L) (M : xMem) (hM : M = P ++ [.inr (4, [.int 0, .int 0, .null, .null])]) : xC G mX4_init 1 42 1060 [.ref L] M (fun v M2 => v = none ∧ M2 = (P ++ [.inr (4, [.int 0, .int 0, .ref (L + 1), .ref (L + 2)]), xz 10, .inl (2, 10, .inr (.inr (.inr (.inr (va_up (va_up (va_up (va_up (va_up (va_up (va_up (va_up (va_up (va_up (fun _ => none) 0 (some (L + 3))) 1 (some (L + 7))) 2 (some (L + 11))) 3 (some (L + 15))) 4 (some (L + 19))) 5 (some (L + 23))) 6 (some (L + 27))) 7 (some (L + 31))) 8 (some (L + 35))) 9 (some (L + 39))))))), .inr (5, [.int 0, .int 0, .ref (L + 4), .ref (L + 5), .ref (L + 6)]), xz 9, xz 9, xz 81, .inr (5, [.int 0, .int 0, .ref (L + 8), .ref (L + 9), .ref (L + 10)]), xz 9, xz 9, xz 81, .inr (5, [.int 0, .int 0, .ref (L + 12), .ref (L + 13), .ref (L + 14)]), xz 9, xz 9, xz 81, .inr (5, [.int 0, .int 0, .ref (L + 16), .ref (L + 17), .ref (L + 18)]), xz 9, xz 9, xz 81, .inr (5, [.int 0, .int 0, .ref (L + 20), .ref (L + 21), .ref (L + 22)]), xz 9, xz 9, xz 81, .inr (5, [.int 0, .int 0, .ref (L + 24), .ref (L + 25), .ref (L + 26)]), xz 9, xz 9, xz 81, .inr (5, [.int 0, .int 0, .ref (L + 28), .ref (L + 29), .ref (L + 30)]), xz 9, xz 9, xz 81, .inr (5, [.int 0, .int 0, .ref (L + 32), .ref (L + 33), .ref (L + 34)]), xz 9, xz 9, xz 81, .inr (5, [.int 0, .int 0, .ref (L + 36), .ref (L + 37), .ref (L + 38)]), xz 9, xz 9, xz 81, .inr (5, [.int 0, .int 0, .ref (L + 40), .ref (L + 41), .ref (L + 42)]), xz 9, xz 9, xz 81])) := by
  subst hM
  refine xC.of (by decide) (Nat.le_of_ble_eq_true rfl) ?_
  show xW _ _ _ _ 0 [(0, .ref L)] [] _ 0 0
  refine xi_aload_n 0 dX4_init_0 rfl ?_
  refine xi_obj dX4_init_1 w_225 w_28 w_obj (Nat.le_of_ble_eq_true rfl) (Nat.le_of_ble_eq_true rfl) (Nat.le_of_ble_eq_true rfl) ?_
  refine xi_aload_n 0 dX4_init_4 rfl ?_
  refine xi_bipush (v := 10) dX4_init_5 (by decide) ?_
  refine xi_newI (i := (L + 1)) (N := 10) (M' := (P ++ [.inr (4, [.int 0, .int 0, .null, .null]), xz 10])) dX4_init_7 w_95 (by decide) (by decide) (Nat.le_of_ble_eq_true rfl) (xpl hP rfl) (List.append_assoc _ _ _) (Nat.le_of_ble_eq_true rfl) (Nat.le_of_ble_eq_true rfl) ?_
  refine xi_putF (f := 2) (ty := (.array .int)) (M' := (P ++ [.inr (4, [.int 0, .int 0, .ref (L + 1), .null]), xz 10])) dX4_init_9 (xpg0 hP rfl) rfl ok_4 (by decide) w_231 rfl rfl rfl pf__I (fun _ h => by cases h) rfl rfl (Nat.le_of_ble_eq_true rfl) (xps0 hP) ?_
  refine xi_aload_n 0 dX4_init_12 rfl ?_
  refine xi_bipush (v := 10) dX4_init_13 (by decide) ?_
  refine xi_newQ (t := 2) (i := (L + 2)) (N := 10) (M' := (P ++ [.inr (4, [.int 0, .int 0, .ref (L + 1), .null]), xz 10, .inl (2, 10, .inr (.inr (.inr (.inr (fun _ => none)))))])) dX4_init_15 w_226 ao_2 rfl (by decide) (by decide) (Nat.le_of_ble_eq_true rfl) (xpl hP rfl) (List.append_assoc _ _ _) (Nat.le_of_ble_eq_true rfl) (Nat.le_of_ble_eq_true rfl) ?_
  refine xi_putF (f := 3) (ty := (.array (.object "ThinRow$Net"))) (M' := (P ++ [.inr (4, [.int 0, .int 0, .ref (L + 1), .ref (L + 2)]), xz 10, .inl (2, 10, .inr (.inr (.inr (.inr (fun _ => none)))))])) dX4_init_18 (xpg0 hP rfl) rfl ok_4 (by decide) w_232 rfl rfl rfl pf__LThinRow_Net_ (fun _ h => by cases h) rfl rfl (Nat.le_of_ble_eq_true rfl) (xps0 hP) ?_
  refine xi_iconst (v := 0) dX4_init_21 (by decide) ?_
  refine xi_istore_n (lv' := [(1, .int 0), (0, .ref L)]) dX4_init_22 (by decide) rfl ?_
  refine xi_iload_n 0 dX4_init_23 rfl ?_
  refine xi_bipush (v := 10) dX4_init_24 (by decide) ?_
  refine xi_icmp_ge_f (tgt := 48) dX4_init_26 (by decide) (by decide) ?_
  refine xi_aload_n 1 dX4_init_29 rfl ?_
  refine xi_get (f := 3) dX4_init_30 (xpg0 hP rfl) rfl ok_4 (by decide) w_232 rfl ?_
  refine xi_iload_n 0 dX4_init_33 rfl ?_
  refine xi_new (i := (L + 3)) (ci := 5) (fs := [.int 0, .int 0, .null, .null, .null]) (M' := (P ++ [.inr (4, [.int 0, .int 0, .ref (L + 1), .ref (L + 2)]), xz 10, .inl (2, 10, .inr (.inr (.inr (.inr (fun _ => none))))), .inr (5, [.int 0, .int 0, .null, .null, .null])])) dX4_init_34 rfl ok_5 w_226 w_56 w_5 nf_5 rfl (xpl hP rfl) (List.append_assoc _ _ _) (Nat.le_of_ble_eq_true rfl) (Nat.le_of_ble_eq_true rfl) ?_
  refine xi_dup dX4_init_37 rfl ?_
  refine xi_callIN (as := []) (rest := [.ref (L + 3), .int 0, .ref (L + 2)]) dX4_init_38 (ct_X5_init G (P ++ [.inr (4, [.int 0, .int 0, .ref (L + 1), .ref (L + 2)]), xz 10, .inl (2, 10, .inr (.inr (.inr (.inr (fun _ => none)))))]) (L + 3) (xpl hP rfl) _ (List.append_assoc P [.inr (4, [.int 0, .int 0, .ref (L + 1), .ref (L + 2)]), xz 10, .inl (2, 10, .inr (.inr (.inr (.inr (fun _ => none)))))] _).symm ) mkX5_init w_58 wn_227 rfl rfl rfl rfl (Nat.le_of_ble_eq_true rfl) (Nat.le_of_ble_eq_true rfl) (Nat.le_of_ble_eq_true rfl) (Nat.le_of_ble_eq_true rfl) (Nat.le_of_ble_eq_true rfl) ?_
  intro v M2 hq
  obtain ⟨rfl, hM2⟩ := hq
  rw [List.append_assoc] at hM2
  subst hM2
  show xW _ _ _ _ 41 _ [.ref (L + 3), .int 0, .ref (L + 2)] (P ++ [.inr (4, [.int 0, .int 0, .ref (L + 1), .ref (L + 2)]), xz 10, .inl (2, 10, .inr (.inr (.inr (.inr (fun _ => none))))), .inr (5, [.int 0, .int 0, .ref (L + 4), .ref (L + 5), .ref (L + 6)]), xz 9, xz 9, xz 81]) _ _
  refine xi_aastore (M' := (P ++ [.inr (4, [.int 0, .int 0, .ref (L + 1), .ref (L + 2)]), xz 10, .inl (2, 10, .inr (.inr (.inr (.inr (va_up (fun _ => none) 0 (some (L + 3))))))), .inr (5, [.int 0, .int 0, .ref (L + 4), .ref (L + 5), .ref (L + 6)]), xz 9, xz 9, xz 81])) dX4_init_41 (xpg hP rfl) rfl (xpg hP rfl) rfl (by unfold vp_in; decide) (xps hP) ?_
  refine xi_iinc (v := 1) (lv' := [(1, .int 1), (0, .ref L)]) 0 dX4_init_42 rfl (by decide) (by decide) rfl ?_
  refine xi_goto (tgt := 23) dX4_init_45 (by decide) ?_
  refine xi_iload_n 0 dX4_init_23 rfl ?_
  refine xi_bipush (v := 10) dX4_init_24 (by decide) ?_
  refine xi_icmp_ge_f (tgt := 48) dX4_init_26 (by decide) (by decide) ?_
  refine xi_aload_n 1 dX4_init_29 rfl ?_
  refine xi_get (f := 3) dX4_init_30 (xpg0 hP rfl) rfl ok_4 (by decide) w_232 rfl ?_
  refine xi_iload_n 0 dX4_init_33 rfl ?_
  refine xi_new (i := (L + 7)) (ci := 5) (fs := [.int 0, .int 0, .null, .null, .null]) (M' := (P ++ [.inr (4, [.int 0, .int 0, .ref (L + 1), .ref (L + 2)]), xz 10, .inl (2, 10, .inr (.inr (.inr (.inr (va_up (fun _ => none) 0 (some (L + 3))))))), .inr (5, [.int 0, .int 0, .ref (L + 4), .ref (L + 5), .ref (L + 6)]), xz 9, xz 9, xz 81, .inr (5, [.int 0, .int 0, .null, .null, .null])])) dX4_init_34 rfl ok_5 w_226 w_56 w_5 nf_5 rfl (xpl hP rfl) (List.append_assoc _ _ _) (Nat.le_of_ble_eq_true rfl) (Nat.le_of_ble_eq_true rfl) ?_
  refine xi_dup dX4_init_37 rfl ?_
  refine xi_callIN (as := []) (rest := [.ref (L + 7), .int 1, .ref (L + 2)]) dX4_init_38 (ct_X5_init G (P ++ [.inr (4, [.int 0, .int 0, .ref (L + 1), .ref (L + 2)]), xz 10, .inl (2, 10, .inr (.inr (.inr (.inr (va_up (fun _ => none) 0 (some (L + 3))))))), .inr (5, [.int 0, .int 0, .ref (L + 4), .ref (L + 5), .ref (L + 6)]), xz 9, xz 9, xz 81]) (L + 7) (xpl hP rfl) _ (List.append_assoc P [.inr (4, [.int 0, .int 0, .ref (L + 1), .ref (L + 2)]), xz 10, .inl (2, 10, .inr (.inr (.inr (.inr (va_up (fun _ => none) 0 (some (L + 3))))))), .inr (5, [.int 0, .int 0, .ref (L + 4), .ref (L + 5), .ref (L + 6)]), xz 9, xz 9, xz 81] _).symm ) mkX5_init w_58 wn_227 rfl rfl rfl rfl (Nat.le_of_ble_eq_true rfl) (Nat.le_of_ble_eq_true rfl) (Nat.le_of_ble_eq_true rfl) (Nat.le_of_ble_eq_true rfl) (Nat.le_of_ble_eq_true rfl) ?_
  intro v M2 hq
  obtain ⟨rfl, hM2⟩ := hq
  rw [List.append_assoc] at hM2
  subst hM2
  show xW _ _ _ _ 41 _ [.ref (L + 7), .int 1, .ref (L + 2)] (P ++ [.inr (4, [.int 0, .int 0, .ref (L + 1), .ref (L + 2)]), xz 10, .inl (2, 10, .inr (.inr (.inr (.inr (va_up (fun _ => none) 0 (some (L + 3))))))), .inr (5, [.int 0, .int 0, .ref (L + 4), .ref (L + 5), .ref (L + 6)]), xz 9, xz 9, xz 81, .inr (5, [.int 0, .int 0, .ref (L + 8), .ref (L + 9), .ref (L + 10)]), xz 9, xz 9, xz 81]) _ _
  refine xi_aastore (M' := (P ++ [.inr (4, [.int 0, .int 0, .ref (L + 1), .ref (L + 2)]), xz 10, .inl (2, 10, .inr (.inr (.inr (.inr (va_up (va_up (fun _ => none) 0 (some (L + 3))) 1 (some (L + 7))))))), .inr (5, [.int 0, .int 0, .ref (L + 4), .ref (L + 5), .ref (L + 6)]), xz 9, xz 9, xz 81, .inr (5, [.int 0, .int 0, .ref (L + 8), .ref (L + 9), .ref (L + 10)]), xz 9, xz 9, xz 81])) dX4_init_41 (xpg hP rfl) rfl (xpg hP rfl) rfl (by unfold vp_in; decide) (xps hP) ?_
  refine xi_iinc (v := 2) (lv' := [(1, .int 2), (0, .ref L)]) 0 dX4_init_42 rfl (by decide) (by decide) rfl ?_
  refine xi_goto (tgt := 23) dX4_init_45 (by decide) ?_
  refine xi_iload_n 0 dX4_init_23 rfl ?_
  refine xi_bipush (v := 10) dX4_init_24 (by decide) ?_
  refine xi_icmp_ge_f (tgt := 48) dX4_init_26 (by decide) (by decide) ?_
  refine xi_aload_n 1 dX4_init_29 rfl ?_
  refine xi_get (f := 3) dX4_init_30 (xpg0 hP rfl) rfl ok_4 (by decide) w_232 rfl ?_
  refine xi_iload_n 0 dX4_init_33 rfl ?_
  refine xi_new (i := (L + 11)) (ci := 5) (fs := [.int 0, .int 0, .null, .null, .null]) (M' := (P ++ [.inr (4, [.int 0, .int 0, .ref (L + 1), .ref (L + 2)]), xz 10, .inl (2, 10, .inr (.inr (.inr (.inr (va_up (va_up (fun _ => none) 0 (some (L + 3))) 1 (some (L + 7))))))), .inr (5, [.int 0, .int 0, .ref (L + 4), .ref (L + 5), .ref (L + 6)]), xz 9, xz 9, xz 81, .inr (5, [.int 0, .int 0, .ref (L + 8), .ref (L + 9), .ref (L + 10)]), xz 9, xz 9, xz 81, .inr (5, [.int 0, .int 0, .null, .null, .null])])) dX4_init_34 rfl ok_5 w_226 w_56 w_5 nf_5 rfl (xpl hP rfl) (List.append_assoc _ _ _) (Nat.le_of_ble_eq_true rfl) (Nat.le_of_ble_eq_true rfl) ?_
  refine xi_dup dX4_init_37 rfl ?_
  refine xi_callIN (as := []) (rest := [.ref (L + 11), .int 2, .ref (L + 2)]) dX4_init_38 (ct_X5_init G (P ++ [.inr (4, [.int 0, .int 0, .ref (L + 1), .ref (L + 2)]), xz 10, .inl (2, 10, .inr (.inr (.inr (.inr (va_up (va_up (fun _ => none) 0 (some (L + 3))) 1 (some (L + 7))))))), .inr (5, [.int 0, .int 0, .ref (L + 4), .ref (L + 5), .ref (L + 6)]), xz 9, xz 9, xz 81, .inr (5, [.int 0, .int 0, .ref (L + 8), .ref (L + 9), .ref (L + 10)]), xz 9, xz 9, xz 81]) (L + 11) (xpl hP rfl) _ (List.append_assoc P [.inr (4, [.int 0, .int 0, .ref (L + 1), .ref (L + 2)]), xz 10, .inl (2, 10, .inr (.inr (.inr (.inr (va_up (va_up (fun _ => none) 0 (some (L + 3))) 1 (some (L + 7))))))), .inr (5, [.int 0, .int 0, .ref (L + 4), .ref (L + 5), .ref (L + 6)]), xz 9, xz 9, xz 81, .inr (5, [.int 0, .int 0, .ref (L + 8), .ref (L + 9), .ref (L + 10)]), xz 9, xz 9, xz 81] _).symm ) mkX5_init w_58 wn_227 rfl rfl rfl rfl (Nat.le_of_ble_eq_true rfl) (Nat.le_of_ble_eq_true rfl) (Nat.le_of_ble_eq_true rfl) (Nat.le_of_ble_eq_true rfl) (Nat.le_of_ble_eq_true rfl) ?_
  intro v M2 hq
  obtain ⟨rfl, hM2⟩ := hq
  rw [List.append_assoc] at hM2
  subst hM2
  show xW _ _ _ _ 41 _ [.ref (L + 11), .int 2, .ref (L + 2)] (P ++ [.inr (4, [.int 0, .int 0, .ref (L + 1), .ref (L + 2)]), xz 10, .inl (2, 10, .inr (.inr (.inr (.inr (va_up (va_up (fun _ => none) 0 (some (L + 3))) 1 (some (L + 7))))))), .inr (5, [.int 0, .int 0, .ref (L + 4), .ref (L + 5), .ref (L + 6)]), xz 9, xz 9, xz 81, .inr (5, [.int 0, .int 0, .ref (L + 8), .ref (L + 9), .ref (L + 10)]), xz 9, xz 9, xz 81, .inr (5, [.int 0, .int 0, .ref (L + 12), .ref (L + 13), .ref (L + 14)]), xz 9, xz 9, xz 81]) _ _
  refine xi_aastore (M' := (P ++ [.inr (4, [.int 0, .int 0, .ref (L + 1), .ref (L + 2)]), xz 10, .inl (2, 10, .inr (.inr (.inr (.inr (va_up (va_up (va_up (fun _ => none) 0 (some (L + 3))) 1 (some (L + 7))) 2 (some (L + 11))))))), .inr (5, [.int 0, .int 0, .ref (L + 4), .ref (L + 5), .ref (L + 6)]), xz 9, xz 9, xz 81, .inr (5, [.int 0, .int 0, .ref (L + 8), .ref (L + 9), .ref (L + 10)]), xz 9, xz 9, xz 81, .inr (5, [.int 0, .int 0, .ref (L + 12), .ref (L + 13), .ref (L + 14)]), xz 9, xz 9, xz 81])) dX4_init_41 (xpg hP rfl) rfl (xpg hP rfl) rfl (by unfold vp_in; decide) (xps hP) ?_
  refine xi_iinc (v := 3) (lv' := [(1, .int 3), (0, .ref L)]) 0 dX4_init_42 rfl (by decide) (by decide) rfl ?_
  refine xi_goto (tgt := 23) dX4_init_45 (by decide) ?_
  refine xi_iload_n 0 dX4_init_23 rfl ?_
  refine xi_bipush (v := 10) dX4_init_24 (by decide) ?_
  refine xi_icmp_ge_f (tgt := 48) dX4_init_26 (by decide) (by decide) ?_
  refine xi_aload_n 1 dX4_init_29 rfl ?_
  refine xi_get (f := 3) dX4_init_30 (xpg0 hP rfl) rfl ok_4 (by decide) w_232 rfl ?_
  refine xi_iload_n 0 dX4_init_33 rfl ?_
  refine xi_new (i := (L + 15)) (ci := 5) (fs := [.int 0, .int 0, .null, .null, .null]) (M' := (P ++ [.inr (4, [.int 0, .int 0, .ref (L + 1), .ref (L + 2)]), xz 10, .inl (2, 10, .inr (.inr (.inr (.inr (va_up (va_up (va_up (fun _ => none) 0 (some (L + 3))) 1 (some (L + 7))) 2 (some (L + 11))))))), .inr (5, [.int 0, .int 0, .ref (L + 4), .ref (L + 5), .ref (L + 6)]), xz 9, xz 9, xz 81, .inr (5, [.int 0, .int 0, .ref (L + 8), .ref (L + 9), .ref (L + 10)]), xz 9, xz 9, xz 81, .inr (5, [.int 0, .int 0, .ref (L + 12), .ref (L + 13), .ref (L + 14)]), xz 9, xz 9, xz 81, .inr (5, [.int 0, .int 0, .null, .null, .null])])) dX4_init_34 rfl ok_5 w_226 w_56 w_5 nf_5 rfl (xpl hP rfl) (List.append_assoc _ _ _) (Nat.le_of_ble_eq_true rfl) (Nat.le_of_ble_eq_true rfl) ?_
  refine xi_dup dX4_init_37 rfl ?_
  refine xi_callIN (as := []) (rest := [.ref (L + 15), .int 3, .ref (L + 2)]) dX4_init_38 (ct_X5_init G (P ++ [.inr (4, [.int 0, .int 0, .ref (L + 1), .ref (L + 2)]), xz 10, .inl (2, 10, .inr (.inr (.inr (.inr (va_up (va_up (va_up (fun _ => none) 0 (some (L + 3))) 1 (some (L + 7))) 2 (some (L + 11))))))), .inr (5, [.int 0, .int 0, .ref (L + 4), .ref (L + 5), .ref (L + 6)]), xz 9, xz 9, xz 81, .inr (5, [.int 0, .int 0, .ref (L + 8), .ref (L + 9), .ref (L + 10)]), xz 9, xz 9, xz 81, .inr (5, [.int 0, .int 0, .ref (L + 12), .ref (L + 13), .ref (L + 14)]), xz 9, xz 9, xz 81]) (L + 15) (xpl hP rfl) _ (List.append_assoc P [.inr (4, [.int 0, .int 0, .ref (L + 1), .ref (L + 2)]), xz 10, .inl (2, 10, .inr (.inr (.inr (.inr (va_up (va_up (va_up (fun _ => none) 0 (some (L + 3))) 1 (some (L + 7))) 2 (some (L + 11))))))), .inr (5, [.int 0, .int 0, .ref (L + 4), .ref (L + 5), .ref (L + 6)]), xz 9, xz 9, xz 81, .inr (5, [.int 0, .int 0, .ref (L + 8), .ref (L + 9), .ref (L + 10)]), xz 9, xz 9, xz 81, .inr (5, [.int 0, .int 0, .ref (L + 12), .ref (L + 13), .ref (L + 14)]), xz 9, xz 9, xz 81] _).symm ) mkX5_init w_58 wn_227 rfl rfl rfl rfl (Nat.le_of_ble_eq_true rfl) (Nat.le_of_ble_eq_true rfl) (Nat.le_of_ble_eq_true rfl) (Nat.le_of_ble_eq_true rfl) (Nat.le_of_ble_eq_true rfl) ?_
  intro v M2 hq
  obtain ⟨rfl, hM2⟩ := hq
  rw [List.append_assoc] at hM2
  subst hM2
  show xW _ _ _ _ 41 _ [.ref (L + 15), .int 3, .ref (L + 2)] (P ++ [.inr (4, [.int 0, .int 0, .ref (L + 1), .ref (L + 2)]), xz 10, .inl (2, 10, .inr (.inr (.inr (.inr (va_up (va_up (va_up (fun _ => none) 0 (some (L + 3))) 1 (some (L + 7))) 2 (some (L + 11))))))), .inr (5, [.int 0, .int 0, .ref (L + 4), .ref (L + 5), .ref (L + 6)]), xz 9, xz 9, xz 81, .inr (5, [.int 0, .int 0, .ref (L + 8), .ref (L + 9), .ref (L + 10)]), xz 9, xz 9, xz 81, .inr (5, [.int 0, .int 0, .ref (L + 12), .ref (L + 13), .ref (L + 14)]), xz 9, xz 9, xz 81, .inr (5, [.int 0, .int 0, .ref (L + 16), .ref (L + 17), .ref (L + 18)]), xz 9, xz 9, xz 81]) _ _
  refine xi_aastore (M' := (P ++ [.inr (4, [.int 0, .int 0, .ref (L + 1), .ref (L + 2)]), xz 10, .inl (2, 10, .inr (.inr (.inr (.inr (va_up (va_up (va_up (va_up (fun _ => none) 0 (some (L + 3))) 1 (some (L + 7))) 2 (some (L + 11))) 3 (some (L + 15))))))), .inr (5, [.int 0, .int 0, .ref (L + 4), .ref (L + 5), .ref (L + 6)]), xz 9, xz 9, xz 81, .inr (5, [.int 0, .int 0, .ref (L + 8), .ref (L + 9), .ref (L + 10)]), xz 9, xz 9, xz 81, .inr (5, [.int 0, .int 0, .ref (L + 12), .ref (L + 13), .ref (L + 14)]), xz 9, xz 9, xz 81, .inr (5, [.int 0, .int 0, .ref (L + 16), .ref (L + 17), .ref (L + 18)]), xz 9, xz 9, xz 81])) dX4_init_41 (xpg hP rfl) rfl (xpg hP rfl) rfl (by unfold vp_in; decide) (xps hP) ?_
  refine xi_iinc (v := 4) (lv' := [(1, .int 4), (0, .ref L)]) 0 dX4_init_42 rfl (by decide) (by decide) rfl ?_
  refine xi_goto (tgt := 23) dX4_init_45 (by decide) ?_
  refine xi_iload_n 0 dX4_init_23 rfl ?_
  refine xi_bipush (v := 10) dX4_init_24 (by decide) ?_
  refine xi_icmp_ge_f (tgt := 48) dX4_init_26 (by decide) (by decide) ?_
  refine xi_aload_n 1 dX4_init_29 rfl ?_
  refine xi_get (f := 3) dX4_init_30 (xpg0 hP rfl) rfl ok_4 (by decide) w_232 rfl ?_
  refine xi_iload_n 0 dX4_init_33 rfl ?_
  refine xi_new (i := (L + 19)) (ci := 5) (fs := [.int 0, .int 0, .null, .null, .null]) (M' := (P ++ [.inr (4, [.int 0, .int 0, .ref (L + 1), .ref (L + 2)]), xz 10, .inl (2, 10, .inr (.inr (.inr (.inr (va_up (va_up (va_up (va_up (fun _ => none) 0 (some (L + 3))) 1 (some (L + 7))) 2 (some (L + 11))) 3 (some (L + 15))))))), .inr (5, [.int 0, .int 0, .ref (L + 4), .ref (L + 5), .ref (L + 6)]), xz 9, xz 9, xz 81, .inr (5, [.int 0, .int 0, .ref (L + 8), .ref (L + 9), .ref (L + 10)]), xz 9, xz 9, xz 81, .inr (5, [.int 0, .int 0, .ref (L + 12), .ref (L + 13), .ref (L + 14)]), xz 9, xz 9, xz 81, .inr (5, [.int 0, .int 0, .ref (L + 16), .ref (L + 17), .ref (L + 18)]), xz 9, xz 9, xz 81, .inr (5, [.int 0, .int 0, .null, .null, .null])])) dX4_init_34 rfl ok_5 w_226 w_56 w_5 nf_5 rfl (xpl hP rfl) (List.append_assoc _ _ _) (Nat.le_of_ble_eq_true rfl) (Nat.le_of_ble_eq_true rfl) ?_
  refine xi_dup dX4_init_37 rfl ?_
  refine xi_callIN (as := []) (rest := [.ref (L + 19), .int 4, .ref (L + 2)]) dX4_init_38 (ct_X5_init G (P ++ [.inr (4, [.int 0, .int 0, .ref (L + 1), .ref (L + 2)]), xz 10, .inl (2, 10, .inr (.inr (.inr (.inr (va_up (va_up (va_up (va_up (fun _ => none) 0 (some (L + 3))) 1 (some (L + 7))) 2 (some (L + 11))) 3 (some (L + 15))))))), .inr (5, [.int 0, .int 0, .ref (L + 4), .ref (L + 5), .ref (L + 6)]), xz 9, xz 9, xz 81, .inr (5, [.int 0, .int 0, .ref (L + 8), .ref (L + 9), .ref (L + 10)]), xz 9, xz 9, xz 81, .inr (5, [.int 0, .int 0, .ref (L + 12), .ref (L + 13), .ref (L + 14)]), xz 9, xz 9, xz 81, .inr (5, [.int 0, .int 0, .ref (L + 16), .ref (L + 17), .ref (L + 18)]), xz 9, xz 9, xz 81]) (L + 19) (xpl hP rfl) _ (List.append_assoc P [.inr (4, [.int 0, .int 0, .ref (L + 1), .ref (L + 2)]), xz 10, .inl (2, 10, .inr (.inr (.inr (.inr (va_up (va_up (va_up (va_up (fun _ => none) 0 (some (L + 3))) 1 (some (L + 7))) 2 (some (L + 11))) 3 (some (L + 15))))))), .inr (5, [.int 0, .int 0, .ref (L + 4), .ref (L + 5), .ref (L + 6)]), xz 9, xz 9, xz 81, .inr (5, [.int 0, .int 0, .ref (L + 8), .ref (L + 9), .ref (L + 10)]), xz 9, xz 9, xz 81, .inr (5, [.int 0, .int 0, .ref (L + 12), .ref (L + 13), .ref (L + 14)]), xz 9, xz 9, xz 81, .inr (5, [.int 0, .int 0, .ref (L + 16), .ref (L + 17), .ref (L + 18)]), xz 9, xz 9, xz 81] _).symm ) mkX5_init w_58 wn_227 rfl rfl rfl rfl (Nat.le_of_ble_eq_true rfl) (Nat.le_of_ble_eq_true rfl) (Nat.le_of_ble_eq_true rfl) (Nat.le_of_ble_eq_true rfl) (Nat.le_of_ble_eq_true rfl) ?_
  intro v M2 hq
  obtain ⟨rfl, hM2⟩ := hq
  rw [List.append_assoc] at hM2
  subst hM2
  show xW _ _ _ _ 41 _ [.ref (L + 19), .int 4, .ref (L + 2)] (P ++ [.inr (4, [.int 0, .int 0, .ref (L + 1), .ref (L + 2)]), xz 10, .inl (2, 10, .inr (.inr (.inr (.inr (va_up (va_up (va_up (va_up (fun _ => none) 0 (some (L + 3))) 1 (some (L + 7))) 2 (some (L + 11))) 3 (some (L + 15))))))), .inr (5, [.int 0, .int 0, .ref (L + 4), .ref (L + 5), .ref (L + 6)]), xz 9, xz 9, xz 81, .inr (5, [.int 0, .int 0, .ref (L + 8), .ref (L + 9), .ref (L + 10)]), xz 9, xz 9, xz 81, .inr (5, [.int 0, .int 0, .ref (L + 12), .ref (L + 13), .ref (L + 14)]), xz 9, xz 9, xz 81, .inr (5, [.int 0, .int 0, .ref (L + 16), .ref (L + 17), .ref (L + 18)]), xz 9, xz 9, xz 81, .inr (5, [.int 0, .int 0, .ref (L + 20), .ref (L + 21), .ref (L + 22)]), xz 9, xz 9, xz 81]) _ _
  refine xi_aastore (M' := (P ++ [.inr (4, [.int 0, .int 0, .ref (L + 1), .ref (L + 2)]), xz 10, .inl (2, 10, .inr (.inr (.inr (.inr (va_up (va_up (va_up (va_up (va_up (fun _ => none) 0 (some (L + 3))) 1 (some (L + 7))) 2 (some (L + 11))) 3 (some (L + 15))) 4 (some (L + 19))))))), .inr (5, [.int 0, .int 0, .ref (L + 4), .ref (L + 5), .ref (L + 6)]), xz 9, xz 9, xz 81, .inr (5, [.int 0, .int 0, .ref (L + 8), .ref (L + 9), .ref (L + 10)]), xz 9, xz 9, xz 81, .inr (5, [.int 0, .int 0, .ref (L + 12), .ref (L + 13), .ref (L + 14)]), xz 9, xz 9, xz 81, .inr (5, [.int 0, .int 0, .ref (L + 16), .ref (L + 17), .ref (L + 18)]), xz 9, xz 9, xz 81, .inr (5, [.int 0, .int 0, .ref (L + 20), .ref (L + 21), .ref (L + 22)]), xz 9, xz 9, xz 81])) dX4_init_41 (xpg hP rfl) rfl (xpg hP rfl) rfl (by unfold vp_in; decide) (xps hP) ?_
  refine xi_iinc (v := 5) (lv' := [(1, .int 5), (0, .ref L)]) 0 dX4_init_42 rfl (by decide) (by decide) rfl ?_
  refine xi_goto (tgt := 23) dX4_init_45 (by decide) ?_
  refine xi_iload_n 0 dX4_init_23 rfl ?_
  refine xi_bipush (v := 10) dX4_init_24 (by decide) ?_
  refine xi_icmp_ge_f (tgt := 48) dX4_init_26 (by decide) (by decide) ?_
  refine xi_aload_n 1 dX4_init_29 rfl ?_
  refine xi_get (f := 3) dX4_init_30 (xpg0 hP rfl) rfl ok_4 (by decide) w_232 rfl ?_
  refine xi_iload_n 0 dX4_init_33 rfl ?_
  refine xi_new (i := (L + 23)) (ci := 5) (fs := [.int 0, .int 0, .null, .null, .null]) (M' := (P ++ [.inr (4, [.int 0, .int 0, .ref (L + 1), .ref (L + 2)]), xz 10, .inl (2, 10, .inr (.inr (.inr (.inr (va_up (va_up (va_up (va_up (va_up (fun _ => none) 0 (some (L + 3))) 1 (some (L + 7))) 2 (some (L + 11))) 3 (some (L + 15))) 4 (some (L + 19))))))), .inr (5, [.int 0, .int 0, .ref (L + 4), .ref (L + 5), .ref (L + 6)]), xz 9, xz 9, xz 81, .inr (5, [.int 0, .int 0, .ref (L + 8), .ref (L + 9), .ref (L + 10)]), xz 9, xz 9, xz 81, .inr (5, [.int 0, .int 0, .ref (L + 12), .ref (L + 13), .ref (L + 14)]), xz 9, xz 9, xz 81, .inr (5, [.int 0, .int 0, .ref (L + 16), .ref (L + 17), .ref (L + 18)]), xz 9, xz 9, xz 81, .inr (5, [.int 0, .int 0, .ref (L + 20), .ref (L + 21), .ref (L + 22)]), xz 9, xz 9, xz 81, .inr (5, [.int 0, .int 0, .null, .null, .null])])) dX4_init_34 rfl ok_5 w_226 w_56 w_5 nf_5 rfl (xpl hP rfl) (List.append_assoc _ _ _) (Nat.le_of_ble_eq_true rfl) (Nat.le_of_ble_eq_true rfl) ?_
  refine xi_dup dX4_init_37 rfl ?_
  refine xi_callIN (as := []) (rest := [.ref (L + 23), .int 5, .ref (L + 2)]) dX4_init_38 (ct_X5_init G (P ++ [.inr (4, [.int 0, .int 0, .ref (L + 1), .ref (L + 2)]), xz 10, .inl (2, 10, .inr (.inr (.inr (.inr (va_up (va_up (va_up (va_up (va_up (fun _ => none) 0 (some (L + 3))) 1 (some (L + 7))) 2 (some (L + 11))) 3 (some (L + 15))) 4 (some (L + 19))))))), .inr (5, [.int 0, .int 0, .ref (L + 4), .ref (L + 5), .ref (L + 6)]), xz 9, xz 9, xz 81, .inr (5, [.int 0, .int 0, .ref (L + 8), .ref (L + 9), .ref (L + 10)]), xz 9, xz 9, xz 81, .inr (5, [.int 0, .int 0, .ref (L + 12), .ref (L + 13), .ref (L + 14)]), xz 9, xz 9, xz 81, .inr (5, [.int 0, .int 0, .ref (L + 16), .ref (L + 17), .ref (L + 18)]), xz 9, xz 9, xz 81, .inr (5, [.int 0, .int 0, .ref (L + 20), .ref (L + 21), .ref (L + 22)]), xz 9, xz 9, xz 81]) (L + 23) (xpl hP rfl) _ (List.append_assoc P [.inr (4, [.int 0, .int 0, .ref (L + 1), .ref (L + 2)]), xz 10, .inl (2, 10, .inr (.inr (.inr (.inr (va_up (va_up (va_up (va_up (va_up (fun _ => none) 0 (some (L + 3))) 1 (some (L + 7))) 2 (some (L + 11))) 3 (some (L + 15))) 4 (some (L + 19))))))), .inr (5, [.int 0, .int 0, .ref (L + 4), .ref (L + 5), .ref (L + 6)]), xz 9, xz 9, xz 81, .inr (5, [.int 0, .int 0, .ref (L + 8), .ref (L + 9), .ref (L + 10)]), xz 9, xz 9, xz 81, .inr (5, [.int 0, .int 0, .ref (L + 12), .ref (L + 13), .ref (L + 14)]), xz 9, xz 9, xz 81, .inr (5, [.int 0, .int 0, .ref (L + 16), .ref (L + 17), .ref (L + 18)]), xz 9, xz 9, xz 81, .inr (5, [.int 0, .int 0, .ref (L + 20), .ref (L + 21), .ref (L + 22)]), xz 9, xz 9, xz 81] _).symm ) mkX5_init w_58 wn_227 rfl rfl rfl rfl (Nat.le_of_ble_eq_true rfl) (Nat.le_of_ble_eq_true rfl) (Nat.le_of_ble_eq_true rfl) (Nat.le_of_ble_eq_true rfl) (Nat.le_of_ble_eq_true rfl) ?_
  intro v M2 hq
  obtain ⟨rfl, hM2⟩ := hq
  rw [List.append_assoc] at hM2
  subst hM2
  show xW _ _ _ _ 41 _ [.ref (L + 23), .int 5, .ref (L + 2)] (P ++ [.inr (4, [.int 0, .int 0, .ref (L + 1), .ref (L + 2)]), xz 10, .inl (2, 10, .inr (.inr (.inr (.inr (va_up (va_up (va_up (va_up (va_up (fun _ => none) 0 (some (L + 3))) 1 (some (L + 7))) 2 (some (L + 11))) 3 (some (L + 15))) 4 (some (L + 19))))))), .inr (5, [.int 0, .int 0, .ref (L + 4), .ref (L + 5), .ref (L + 6)]), xz 9, xz 9, xz 81, .inr (5, [.int 0, .int 0, .ref (L + 8), .ref (L + 9), .ref (L + 10)]), xz 9, xz 9, xz 81, .inr (5, [.int 0, .int 0, .ref (L + 12), .ref (L + 13), .ref (L + 14)]), xz 9, xz 9, xz 81, .inr (5, [.int 0, .int 0, .ref (L + 16), .ref (L + 17), .ref (L + 18)]), xz 9, xz 9, xz 81, .inr (5, [.int 0, .int 0, .ref (L + 20), .ref (L + 21), .ref (L + 22)]), xz 9, xz 9, xz 81, .inr (5, [.int 0, .int 0, .ref (L + 24), .ref (L + 25), .ref (L + 26)]), xz 9, xz 9, xz 81]) _ _
  refine xi_aastore (M' := (P ++ [.inr (4, [.int 0, .int 0, .ref (L + 1), .ref (L + 2)]), xz 10, .inl (2, 10, .inr (.inr (.inr (.inr (va_up (va_up (va_up (va_up (va_up (va_up (fun _ => none) 0 (some (L + 3))) 1 (some (L + 7))) 2 (some (L + 11))) 3 (some (L + 15))) 4 (some (L + 19))) 5 (some (L + 23))))))), .inr (5, [.int 0, .int 0, .ref (L + 4), .ref (L + 5), .ref (L + 6)]), xz 9, xz 9, xz 81, .inr (5, [.int 0, .int 0, .ref (L + 8), .ref (L + 9), .ref (L + 10)]), xz 9, xz 9, xz 81, .inr (5, [.int 0, .int 0, .ref (L + 12), .ref (L + 13), .ref (L + 14)]), xz 9, xz 9, xz 81, .inr (5, [.int 0, .int 0, .ref (L + 16), .ref (L + 17), .ref (L + 18)]), xz 9, xz 9, xz 81, .inr (5, [.int 0, .int 0, .ref (L + 20), .ref (L + 21), .ref (L + 22)]), xz 9, xz 9, xz 81, .inr (5, [.int 0, .int 0, .ref (L + 24), .ref (L + 25), .ref (L + 26)]), xz 9, xz 9, xz 81])) dX4_init_41 (xpg hP rfl) rfl (xpg hP rfl) rfl (by unfold vp_in; decide) (xps hP) ?_
  refine xi_iinc (v := 6) (lv' := [(1, .int 6), (0, .ref L)]) 0 dX4_init_42 rfl (by decide) (by decide) rfl ?_
  refine xi_goto (tgt := 23) dX4_init_45 (by decide) ?_
  refine xi_iload_n 0 dX4_init_23 rfl ?_
  refine xi_bipush (v := 10) dX4_init_24 (by decide) ?_
  refine xi_icmp_ge_f (tgt := 48) dX4_init_26 (by decide) (by decide) ?_
  refine xi_aload_n 1 dX4_init_29 rfl ?_
  refine xi_get (f := 3) dX4_init_30 (xpg0 hP rfl) rfl ok_4 (by decide) w_232 rfl ?_
  refine xi_iload_n 0 dX4_init_33 rfl ?_
  refine xi_new (i := (L + 27)) (ci := 5) (fs := [.int 0, .int 0, .null, .null, .null]) (M' := (P ++ [.inr (4, [.int 0, .int 0, .ref (L + 1), .ref (L + 2)]), xz 10, .inl (2, 10, .inr (.inr (.inr (.inr (va_up (va_up (va_up (va_up (va_up (va_up (fun _ => none) 0 (some (L + 3))) 1 (some (L + 7))) 2 (some (L + 11))) 3 (some (L + 15))) 4 (some (L + 19))) 5 (some (L + 23))))))), .inr (5, [.int 0, .int 0, .ref (L + 4), .ref (L + 5), .ref (L + 6)]), xz 9, xz 9, xz 81, .inr (5, [.int 0, .int 0, .ref (L + 8), .ref (L + 9), .ref (L + 10)]), xz 9, xz 9, xz 81, .inr (5, [.int 0, .int 0, .ref (L + 12), .ref (L + 13), .ref (L + 14)]), xz 9, xz 9, xz 81, .inr (5, [.int 0, .int 0, .ref (L + 16), .ref (L + 17), .ref (L + 18)]), xz 9, xz 9, xz 81, .inr (5, [.int 0, .int 0, .ref (L + 20), .ref (L + 21), .ref (L + 22)]), xz 9, xz 9, xz 81, .inr (5, [.int 0, .int 0, .ref (L + 24), .ref (L + 25), .ref (L + 26)]), xz 9, xz 9, xz 81, .inr (5, [.int 0, .int 0, .null, .null, .null])])) dX4_init_34 rfl ok_5 w_226 w_56 w_5 nf_5 rfl (xpl hP rfl) (List.append_assoc _ _ _) (Nat.le_of_ble_eq_true rfl) (Nat.le_of_ble_eq_true rfl) ?_
  refine xi_dup dX4_init_37 rfl ?_
  refine xi_callIN (as := []) (rest := [.ref (L + 27), .int 6, .ref (L + 2)]) dX4_init_38 (ct_X5_init G (P ++ [.inr (4, [.int 0, .int 0, .ref (L + 1), .ref (L + 2)]), xz 10, .inl (2, 10, .inr (.inr (.inr (.inr (va_up (va_up (va_up (va_up (va_up (va_up (fun _ => none) 0 (some (L + 3))) 1 (some (L + 7))) 2 (some (L + 11))) 3 (some (L + 15))) 4 (some (L + 19))) 5 (some (L + 23))))))), .inr (5, [.int 0, .int 0, .ref (L + 4), .ref (L + 5), .ref (L + 6)]), xz 9, xz 9, xz 81, .inr (5, [.int 0, .int 0, .ref (L + 8), .ref (L + 9), .ref (L + 10)]), xz 9, xz 9, xz 81, .inr (5, [.int 0, .int 0, .ref (L + 12), .ref (L + 13), .ref (L + 14)]), xz 9, xz 9, xz 81, .inr (5, [.int 0, .int 0, .ref (L + 16), .ref (L + 17), .ref (L + 18)]), xz 9, xz 9, xz 81, .inr (5, [.int 0, .int 0, .ref (L + 20), .ref (L + 21), .ref (L + 22)]), xz 9, xz 9, xz 81, .inr (5, [.int 0, .int 0, .ref (L + 24), .ref (L + 25), .ref (L + 26)]), xz 9, xz 9, xz 81]) (L + 27) (xpl hP rfl) _ (List.append_assoc P [.inr (4, [.int 0, .int 0, .ref (L + 1), .ref (L + 2)]), xz 10, .inl (2, 10, .inr (.inr (.inr (.inr (va_up (va_up (va_up (va_up (va_up (va_up (fun _ => none) 0 (some (L + 3))) 1 (some (L + 7))) 2 (some (L + 11))) 3 (some (L + 15))) 4 (some (L + 19))) 5 (some (L + 23))))))), .inr (5, [.int 0, .int 0, .ref (L + 4), .ref (L + 5), .ref (L + 6)]), xz 9, xz 9, xz 81, .inr (5, [.int 0, .int 0, .ref (L + 8), .ref (L + 9), .ref (L + 10)]), xz 9, xz 9, xz 81, .inr (5, [.int 0, .int 0, .ref (L + 12), .ref (L + 13), .ref (L + 14)]), xz 9, xz 9, xz 81, .inr (5, [.int 0, .int 0, .ref (L + 16), .ref (L + 17), .ref (L + 18)]), xz 9, xz 9, xz 81, .inr (5, [.int 0, .int 0, .ref (L + 20), .ref (L + 21), .ref (L + 22)]), xz 9, xz 9, xz 81, .inr (5, [.int 0, .int 0, .ref (L + 24), .ref (L + 25), .ref (L + 26)]), xz 9, xz 9, xz 81] _).symm ) mkX5_init w_58 wn_227 rfl rfl rfl rfl (Nat.le_of_ble_eq_true rfl) (Nat.le_of_ble_eq_true rfl) (Nat.le_of_ble_eq_true rfl) (Nat.le_of_ble_eq_true rfl) (Nat.le_of_ble_eq_true rfl) ?_
  intro v M2 hq
  obtain ⟨rfl, hM2⟩ := hq
  rw [List.append_assoc] at hM2
  subst hM2
  show xW _ _ _ _ 41 _ [.ref (L + 27), .int 6, .ref (L + 2)] (P ++ [.inr (4, [.int 0, .int 0, .ref (L + 1), .ref (L + 2)]), xz 10, .inl (2, 10, .inr (.inr (.inr (.inr (va_up (va_up (va_up (va_up (va_up (va_up (fun _ => none) 0 (some (L + 3))) 1 (some (L + 7))) 2 (some (L + 11))) 3 (some (L + 15))) 4 (some (L + 19))) 5 (some (L + 23))))))), .inr (5, [.int 0, .int 0, .ref (L + 4), .ref (L + 5), .ref (L + 6)]), xz 9, xz 9, xz 81, .inr (5, [.int 0, .int 0, .ref (L + 8), .ref (L + 9), .ref (L + 10)]), xz 9, xz 9, xz 81, .inr (5, [.int 0, .int 0, .ref (L + 12), .ref (L + 13), .ref (L + 14)]), xz 9, xz 9, xz 81, .inr (5, [.int 0, .int 0, .ref (L + 16), .ref (L + 17), .ref (L + 18)]), xz 9, xz 9, xz 81, .inr (5, [.int 0, .int 0, .ref (L + 20), .ref (L + 21), .ref (L + 22)]), xz 9, xz 9, xz 81, .inr (5, [.int 0, .int 0, .ref (L + 24), .ref (L + 25), .ref (L + 26)]), xz 9, xz 9, xz 81, .inr (5, [.int 0, .int 0, .ref (L + 28), .ref (L + 29), .ref (L + 30)]), xz 9, xz 9, xz 81]) _ _
  refine xi_aastore (M' := (P ++ [.inr (4, [.int 0, .int 0, .ref (L + 1), .ref (L + 2)]), xz 10, .inl (2, 10, .inr (.inr (.inr (.inr (va_up (va_up (va_up (va_up (va_up (va_up (va_up (fun _ => none) 0 (some (L + 3))) 1 (some (L + 7))) 2 (some (L + 11))) 3 (some (L + 15))) 4 (some (L + 19))) 5 (some (L + 23))) 6 (some (L + 27))))))), .inr (5, [.int 0, .int 0, .ref (L + 4), .ref (L + 5), .ref (L + 6)]), xz 9, xz 9, xz 81, .inr (5, [.int 0, .int 0, .ref (L + 8), .ref (L + 9), .ref (L + 10)]), xz 9, xz 9, xz 81, .inr (5, [.int 0, .int 0, .ref (L + 12), .ref (L + 13), .ref (L + 14)]), xz 9, xz 9, xz 81, .inr (5, [.int 0, .int 0, .ref (L + 16), .ref (L + 17), .ref (L + 18)]), xz 9, xz 9, xz 81, .inr (5, [.int 0, .int 0, .ref (L + 20), .ref (L + 21), .ref (L + 22)]), xz 9, xz 9, xz 81, .inr (5, [.int 0, .int 0, .ref (L + 24), .ref (L + 25), .ref (L + 26)]), xz 9, xz 9, xz 81, .inr (5, [.int 0, .int 0, .ref (L + 28), .ref (L + 29), .ref (L + 30)]), xz 9, xz 9, xz 81])) dX4_init_41 (xpg hP rfl) rfl (xpg hP rfl) rfl (by unfold vp_in; decide) (xps hP) ?_
  refine xi_iinc (v := 7) (lv' := [(1, .int 7), (0, .ref L)]) 0 dX4_init_42 rfl (by decide) (by decide) rfl ?_
  refine xi_goto (tgt := 23) dX4_init_45 (by decide) ?_
  refine xi_iload_n 0 dX4_init_23 rfl ?_
  refine xi_bipush (v := 10) dX4_init_24 (by decide) ?_
  refine xi_icmp_ge_f (tgt := 48) dX4_init_26 (by decide) (by decide) ?_
  refine xi_aload_n 1 dX4_init_29 rfl ?_
  refine xi_get (f := 3) dX4_init_30 (xpg0 hP rfl) rfl ok_4 (by decide) w_232 rfl ?_
  refine xi_iload_n 0 dX4_init_33 rfl ?_
  refine xi_new (i := (L + 31)) (ci := 5) (fs := [.int 0, .int 0, .null, .null, .null]) (M' := (P ++ [.inr (4, [.int 0, .int 0, .ref (L + 1), .ref (L + 2)]), xz 10, .inl (2, 10, .inr (.inr (.inr (.inr (va_up (va_up (va_up (va_up (va_up (va_up (va_up (fun _ => none) 0 (some (L + 3))) 1 (some (L + 7))) 2 (some (L + 11))) 3 (some (L + 15))) 4 (some (L + 19))) 5 (some (L + 23))) 6 (some (L + 27))))))), .inr (5, [.int 0, .int 0, .ref (L + 4), .ref (L + 5), .ref (L + 6)]), xz 9, xz 9, xz 81, .inr (5, [.int 0, .int 0, .ref (L + 8), .ref (L + 9), .ref (L + 10)]), xz 9, xz 9, xz 81, .inr (5, [.int 0, .int 0, .ref (L + 12), .ref (L + 13), .ref (L + 14)]), xz 9, xz 9, xz 81, .inr (5, [.int 0, .int 0, .ref (L + 16), .ref (L + 17), .ref (L + 18)]), xz 9, xz 9, xz 81, .inr (5, [.int 0, .int 0, .ref (L + 20), .ref (L + 21), .ref (L + 22)]), xz 9, xz 9, xz 81, .inr (5, [.int 0, .int 0, .ref (L + 24), .ref (L + 25), .ref (L + 26)]), xz 9, xz 9, xz 81, .inr (5, [.int 0, .int 0, .ref (L + 28), .ref (L + 29), .ref (L + 30)]), xz 9, xz 9, xz 81, .inr (5, [.int 0, .int 0, .null, .null, .null])])) dX4_init_34 rfl ok_5 w_226 w_56 w_5 nf_5 rfl (xpl hP rfl) (List.append_assoc _ _ _) (Nat.le_of_ble_eq_true rfl) (Nat.le_of_ble_eq_true rfl) ?_
  refine xi_dup dX4_init_37 rfl ?_
  refine xi_callIN (as := []) (rest := [.ref (L + 31), .int 7, .ref (L + 2)]) dX4_init_38 (ct_X5_init G (P ++ [.inr (4, [.int 0, .int 0, .ref (L + 1), .ref (L + 2)]), xz 10, .inl (2, 10, .inr (.inr (.inr (.inr (va_up (va_up (va_up (va_up (va_up (va_up (va_up (fun _ => none) 0 (some (L + 3))) 1 (some (L + 7))) 2 (some (L + 11))) 3 (some (L + 15))) 4 (some (L + 19))) 5 (some (L + 23))) 6 (some (L + 27))))))), .inr (5, [.int 0, .int 0, .ref (L + 4), .ref (L + 5), .ref (L + 6)]), xz 9, xz 9, xz 81, .inr (5, [.int 0, .int 0, .ref (L + 8), .ref (L + 9), .ref (L + 10)]), xz 9, xz 9, xz 81, .inr (5, [.int 0, .int 0, .ref (L + 12), .ref (L + 13), .ref (L + 14)]), xz 9, xz 9, xz 81, .inr (5, [.int 0, .int 0, .ref (L + 16), .ref (L + 17), .ref (L + 18)]), xz 9, xz 9, xz 81, .inr (5, [.int 0, .int 0, .ref (L + 20), .ref (L + 21), .ref (L + 22)]), xz 9, xz 9, xz 81, .inr (5, [.int 0, .int 0, .ref (L + 24), .ref (L + 25), .ref (L + 26)]), xz 9, xz 9, xz 81, .inr (5, [.int 0, .int 0, .ref (L + 28), .ref (L + 29), .ref (L + 30)]), xz 9, xz 9, xz 81]) (L + 31) (xpl hP rfl) _ (List.append_assoc P [.inr (4, [.int 0, .int 0, .ref (L + 1), .ref (L + 2)]), xz 10, .inl (2, 10, .inr (.inr (.inr (.inr (va_up (va_up (va_up (va_up (va_up (va_up (va_up (fun _ => none) 0 (some (L + 3))) 1 (some (L + 7))) 2 (some (L + 11))) 3 (some (L + 15))) 4 (some (L + 19))) 5 (some (L + 23))) 6 (some (L + 27))))))), .inr (5, [.int 0, .int 0, .ref (L + 4), .ref (L + 5), .ref (L + 6)]), xz 9, xz 9, xz 81, .inr (5, [.int 0, .int 0, .ref (L + 8), .ref (L + 9), .ref (L + 10)]), xz 9, xz 9, xz 81, .inr (5, [.int 0, .int 0, .ref (L + 12), .ref (L + 13), .ref (L + 14)]), xz 9, xz 9, xz 81, .inr (5, [.int 0, .int 0, .ref (L + 16), .ref (L + 17), .ref (L + 18)]), xz 9, xz 9, xz 81, .inr (5, [.int 0, .int 0, .ref (L + 20), .ref (L + 21), .ref (L + 22)]), xz 9, xz 9, xz 81, .inr (5, [.int 0, .int 0, .ref (L + 24), .ref (L + 25), .ref (L + 26)]), xz 9, xz 9, xz 81, .inr (5, [.int 0, .int 0, .ref (L + 28), .ref (L + 29), .ref (L + 30)]), xz 9, xz 9, xz 81] _).symm ) mkX5_init w_58 wn_227 rfl rfl rfl rfl (Nat.le_of_ble_eq_true rfl) (Nat.le_of_ble_eq_true rfl) (Nat.le_of_ble_eq_true rfl) (Nat.le_of_ble_eq_true rfl) (Nat.le_of_ble_eq_true rfl) ?_
  intro v M2 hq
  obtain ⟨rfl, hM2⟩ := hq
  rw [List.append_assoc] at hM2
  subst hM2
  show xW _ _ _ _ 41 _ [.ref (L + 31), .int 7, .ref (L + 2)] (P ++ [.inr (4, [.int 0, .int 0, .ref (L + 1), .ref (L + 2)]), xz 10, .inl (2, 10, .inr (.inr (.inr (.inr (va_up (va_up (va_up (va_up (va_up (va_up (va_up (fun _ => none) 0 (some (L + 3))) 1 (some (L + 7))) 2 (some (L + 11))) 3 (some (L + 15))) 4 (some (L + 19))) 5 (some (L + 23))) 6 (some (L + 27))))))), .inr (5, [.int 0, .int 0, .ref (L + 4), .ref (L + 5), .ref (L + 6)]), xz 9, xz 9, xz 81, .inr (5, [.int 0, .int 0, .ref (L + 8), .ref (L + 9), .ref (L + 10)]), xz 9, xz 9, xz 81, .inr (5, [.int 0, .int 0, .ref (L + 12), .ref (L + 13), .ref (L + 14)]), xz 9, xz 9, xz 81, .inr (5, [.int 0, .int 0, .ref (L + 16), .ref (L + 17), .ref (L + 18)]), xz 9, xz 9, xz 81, .inr (5, [.int 0, .int 0, .ref (L + 20), .ref (L + 21), .ref (L + 22)]), xz 9, xz 9, xz 81, .inr (5, [.int 0, .int 0, .ref (L + 24), .ref (L + 25), .ref (L + 26)]), xz 9, xz 9, xz 81, .inr (5, [.int 0, .int 0, .ref (L + 28), .ref (L + 29), .ref (L + 30)]), xz 9, xz 9, xz 81, .inr (5, [.int 0, .int 0, .ref (L + 32), .ref (L + 33), .ref (L + 34)]), xz 9, xz 9, xz 81]) _ _
  refine xi_aastore (M' := (P ++ [.inr (4, [.int 0, .int 0, .ref (L + 1), .ref (L + 2)]), xz 10, .inl (2, 10, .inr (.inr (.inr (.inr (va_up (va_up (va_up (va_up (va_up (va_up (va_up (va_up (fun _ => none) 0 (some (L + 3))) 1 (some (L + 7))) 2 (some (L + 11))) 3 (some (L + 15))) 4 (some (L + 19))) 5 (some (L + 23))) 6 (some (L + 27))) 7 (some (L + 31))))))), .inr (5, [.int 0, .int 0, .ref (L + 4), .ref (L + 5), .ref (L + 6)]), xz 9, xz 9, xz 81, .inr (5, [.int 0, .int 0, .ref (L + 8), .ref (L + 9), .ref (L + 10)]), xz 9, xz 9, xz 81, .inr (5, [.int 0, .int 0, .ref (L + 12), .ref (L + 13), .ref (L + 14)]), xz 9, xz 9, xz 81, .inr (5, [.int 0, .int 0, .ref (L + 16), .ref (L + 17), .ref (L + 18)]), xz 9, xz 9, xz 81, .inr (5, [.int 0, .int 0, .ref (L + 20), .ref (L + 21), .ref (L + 22)]), xz 9, xz 9, xz 81, .inr (5, [.int 0, .int 0, .ref (L + 24), .ref (L + 25), .ref (L + 26)]), xz 9, xz 9, xz 81, .inr (5, [.int 0, .int 0, .ref (L + 28), .ref (L + 29), .ref (L + 30)]), xz 9, xz 9, xz 81, .inr (5, [.int 0, .int 0, .ref (L + 32), .ref (L + 33), .ref (L + 34)]), xz 9, xz 9, xz 81])) dX4_init_41 (xpg hP rfl) rfl (xpg hP rfl) rfl (by unfold vp_in; decide) (xps hP) ?_
  refine xi_iinc (v := 8) (lv' := [(1, .int 8), (0, .ref L)]) 0 dX4_init_42 rfl (by decide) (by decide) rfl ?_
  refine xi_goto (tgt := 23) dX4_init_45 (by decide) ?_
  refine xi_iload_n 0 dX4_init_23 rfl ?_
  refine xi_bipush (v := 10) dX4_init_24 (by decide) ?_
  refine xi_icmp_ge_f (tgt := 48) dX4_init_26 (by decide) (by decide) ?_
  refine xi_aload_n 1 dX4_init_29 rfl ?_
  refine xi_get (f := 3) dX4_init_30 (xpg0 hP rfl) rfl ok_4 (by decide) w_232 rfl ?_
  refine xi_iload_n 0 dX4_init_33 rfl ?_
  refine xi_new (i := (L + 35)) (ci := 5) (fs := [.int 0, .int 0, .null, .null, .null]) (M' := (P ++ [.inr (4, [.int 0, .int 0, .ref (L + 1), .ref (L + 2)]), xz 10, .inl (2, 10, .inr (.inr (.inr (.inr (va_up (va_up (va_up (va_up (va_up (va_up (va_up (va_up (fun _ => none) 0 (some (L + 3))) 1 (some (L + 7))) 2 (some (L + 11))) 3 (some (L + 15))) 4 (some (L + 19))) 5 (some (L + 23))) 6 (some (L + 27))) 7 (some (L + 31))))))), .inr (5, [.int 0, .int 0, .ref (L + 4), .ref (L + 5), .ref (L + 6)]), xz 9, xz 9, xz 81, .inr (5, [.int 0, .int 0, .ref (L + 8), .ref (L + 9), .ref (L + 10)]), xz 9, xz 9, xz 81, .inr (5, [.int 0, .int 0, .ref (L + 12), .ref (L + 13), .ref (L + 14)]), xz 9, xz 9, xz 81, .inr (5, [.int 0, .int 0, .ref (L + 16), .ref (L + 17), .ref (L + 18)]), xz 9, xz 9, xz 81, .inr (5, [.int 0, .int 0, .ref (L + 20), .ref (L + 21), .ref (L + 22)]), xz 9, xz 9, xz 81, .inr (5, [.int 0, .int 0, .ref (L + 24), .ref (L + 25), .ref (L + 26)]), xz 9, xz 9, xz 81, .inr (5, [.int 0, .int 0, .ref (L + 28), .ref (L + 29), .ref (L + 30)]), xz 9, xz 9, xz 81, .inr (5, [.int 0, .int 0, .ref (L + 32), .ref (L + 33), .ref (L + 34)]), xz 9, xz 9, xz 81, .inr (5, [.int 0, .int 0, .null, .null, .null])])) dX4_init_34 rfl ok_5 w_226 w_56 w_5 nf_5 rfl (xpl hP rfl) (List.append_assoc _ _ _) (Nat.le_of_ble_eq_true rfl) (Nat.le_of_ble_eq_true rfl) ?_
  refine xi_dup dX4_init_37 rfl ?_
  refine xi_callIN (as := []) (rest := [.ref (L + 35), .int 8, .ref (L + 2)]) dX4_init_38 (ct_X5_init G (P ++ [.inr (4, [.int 0, .int 0, .ref (L + 1), .ref (L + 2)]), xz 10, .inl (2, 10, .inr (.inr (.inr (.inr (va_up (va_up (va_up (va_up (va_up (va_up (va_up (va_up (fun _ => none) 0 (some (L + 3))) 1 (some (L + 7))) 2 (some (L + 11))) 3 (some (L + 15))) 4 (some (L + 19))) 5 (some (L + 23))) 6 (some (L + 27))) 7 (some (L + 31))))))), .inr (5, [.int 0, .int 0, .ref (L + 4), .ref (L + 5), .ref (L + 6)]), xz 9, xz 9, xz 81, .inr (5, [.int 0, .int 0, .ref (L + 8), .ref (L + 9), .ref (L + 10)]), xz 9, xz 9, xz 81, .inr (5, [.int 0, .int 0, .ref (L + 12), .ref (L + 13), .ref (L + 14)]), xz 9, xz 9, xz 81, .inr (5, [.int 0, .int 0, .ref (L + 16), .ref (L + 17), .ref (L + 18)]), xz 9, xz 9, xz 81, .inr (5, [.int 0, .int 0, .ref (L + 20), .ref (L + 21), .ref (L + 22)]), xz 9, xz 9, xz 81, .inr (5, [.int 0, .int 0, .ref (L + 24), .ref (L + 25), .ref (L + 26)]), xz 9, xz 9, xz 81, .inr (5, [.int 0, .int 0, .ref (L + 28), .ref (L + 29), .ref (L + 30)]), xz 9, xz 9, xz 81, .inr (5, [.int 0, .int 0, .ref (L + 32), .ref (L + 33), .ref (L + 34)]), xz 9, xz 9, xz 81]) (L + 35) (xpl hP rfl) _ (List.append_assoc P [.inr (4, [.int 0, .int 0, .ref (L + 1), .ref (L + 2)]), xz 10, .inl (2, 10, .inr (.inr (.inr (.inr (va_up (va_up (va_up (va_up (va_up (va_up (va_up (va_up (fun _ => none) 0 (some (L + 3))) 1 (some (L + 7))) 2 (some (L + 11))) 3 (some (L + 15))) 4 (some (L + 19))) 5 (some (L + 23))) 6 (some (L + 27))) 7 (some (L + 31))))))), .inr (5, [.int 0, .int 0, .ref (L + 4), .ref (L + 5), .ref (L + 6)]), xz 9, xz 9, xz 81, .inr (5, [.int 0, .int 0, .ref (L + 8), .ref (L + 9), .ref (L + 10)]), xz 9, xz 9, xz 81, .inr (5, [.int 0, .int 0, .ref (L + 12), .ref (L + 13), .ref (L + 14)]), xz 9, xz 9, xz 81, .inr (5, [.int 0, .int 0, .ref (L + 16), .ref (L + 17), .ref (L + 18)]), xz 9, xz 9, xz 81, .inr (5, [.int 0, .int 0, .ref (L + 20), .ref (L + 21), .ref (L + 22)]), xz 9, xz 9, xz 81, .inr (5, [.int 0, .int 0, .ref (L + 24), .ref (L + 25), .ref (L + 26)]), xz 9, xz 9, xz 81, .inr (5, [.int 0, .int 0, .ref (L + 28), .ref (L + 29), .ref (L + 30)]), xz 9, xz 9, xz 81, .inr (5, [.int 0, .int 0, .ref (L + 32), .ref (L + 33), .ref (L + 34)]), xz 9, xz 9, xz 81] _).symm ) mkX5_init w_58 wn_227 rfl rfl rfl rfl (Nat.le_of_ble_eq_true rfl) (Nat.le_of_ble_eq_true rfl) (Nat.le_of_ble_eq_true rfl) (Nat.le_of_ble_eq_true rfl) (Nat.le_of_ble_eq_true rfl) ?_
  intro v M2 hq
  obtain ⟨rfl, hM2⟩ := hq
  rw [List.append_assoc] at hM2
  subst hM2
  show xW _ _ _ _ 41 _ [.ref (L + 35), .int 8, .ref (L + 2)] (P ++ [.inr (4, [.int 0, .int 0, .ref (L + 1), .ref (L + 2)]), xz 10, .inl (2, 10, .inr (.inr (.inr (.inr (va_up (va_up (va_up (va_up (va_up (va_up (va_up (va_up (fun _ => none) 0 (some (L + 3))) 1 (some (L + 7))) 2 (some (L + 11))) 3 (some (L + 15))) 4 (some (L + 19))) 5 (some (L + 23))) 6 (some (L + 27))) 7 (some (L + 31))))))), .inr (5, [.int 0, .int 0, .ref (L + 4), .ref (L + 5), .ref (L + 6)]), xz 9, xz 9, xz 81, .inr (5, [.int 0, .int 0, .ref (L + 8), .ref (L + 9), .ref (L + 10)]), xz 9, xz 9, xz 81, .inr (5, [.int 0, .int 0, .ref (L + 12), .ref (L + 13), .ref (L + 14)]), xz 9, xz 9, xz 81, .inr (5, [.int 0, .int 0, .ref (L + 16), .ref (L + 17), .ref (L + 18)]), xz 9, xz 9, xz 81, .inr (5, [.int 0, .int 0, .ref (L + 20), .ref (L + 21), .ref (L + 22)]), xz 9, xz 9, xz 81, .inr (5, [.int 0, .int 0, .ref (L + 24), .ref (L + 25), .ref (L + 26)]), xz 9, xz 9, xz 81, .inr (5, [.int 0, .int 0, .ref (L + 28), .ref (L + 29), .ref (L + 30)]), xz 9, xz 9, xz 81, .inr (5, [.int 0, .int 0, .ref (L + 32), .ref (L + 33), .ref (L + 34)]), xz 9, xz 9, xz 81, .inr (5, [.int 0, .int 0, .ref (L + 36), .ref (L + 37), .ref (L + 38)]), xz 9, xz 9, xz 81]) _ _
  refine xi_aastore (M' := (P ++ [.inr (4, [.int 0, .int 0, .ref (L + 1), .ref (L + 2)]), xz 10, .inl (2, 10, .inr (.inr (.inr (.inr (va_up (va_up (va_up (va_up (va_up (va_up (va_up (va_up (va_up (fun _ => none) 0 (some (L + 3))) 1 (some (L + 7))) 2 (some (L + 11))) 3 (some (L + 15))) 4 (some (L + 19))) 5 (some (L + 23))) 6 (some (L + 27))) 7 (some (L + 31))) 8 (some (L + 35))))))), .inr (5, [.int 0, .int 0, .ref (L + 4), .ref (L + 5), .ref (L + 6)]), xz 9, xz 9, xz 81, .inr (5, [.int 0, .int 0, .ref (L + 8), .ref (L + 9), .ref (L + 10)]), xz 9, xz 9, xz 81, .inr (5, [.int 0, .int 0, .ref (L + 12), .ref (L + 13), .ref (L + 14)]), xz 9, xz 9, xz 81, .inr (5, [.int 0, .int 0, .ref (L + 16), .ref (L + 17), .ref (L + 18)]), xz 9, xz 9, xz 81, .inr (5, [.int 0, .int 0, .ref (L + 20), .ref (L + 21), .ref (L + 22)]), xz 9, xz 9, xz 81, .inr (5, [.int 0, .int 0, .ref (L + 24), .ref (L + 25), .ref (L + 26)]), xz 9, xz 9, xz 81, .inr (5, [.int 0, .int 0, .ref (L + 28), .ref (L + 29), .ref (L + 30)]), xz 9, xz 9, xz 81, .inr (5, [.int 0, .int 0, .ref (L + 32), .ref (L + 33), .ref (L + 34)]), xz 9, xz 9, xz 81, .inr (5, [.int 0, .int 0, .ref (L + 36), .ref (L + 37), .ref (L + 38)]), xz 9, xz 9, xz 81])) dX4_init_41 (xpg hP rfl) rfl (xpg hP rfl) rfl (by unfold vp_in; decide) (xps hP) ?_
  refine xi_iinc (v := 9) (lv' := [(1, .int 9), (0, .ref L)]) 0 dX4_init_42 rfl (by decide) (by decide) rfl ?_
  refine xi_goto (tgt := 23) dX4_init_45 (by decide) ?_
  refine xi_iload_n 0 dX4_init_23 rfl ?_
  refine xi_bipush (v := 10) dX4_init_24 (by decide) ?_
  refine xi_icmp_ge_f (tgt := 48) dX4_init_26 (by decide) (by decide) ?_
  refine xi_aload_n 1 dX4_init_29 rfl ?_
  refine xi_get (f := 3) dX4_init_30 (xpg0 hP rfl) rfl ok_4 (by decide) w_232 rfl ?_
  refine xi_iload_n 0 dX4_init_33 rfl ?_
  refine xi_new (i := (L + 39)) (ci := 5) (fs := [.int 0, .int 0, .null, .null, .null]) (M' := (P ++ [.inr (4, [.int 0, .int 0, .ref (L + 1), .ref (L + 2)]), xz 10, .inl (2, 10, .inr (.inr (.inr (.inr (va_up (va_up (va_up (va_up (va_up (va_up (va_up (va_up (va_up (fun _ => none) 0 (some (L + 3))) 1 (some (L + 7))) 2 (some (L + 11))) 3 (some (L + 15))) 4 (some (L + 19))) 5 (some (L + 23))) 6 (some (L + 27))) 7 (some (L + 31))) 8 (some (L + 35))))))), .inr (5, [.int 0, .int 0, .ref (L + 4), .ref (L + 5), .ref (L + 6)]), xz 9, xz 9, xz 81, .inr (5, [.int 0, .int 0, .ref (L + 8), .ref (L + 9), .ref (L + 10)]), xz 9, xz 9, xz 81, .inr (5, [.int 0, .int 0, .ref (L + 12), .ref (L + 13), .ref (L + 14)]), xz 9, xz 9, xz 81, .inr (5, [.int 0, .int 0, .ref (L + 16), .ref (L + 17), .ref (L + 18)]), xz 9, xz 9, xz 81, .inr (5, [.int 0, .int 0, .ref (L + 20), .ref (L + 21), .ref (L + 22)]), xz 9, xz 9, xz 81, .inr (5, [.int 0, .int 0, .ref (L + 24), .ref (L + 25), .ref (L + 26)]), xz 9, xz 9, xz 81, .inr (5, [.int 0, .int 0, .ref (L + 28), .ref (L + 29), .ref (L + 30)]), xz 9, xz 9, xz 81, .inr (5, [.int 0, .int 0, .ref (L + 32), .ref (L + 33), .ref (L + 34)]), xz 9, xz 9, xz 81, .inr (5, [.int 0, .int 0, .ref (L + 36), .ref (L + 37), .ref (L + 38)]), xz 9, xz 9, xz 81, .inr (5, [.int 0, .int 0, .null, .null, .null])])) dX4_init_34 rfl ok_5 w_226 w_56 w_5 nf_5 rfl (xpl hP rfl) (List.append_assoc _ _ _) (Nat.le_of_ble_eq_true rfl) (Nat.le_of_ble_eq_true rfl) ?_
  refine xi_dup dX4_init_37 rfl ?_
  refine xi_callIN (as := []) (rest := [.ref (L + 39), .int 9, .ref (L + 2)]) dX4_init_38 (ct_X5_init G (P ++ [.inr (4, [.int 0, .int 0, .ref (L + 1), .ref (L + 2)]), xz 10, .inl (2, 10, .inr (.inr (.inr (.inr (va_up (va_up (va_up (va_up (va_up (va_up (va_up (va_up (va_up (fun _ => none) 0 (some (L + 3))) 1 (some (L + 7))) 2 (some (L + 11))) 3 (some (L + 15))) 4 (some (L + 19))) 5 (some (L + 23))) 6 (some (L + 27))) 7 (some (L + 31))) 8 (some (L + 35))))))), .inr (5, [.int 0, .int 0, .ref (L + 4), .ref (L + 5), .ref (L + 6)]), xz 9, xz 9, xz 81, .inr (5, [.int 0, .int 0, .ref (L + 8), .ref (L + 9), .ref (L + 10)]), xz 9, xz 9, xz 81, .inr (5, [.int 0, .int 0, .ref (L + 12), .ref (L + 13), .ref (L + 14)]), xz 9, xz 9, xz 81, .inr (5, [.int 0, .int 0, .ref (L + 16), .ref (L + 17), .ref (L + 18)]), xz 9, xz 9, xz 81, .inr (5, [.int 0, .int 0, .ref (L + 20), .ref (L + 21), .ref (L + 22)]), xz 9, xz 9, xz 81, .inr (5, [.int 0, .int 0, .ref (L + 24), .ref (L + 25), .ref (L + 26)]), xz 9, xz 9, xz 81, .inr (5, [.int 0, .int 0, .ref (L + 28), .ref (L + 29), .ref (L + 30)]), xz 9, xz 9, xz 81, .inr (5, [.int 0, .int 0, .ref (L + 32), .ref (L + 33), .ref (L + 34)]), xz 9, xz 9, xz 81, .inr (5, [.int 0, .int 0, .ref (L + 36), .ref (L + 37), .ref (L + 38)]), xz 9, xz 9, xz 81]) (L + 39) (xpl hP rfl) _ (List.append_assoc P [.inr (4, [.int 0, .int 0, .ref (L + 1), .ref (L + 2)]), xz 10, .inl (2, 10, .inr (.inr (.inr (.inr (va_up (va_up (va_up (va_up (va_up (va_up (va_up (va_up (va_up (fun _ => none) 0 (some (L + 3))) 1 (some (L + 7))) 2 (some (L + 11))) 3 (some (L + 15))) 4 (some (L + 19))) 5 (some (L + 23))) 6 (some (L + 27))) 7 (some (L + 31))) 8 (some (L + 35))))))), .inr (5, [.int 0, .int 0, .ref (L + 4), .ref (L + 5), .ref (L + 6)]), xz 9, xz 9, xz 81, .inr (5, [.int 0, .int 0, .ref (L + 8), .ref (L + 9), .ref (L + 10)]), xz 9, xz 9, xz 81, .inr (5, [.int 0, .int 0, .ref (L + 12), .ref (L + 13), .ref (L + 14)]), xz 9, xz 9, xz 81, .inr (5, [.int 0, .int 0, .ref (L + 16), .ref (L + 17), .ref (L + 18)]), xz 9, xz 9, xz 81, .inr (5, [.int 0, .int 0, .ref (L + 20), .ref (L + 21), .ref (L + 22)]), xz 9, xz 9, xz 81, .inr (5, [.int 0, .int 0, .ref (L + 24), .ref (L + 25), .ref (L + 26)]), xz 9, xz 9, xz 81, .inr (5, [.int 0, .int 0, .ref (L + 28), .ref (L + 29), .ref (L + 30)]), xz 9, xz 9, xz 81, .inr (5, [.int 0, .int 0, .ref (L + 32), .ref (L + 33), .ref (L + 34)]), xz 9, xz 9, xz 81, .inr (5, [.int 0, .int 0, .ref (L + 36), .ref (L + 37), .ref (L + 38)]), xz 9, xz 9, xz 81] _).symm ) mkX5_init w_58 wn_227 rfl rfl rfl rfl (Nat.le_of_ble_eq_true rfl) (Nat.le_of_ble_eq_true rfl) (Nat.le_of_ble_eq_true rfl) (Nat.le_of_ble_eq_true rfl) (Nat.le_of_ble_eq_true rfl) ?_
  intro v M2 hq
  obtain ⟨rfl, hM2⟩ := hq
  rw [List.append_assoc] at hM2
  subst hM2
  show xW _ _ _ _ 41 _ [.ref (L + 39), .int 9, .ref (L + 2)] (P ++ [.inr (4, [.int 0, .int 0, .ref (L + 1), .ref (L + 2)]), xz 10, .inl (2, 10, .inr (.inr (.inr (.inr (va_up (va_up (va_up (va_up (va_up (va_up (va_up (va_up (va_up (fun _ => none) 0 (some (L + 3))) 1 (some (L + 7))) 2 (some (L + 11))) 3 (some (L + 15))) 4 (some (L + 19))) 5 (some (L + 23))) 6 (some (L + 27))) 7 (some (L + 31))) 8 (some (L + 35))))))), .inr (5, [.int 0, .int 0, .ref (L + 4), .ref (L + 5), .ref (L + 6)]), xz 9, xz 9, xz 81, .inr (5, [.int 0, .int 0, .ref (L + 8), .ref (L + 9), .ref (L + 10)]), xz 9, xz 9, xz 81, .inr (5, [.int 0, .int 0, .ref (L + 12), .ref (L + 13), .ref (L + 14)]), xz 9, xz 9, xz 81, .inr (5, [.int 0, .int 0, .ref (L + 16), .ref (L + 17), .ref (L + 18)]), xz 9, xz 9, xz 81, .inr (5, [.int 0, .int 0, .ref (L + 20), .ref (L + 21), .ref (L + 22)]), xz 9, xz 9, xz 81, .inr (5, [.int 0, .int 0, .ref (L + 24), .ref (L + 25), .ref (L + 26)]), xz 9, xz 9, xz 81, .inr (5, [.int 0, .int 0, .ref (L + 28), .ref (L + 29), .ref (L + 30)]), xz 9, xz 9, xz 81, .inr (5, [.int 0, .int 0, .ref (L + 32), .ref (L + 33), .ref (L + 34)]), xz 9, xz 9, xz 81, .inr (5, [.int 0, .int 0, .ref (L + 36), .ref (L + 37), .ref (L + 38)]), xz 9, xz 9, xz 81, .inr (5, [.int 0, .int 0, .ref (L + 40), .ref (L + 41), .ref (L + 42)]), xz 9, xz 9, xz 81]) _ _
  refine xi_aastore (M' := (P ++ [.inr (4, [.int 0, .int 0, .ref (L + 1), .ref (L + 2)]), xz 10, .inl (2, 10, .inr (.inr (.inr (.inr (va_up (va_up (va_up (va_up (va_up (va_up (va_up (va_up (va_up (va_up (fun _ => none) 0 (some (L + 3))) 1 (some (L + 7))) 2 (some (L + 11))) 3 (some (L + 15))) 4 (some (L + 19))) 5 (some (L + 23))) 6 (some (L + 27))) 7 (some (L + 31))) 8 (some (L + 35))) 9 (some (L + 39))))))), .inr (5, [.int 0, .int 0, .ref (L + 4), .ref (L + 5), .ref (L + 6)]), xz 9, xz 9, xz 81, .inr (5, [.int 0, .int 0, .ref (L + 8), .ref (L + 9), .ref (L + 10)]), xz 9, xz 9, xz 81, .inr (5, [.int 0, .int 0, .ref (L + 12), .ref (L + 13), .ref (L + 14)]), xz 9, xz 9, xz 81, .inr (5, [.int 0, .int 0, .ref (L + 16), .ref (L + 17), .ref (L + 18)]), xz 9, xz 9, xz 81, .inr (5, [.int 0, .int 0, .ref (L + 20), .ref (L + 21), .ref (L + 22)]), xz 9, xz 9, xz 81, .inr (5, [.int 0, .int 0, .ref (L + 24), .ref (L + 25), .ref (L + 26)]), xz 9, xz 9, xz 81, .inr (5, [.int 0, .int 0, .ref (L + 28), .ref (L + 29), .ref (L + 30)]), xz 9, xz 9, xz 81, .inr (5, [.int 0, .int 0, .ref (L + 32), .ref (L + 33), .ref (L + 34)]), xz 9, xz 9, xz 81, .inr (5, [.int 0, .int 0, .ref (L + 36), .ref (L + 37), .ref (L + 38)]), xz 9, xz 9, xz 81, .inr (5, [.int 0, .int 0, .ref (L + 40), .ref (L + 41), .ref (L + 42)]), xz 9, xz 9, xz 81])) dX4_init_41 (xpg hP rfl) rfl (xpg hP rfl) rfl (by unfold vp_in; decide) (xps hP) ?_
  refine xi_iinc (v := 10) (lv' := [(1, .int 10), (0, .ref L)]) 0 dX4_init_42 rfl (by decide) (by decide) rfl ?_
  refine xi_goto (tgt := 23) dX4_init_45 (by decide) ?_
  refine xi_iload_n 0 dX4_init_23 rfl ?_
  refine xi_bipush (v := 10) dX4_init_24 (by decide) ?_
  refine xi_icmp_ge_t (tgt := 48) dX4_init_26 (by decide) (by decide) ?_
  exact xi_vret dX4_init_48 rfl (Nat.le_of_ble_eq_true rfl) (Nat.le_of_ble_eq_true rfl) ⟨rfl, rfl⟩
set_option maxHeartbeats 4000000 in
set_option maxRecDepth 100000 in
theorem ct_X11_init (G : xG) (P : xMem) (L : Nat) (hP : P.length = L) (M : xMem) (hM : M = P ++ [.inr (8, [.null, .null, .null, .null, .null, .null, .null, .null, .null, .null])]) : xC G mX11_init 2 148 26157 [.ref L] M (fun v M2 => v = none ∧ M2 = (P ++ [.inr (8, [.ref (L + 1), .ref (L + 3), .ref (L + 5), .ref (L + 10), .ref (L + 11), .ref (L + 84), .ref (L + 90), .ref (L + 98), .ref (L + 141), .ref (L + 145)]), .inr (1, [.ref (L + 2), .int 0]), xzb 400, .inr (1, [.ref (L + 4), .int 0]), xzb 256, .inr (6, [.ref (L + 6), .int 0, .int (-1), .ref (L + 1), .int 0, .int 0, .int 0, .int 0]), .inr (5, [.int 0, .int 0, .ref (L + 7), .ref (L + 8), .ref (L + 9)]), xz 9, xz 9, xz 81, .inl (2, 3, .inr (.inr (.inr (.inr (va_up (va_up (va_up (fun _ => none) 0 (some (L + 12))) 1 (some (L + 36))) 2 (some (L + 60))))))), .inl (3, 3, .inr (.inr (.inr (.inr (va_up (va_up (va_up (fun _ => none) 0 (some (L + 16))) 1 (some (L + 40))) 2 (some (L + 64))))))), .inr (5, [.int 0, .int 0, .ref (L + 13), .ref (L + 14), .ref (L + 15)]), xz 9, xz 9, xz 81, .inr (3, [.ref (L + 17), .ref (L + 18)]), .inl (4, 7, .inr (.inr (.inr (.inr (va_up (va_up (va_up (va_up (va_up (va_up (va_up (fun _ => none) 0 (some (L + 22))) 1 (some (L + 24))) 2 (some (L + 26))) 3 (some (L + 28))) 4 (some (L + 30))) 5 (some (L + 32))) 6 (some (L + 34))))))), .inr (5, [.int 0, .int 0, .ref (L + 19), .ref (L + 20), .ref (L + 21)]), xz 9, xz 9, xz 81, .inr (2, [.int 0, .int 0, .int 0, .int 0, .ref (L + 23)]), xz 9, .inr (2, [.int 0, .int 0, .int 0, .int 0, .ref (L + 25)]), xz 9, .inr (2, [.int 0, .int 0, .int 0, .int 0, .ref (L + 27)]), xz 9, .inr (2, [.int 0, .int 0, .int 0, .int 0, .ref (L + 29)]), xz 9, .inr (2, [.int 0, .int 0, .int 0, .int 0, .ref (L + 31)]), xz 9, .inr (2, [.int 0, .int 0, .int 0, .int 0, .ref (L + 33)]), xz 9, .inr (2, [.int 0, .int 0, .int 0, .int 0, .ref (L + 35)]), xz 9, .inr (5, [.int 0, .int 0, .ref (L + 37), .ref (L + 38), .ref (L + 39)]), xz 9, xz 9, xz 81, .inr (3, [.ref (L + 41), .ref (L + 42)]), .inl (4, 7, .inr (.inr (.inr (.inr (va_up (va_up (va_up (va_up (va_up (va_up (va_up (fun _ => none) 0 (some (L + 46))) 1 (some (L + 48))) 2 (some (L + 50))) 3 (some (L + 52))) 4 (some (L + 54))) 5 (some (L + 56))) 6 (some (L + 58))))))), .inr (5, [.int 0, .int 0, .ref (L + 43), .ref (L + 44), .ref (L + 45)]), xz 9, xz 9, xz 81, .inr (2, [.int 0, .int 0, .int 0, .int 0, .ref (L + 47)]), xz 9, .inr (2, [.int 0, .int 0, .int 0, .int 0, .ref (L + 49)]), xz 9, .inr (2, [.int 0, .int 0, .int 0, .int 0, .ref (L + 51)]), xz 9, .inr (2, [.int 0, .int 0, .int 0, .int 0, .ref (L + 53)]), xz 9, .inr (2, [.int 0, .int 0, .int 0, .int 0, .ref (L + 55)]), xz 9, .inr (2, [.int 0, .int 0, .int 0, .int 0, .ref (L + 57)]), xz 9, .inr (2, [.int 0, .int 0, .int 0, .int 0, .ref (L + 59)]), xz 9, .inr (5, [.int 0, .int 0, .ref (L + 61), .ref (L + 62), .ref (L + 63)]), xz 9, xz 9, xz 81, .inr (3, [.ref (L + 65), .ref (L + 66)]), .inl (4, 7, .inr (.inr (.inr (.inr (va_up (va_up (va_up (va_up (va_up (va_up (va_up (fun _ => none) 0 (some (L + 70))) 1 (some (L + 72))) 2 (some (L + 74))) 3 (some (L + 76))) 4 (some (L + 78))) 5 (some (L + 80))) 6 (some (L + 82))))))), .inr (5, [.int 0, .int 0, .ref (L + 67), .ref (L + 68), .ref (L + 69)]), xz 9, xz 9, xz 81, .inr (2, [.int 0, .int 0, .int 0, .int 0, .ref (L + 71)]), xz 9, .inr (2, [.int 0, .int 0, .int 0, .int 0, .ref (L + 73)]), xz 9, .inr (2, [.int 0, .int 0, .int 0, .int 0, .ref (L + 75)]), xz 9, .inr (2, [.int 0, .int 0, .int 0, .int 0, .ref (L + 77)]), xz 9, .inr (2, [.int 0, .int 0, .int 0, .int 0, .ref (L + 79)]), xz 9, .inr (2, [.int 0, .int 0, .int 0, .int 0, .ref (L + 81)]), xz 9, .inr (2, [.int 0, .int 0, .int 0, .int 0, .ref (L + 83)]), xz 9, .inr (7, [.ref (L + 85), .ref (L + 86), .ref (L + 87), .ref (L + 88), .ref (L + 89)]), xz 4608, xz 4608, xz 4608, xz 512, xz 512, .inr (0, [.ref (L + 91), .ref (L + 95), .ref (L + 96), .ref (L + 97)]), .inr (5, [.int 0, .int 0, .ref (L + 92), .ref (L + 93), .ref (L + 94)]), xz 9, xz 9, xz 81, xz 9, xz 4096, xz 4096, .inr (4, [.int 0, .int 0, .ref (L + 99), .ref (L + 100)]), xz 10, .inl (2, 10, .inr (.inr (.inr (.inr (va_up (va_up (va_up (va_up (va_up (va_up (va_up (va_up (va_up (va_up (fun _ => none) 0 (some (L + 101))) 1 (some (L + 105))) 2 (some (L + 109))) 3 (some (L + 113))) 4 (some (L + 117))) 5 (some (L + 121))) 6 (some (L + 125))) 7 (some (L + 129))) 8 (some (L + 133))) 9 (some (L + 137))))))), .inr (5, [.int 0, .int 0, .ref (L + 102), .ref (L + 103), .ref (L + 104)]), xz 9, xz 9, xz 81, .inr (5, [.int 0, .int 0, .ref (L + 106), .ref (L + 107), .ref (L + 108)]), xz 9, xz 9, xz 81, .inr (5, [.int 0, .int 0, .ref (L + 110), .ref (L + 111), .ref (L + 112)]), xz 9, xz 9, xz 81, .inr (5, [.int 0, .int 0, .ref (L + 114), .ref (L + 115), .ref (L + 116)]), xz 9, xz 9, xz 81, .inr (5, [.int 0, .int 0, .ref (L + 118), .ref (L + 119), .ref (L + 120)]), xz 9, xz 9, xz 81, .inr (5, [.int 0, .int 0, .ref (L + 122), .ref (L + 123), .ref (L + 124)]), xz 9, xz 9, xz 81, .inr (5, [.int 0, .int 0, .ref (L + 126), .ref (L + 127), .ref (L + 128)]), xz 9, xz 9, xz 81, .inr (5, [.int 0, .int 0, .ref (L + 130), .ref (L + 131), .ref (L + 132)]), xz 9, xz 9, xz 81, .inr (5, [.int 0, .int 0, .ref (L + 134), .ref (L + 135), .ref (L + 136)]), xz 9, xz 9, xz 81, .inr (5, [.int 0, .int 0, .ref (L + 138), .ref (L + 139), .ref (L + 140)]), xz 9, xz 9, xz 81, .inr (5, [.int 0, .int 0, .ref (L + 142), .ref (L + 143), .ref (L + 144)]), xz 9, xz 9, xz 81, .inr (5, [.int 0, .int 0, .ref (L + 146), .ref (L + 147), .ref (L + 148)]), xz 9, xz 9, xz 81])) := by
  subst hM
  refine xC.of (by decide) (Nat.le_of_ble_eq_true rfl) ?_
  show xW _ _ _ _ 0 [(0, .ref L)] [] _ 0 0
  refine xi_aload_n 0 dX11_init_0 rfl ?_
  refine xi_obj dX11_init_1 w_27 w_28 w_obj (Nat.le_of_ble_eq_true rfl) (Nat.le_of_ble_eq_true rfl) (Nat.le_of_ble_eq_true rfl) ?_
  refine xi_aload_n 0 dX11_init_4 rfl ?_
  refine xi_new (i := (L + 1)) (ci := 1) (fs := [.null, .int 0]) (M' := (P ++ [.inr (8, [.null, .null, .null, .null, .null, .null, .null, .null, .null, .null]), .inr (1, [.null, .int 0])])) dX11_init_5 rfl ok_1 w_30 w_31 w_2 nf_1 rfl (xpl hP rfl) (List.append_assoc _ _ _) (Nat.le_of_ble_eq_true rfl) (Nat.le_of_ble_eq_true rfl) ?_
  refine xi_dup dX11_init_8 rfl ?_
  refine xi_sipush (v := 400) dX11_init_9 (by decide) ?_
  refine xi_callI (as := [.int 400]) (rest := [.ref (L + 1), .ref L]) dX11_init_12 (ct_X1_init_400 G (P ++ [.inr (8, [.null, .null, .null, .null, .null, .null, .null, .null, .null, .null])]) (L + 1) (xpl hP rfl) _ (List.append_assoc P [.inr (8, [.null, .null, .null, .null, .null, .null, .null, .null, .null, .null])] _).symm ) mkX1_init w_33 w_32 rfl rfl rfl rfl (Nat.le_of_ble_eq_true rfl) (Nat.le_of_ble_eq_true rfl) (Nat.le_of_ble_eq_true rfl) (Nat.le_of_ble_eq_true rfl) (Nat.le_of_ble_eq_true rfl) ?_
  intro v M2 hq
  obtain ⟨rfl, hM2⟩ := hq
  rw [List.append_assoc] at hM2
  subst hM2
  show xW _ _ _ _ 15 _ [.ref (L + 1), .ref L] (P ++ [.inr (8, [.null, .null, .null, .null, .null, .null, .null, .null, .null, .null]), .inr (1, [.ref (L + 2), .int 0]), xzb 400]) _ _
  refine xi_putF (f := 0) (ty := (.object "ThinRow$Bytes")) (M' := (P ++ [.inr (8, [.ref (L + 1), .null, .null, .null, .null, .null, .null, .null, .null, .null]), .inr (1, [.ref (L + 2), .int 0]), xzb 400])) dX11_init_15 (xpg0 hP rfl) rfl ok_8 (by decide) w_242 rfl rfl rfl pf_LThinRow_Bytes_ (fun _ h => by cases h) rfl rfl (Nat.le_of_ble_eq_true rfl) (xps0 hP) ?_
  refine xi_aload_n 0 dX11_init_18 rfl ?_
  refine xi_new (i := (L + 3)) (ci := 1) (fs := [.null, .int 0]) (M' := (P ++ [.inr (8, [.ref (L + 1), .null, .null, .null, .null, .null, .null, .null, .null, .null]), .inr (1, [.ref (L + 2), .int 0]), xzb 400, .inr (1, [.null, .int 0])])) dX11_init_19 rfl ok_1 w_30 w_31 w_2 nf_1 rfl (xpl hP rfl) (List.append_assoc _ _ _) (Nat.le_of_ble_eq_true rfl) (Nat.le_of_ble_eq_true rfl) ?_
  refine xi_dup dX11_init_22 rfl ?_
  refine xi_sipush (v := 256) dX11_init_23 (by decide) ?_
  refine xi_callI (as := [.int 256]) (rest := [.ref (L + 3), .ref L]) dX11_init_26 (ct_X1_init_256 G (P ++ [.inr (8, [.ref (L + 1), .null, .null, .null, .null, .null, .null, .null, .null, .null]), .inr (1, [.ref (L + 2), .int 0]), xzb 400]) (L + 3) (xpl hP rfl) _ (List.append_assoc P [.inr (8, [.ref (L + 1), .null, .null, .null, .null, .null, .null, .null, .null, .null]), .inr (1, [.ref (L + 2), .int 0]), xzb 400] _).symm ) mkX1_init w_33 w_32 rfl rfl rfl rfl (Nat.le_of_ble_eq_true rfl) (Nat.le_of_ble_eq_true rfl) (Nat.le_of_ble_eq_true rfl) (Nat.le_of_ble_eq_true rfl) (Nat.le_of_ble_eq_true rfl) ?_
  intro v M2 hq
  obtain ⟨rfl, hM2⟩ := hq
  rw [List.append_assoc] at hM2
  subst hM2
  show xW _ _ _ _ 29 _ [.ref (L + 3), .ref L] (P ++ [.inr (8, [.ref (L + 1), .null, .null, .null, .null, .null, .null, .null, .null, .null]), .inr (1, [.ref (L + 2), .int 0]), xzb 400, .inr (1, [.ref (L + 4), .int 0]), xzb 256]) _ _
  refine xi_putF (f := 1) (ty := (.object "ThinRow$Bytes")) (M' := (P ++ [.inr (8, [.ref (L + 1), .ref (L + 3), .null, .null, .null, .null, .null, .null, .null, .null]), .inr (1, [.ref (L + 2), .int 0]), xzb 400, .inr (1, [.ref (L + 4), .int 0]), xzb 256])) dX11_init_29 (xpg0 hP rfl) rfl ok_8 (by decide) w_243 rfl rfl rfl pf_LThinRow_Bytes_ (fun _ h => by cases h) rfl rfl (Nat.le_of_ble_eq_true rfl) (xps0 hP) ?_
  refine xi_aload_n 0 dX11_init_32 rfl ?_
  refine xi_new (i := (L + 5)) (ci := 6) (fs := [.null, .int 0, .int 0, .null, .int 0, .int 0, .int 0, .int 0]) (M' := (P ++ [.inr (8, [.ref (L + 1), .ref (L + 3), .null, .null, .null, .null, .null, .null, .null, .null]), .inr (1, [.ref (L + 2), .int 0]), xzb 400, .inr (1, [.ref (L + 4), .int 0]), xzb 256, .inr (6, [.null, .int 0, .int 0, .null, .int 0, .int 0, .int 0, .int 0])])) dX11_init_33 rfl ok_6 w_49 w_50 w_4 nf_6 rfl (xpl hP rfl) (List.append_assoc _ _ _) (Nat.le_of_ble_eq_true rfl) (Nat.le_of_ble_eq_true rfl) ?_
  refine xi_dup dX11_init_36 rfl ?_
  refine xi_aload_n 0 dX11_init_37 rfl ?_
  refine xi_get (f := 0) dX11_init_38 (xpg0 hP rfl) rfl ok_8 (by decide) w_242 rfl ?_
  refine xi_callI (as := [.ref (L + 1)]) (rest := [.ref (L + 5), .ref L]) dX11_init_41 (ct_X7_init G (P ++ [.inr (8, [.ref (L + 1), .ref (L + 3), .null, .null, .null, .null, .null, .null, .null, .null]), .inr (1, [.ref (L + 2), .int 0]), xzb 400, .inr (1, [.ref (L + 4), .int 0]), xzb 256]) (L + 5) (xpl hP rfl) _ (List.append_assoc P [.inr (8, [.ref (L + 1), .ref (L + 3), .null, .null, .null, .null, .null, .null, .null, .null]), .inr (1, [.ref (L + 2), .int 0]), xzb 400, .inr (1, [.ref (L + 4), .int 0]), xzb 256] _).symm ((L + 1))) mkX7_init w_52 w_51 rfl rfl rfl rfl (Nat.le_of_ble_eq_true rfl) (Nat.le_of_ble_eq_true rfl) (Nat.le_of_ble_eq_true rfl) (Nat.le_of_ble_eq_true rfl) (Nat.le_of_ble_eq_true rfl) ?_
  intro v M2 hq
  obtain ⟨rfl, hM2⟩ := hq
  rw [List.append_assoc] at hM2
  subst hM2
  show xW _ _ _ _ 44 _ [.ref (L + 5), .ref L] (P ++ [.inr (8, [.ref (L + 1), .ref (L + 3), .null, .null, .null, .null, .null, .null, .null, .null]), .inr (1, [.ref (L + 2), .int 0]), xzb 400, .inr (1, [.ref (L + 4), .int 0]), xzb 256, .inr (6, [.ref (L + 6), .int 0, .int (-1), .ref (L + 1), .int 0, .int 0, .int 0, .int 0]), .inr (5, [.int 0, .int 0, .ref (L + 7), .ref (L + 8), .ref (L + 9)]), xz 9, xz 9, xz 81]) _ _
  refine xi_putF (f := 2) (ty := (.object "ThinRow$Reader")) (M' := (P ++ [.inr (8, [.ref (L + 1), .ref (L + 3), .ref (L + 5), .null, .null, .null, .null, .null, .null, .null]), .inr (1, [.ref (L + 2), .int 0]), xzb 400, .inr (1, [.ref (L + 4), .int 0]), xzb 256, .inr (6, [.ref (L + 6), .int 0, .int (-1), .ref (L + 1), .int 0, .int 0, .int 0, .int 0]), .inr (5, [.int 0, .int 0, .ref (L + 7), .ref (L + 8), .ref (L + 9)]), xz 9, xz 9, xz 81])) dX11_init_44 (xpg0 hP rfl) rfl ok_8 (by decide) w_244 rfl rfl rfl pf_LThinRow_Reader_ (fun _ h => by cases h) rfl rfl (Nat.le_of_ble_eq_true rfl) (xps0 hP) ?_
  refine xi_aload_n 0 dX11_init_47 rfl ?_
  refine xi_iconst (v := 3) dX11_init_48 (by decide) ?_
  refine xi_newQ (t := 2) (i := (L + 10)) (N := 3) (M' := (P ++ [.inr (8, [.ref (L + 1), .ref (L + 3), .ref (L + 5), .null, .null, .null, .null, .null, .null, .null]), .inr (1, [.ref (L + 2), .int 0]), xzb 400, .inr (1, [.ref (L + 4), .int 0]), xzb 256, .inr (6, [.ref (L + 6), .int 0, .int (-1), .ref (L + 1), .int 0, .int 0, .int 0, .int 0]), .inr (5, [.int 0, .int 0, .ref (L + 7), .ref (L + 8), .ref (L + 9)]), xz 9, xz 9, xz 81, .inl (2, 3, .inr (.inr (.inr (.inr (fun _ => none)))))])) dX11_init_49 w_124 ao_2 rfl (by decide) (by decide) (Nat.le_of_ble_eq_true rfl) (xpl hP rfl) (List.append_assoc _ _ _) (Nat.le_of_ble_eq_true rfl) (Nat.le_of_ble_eq_true rfl) ?_
  refine xi_putF (f := 3) (ty := (.array (.object "ThinRow$Net"))) (M' := (P ++ [.inr (8, [.ref (L + 1), .ref (L + 3), .ref (L + 5), .ref (L + 10), .null, .null, .null, .null, .null, .null]), .inr (1, [.ref (L + 2), .int 0]), xzb 400, .inr (1, [.ref (L + 4), .int 0]), xzb 256, .inr (6, [.ref (L + 6), .int 0, .int (-1), .ref (L + 1), .int 0, .int 0, .int 0, .int 0]), .inr (5, [.int 0, .int 0, .ref (L + 7), .ref (L + 8), .ref (L + 9)]), xz 9, xz 9, xz 81, .inl (2, 3, .inr (.inr (.inr (.inr (fun _ => none)))))])) dX11_init_52 (xpg0 hP rfl) rfl ok_8 (by decide) w_245 rfl rfl rfl pf__LThinRow_Net_ (fun _ h => by cases h) rfl rfl (Nat.le_of_ble_eq_true rfl) (xps0 hP) ?_
  refine xi_aload_n 0 dX11_init_55 rfl ?_
  refine xi_iconst (v := 3) dX11_init_56 (by decide) ?_
  refine xi_newQ (t := 3) (i := (L + 11)) (N := 3) (M' := (P ++ [.inr (8, [.ref (L + 1), .ref (L + 3), .ref (L + 5), .ref (L + 10), .null, .null, .null, .null, .null, .null]), .inr (1, [.ref (L + 2), .int 0]), xzb 400, .inr (1, [.ref (L + 4), .int 0]), xzb 256, .inr (6, [.ref (L + 6), .int 0, .int (-1), .ref (L + 1), .int 0, .int 0, .int 0, .int 0]), .inr (5, [.int 0, .int 0, .ref (L + 7), .ref (L + 8), .ref (L + 9)]), xz 9, xz 9, xz 81, .inl (2, 3, .inr (.inr (.inr (.inr (fun _ => none))))), .inl (3, 3, .inr (.inr (.inr (.inr (fun _ => none)))))])) dX11_init_57 w_126 ao_3 rfl (by decide) (by decide) (Nat.le_of_ble_eq_true rfl) (xpl hP rfl) (List.append_assoc _ _ _) (Nat.le_of_ble_eq_true rfl) (Nat.le_of_ble_eq_true rfl) ?_
  refine xi_putF (f := 4) (ty := (.array (.object "ThinRow$Findings"))) (M' := (P ++ [.inr (8, [.ref (L + 1), .ref (L + 3), .ref (L + 5), .ref (L + 10), .ref (L + 11), .null, .null, .null, .null, .null]), .inr (1, [.ref (L + 2), .int 0]), xzb 400, .inr (1, [.ref (L + 4), .int 0]), xzb 256, .inr (6, [.ref (L + 6), .int 0, .int (-1), .ref (L + 1), .int 0, .int 0, .int 0, .int 0]), .inr (5, [.int 0, .int 0, .ref (L + 7), .ref (L + 8), .ref (L + 9)]), xz 9, xz 9, xz 81, .inl (2, 3, .inr (.inr (.inr (.inr (fun _ => none))))), .inl (3, 3, .inr (.inr (.inr (.inr (fun _ => none)))))])) dX11_init_60 (xpg0 hP rfl) rfl ok_8 (by decide) w_246 rfl rfl rfl pf__LThinRow_Findings_ (fun _ h => by cases h) rfl rfl (Nat.le_of_ble_eq_true rfl) (xps0 hP) ?_
  refine xi_iconst (v := 0) dX11_init_63 (by decide) ?_
  refine xi_istore_n (lv' := [(1, .int 0), (0, .ref L)]) dX11_init_64 (by decide) rfl ?_
  refine xi_iload_n 0 dX11_init_65 rfl ?_
  refine xi_iconst (v := 3) dX11_init_66 (by decide) ?_
  refine xi_icmp_ge_f (tgt := 102) dX11_init_67 (by decide) (by decide) ?_
  refine xi_aload_n 1 dX11_init_70 rfl ?_
  refine xi_get (f := 3) dX11_init_71 (xpg0 hP rfl) rfl ok_8 (by decide) w_245 rfl ?_
  refine xi_iload_n 0 dX11_init_74 rfl ?_
  refine xi_new (i := (L + 12)) (ci := 5) (fs := [.int 0, .int 0, .null, .null, .null]) (M' := (P ++ [.inr (8, [.ref (L + 1), .ref (L + 3), .ref (L + 5), .ref (L + 10), .ref (L + 11), .null, .null, .null, .null, .null]), .inr (1, [.ref (L + 2), .int 0]), xzb 400, .inr (1, [.ref (L + 4), .int 0]), xzb 256, .inr (6, [.ref (L + 6), .int 0, .int (-1), .ref (L + 1), .int 0, .int 0, .int 0, .int 0]), .inr (5, [.int 0, .int 0, .ref (L + 7), .ref (L + 8), .ref (L + 9)]), xz 9, xz 9, xz 81, .inl (2, 3, .inr (.inr (.inr (.inr (fun _ => none))))), .inl (3, 3, .inr (.inr (.inr (.inr (fun _ => none))))), .inr (5, [.int 0, .int 0, .null, .null, .null])])) dX11_init_75 rfl ok_5 w_124 w_56 w_5 nf_5 rfl (xpl hP rfl) (List.append_assoc _ _ _) (Nat.le_of_ble_eq_true rfl) (Nat.le_of_ble_eq_true rfl) ?_
  refine xi_dup dX11_init_78 rfl ?_
  refine xi_callIN (as := []) (rest := [.ref (L + 12), .int 0, .ref (L + 10)]) dX11_init_79 (ct_X5_init G (P ++ [.inr (8, [.ref (L + 1), .ref (L + 3), .ref (L + 5), .ref (L + 10), .ref (L + 11), .null, .null, .null, .null, .null]), .inr (1, [.ref (L + 2), .int 0]), xzb 400, .inr (1, [.ref (L + 4), .int 0]), xzb 256, .inr (6, [.ref (L + 6), .int 0, .int (-1), .ref (L + 1), .int 0, .int 0, .int 0, .int 0]), .inr (5, [.int 0, .int 0, .ref (L + 7), .ref (L + 8), .ref (L + 9)]), xz 9, xz 9, xz 81, .inl (2, 3, .inr (.inr (.inr (.inr (fun _ => none))))), .inl (3, 3, .inr (.inr (.inr (.inr (fun _ => none)))))]) (L + 12) (xpl hP rfl) _ (List.append_assoc P [.inr (8, [.ref (L + 1), .ref (L + 3), .ref (L + 5), .ref (L + 10), .ref (L + 11), .null, .null, .null, .null, .null]), .inr (1, [.ref (L + 2), .int 0]), xzb 400, .inr (1, [.ref (L + 4), .int 0]), xzb 256, .inr (6, [.ref (L + 6), .int 0, .int (-1), .ref (L + 1), .int 0, .int 0, .int 0, .int 0]), .inr (5, [.int 0, .int 0, .ref (L + 7), .ref (L + 8), .ref (L + 9)]), xz 9, xz 9, xz 81, .inl (2, 3, .inr (.inr (.inr (.inr (fun _ => none))))), .inl (3, 3, .inr (.inr (.inr (.inr (fun _ => none)))))] _).symm ) mkX5_init w_58 wn_128 rfl rfl rfl rfl (Nat.le_of_ble_eq_true rfl) (Nat.le_of_ble_eq_true rfl) (Nat.le_of_ble_eq_true rfl) (Nat.le_of_ble_eq_true rfl) (Nat.le_of_ble_eq_true rfl) ?_
  intro v M2 hq
  obtain ⟨rfl, hM2⟩ := hq
  rw [List.append_assoc] at hM2
  subst hM2
  show xW _ _ _ _ 82 _ [.ref (L + 12), .int 0, .ref (L + 10)] (P ++ [.inr (8, [.ref (L + 1), .ref (L + 3), .ref (L + 5), .ref (L + 10), .ref (L + 11), .null, .null, .null, .null, .null]), .inr (1, [.ref (L + 2), .int 0]), xzb 400, .inr (1, [.ref (L + 4), .int 0]), xzb 256, .inr (6, [.ref (L + 6), .int 0, .int (-1), .ref (L + 1), .int 0, .int 0, .int 0, .int 0]), .inr (5, [.int 0, .int 0, .ref (L + 7), .ref (L + 8), .ref (L + 9)]), xz 9, xz 9, xz 81, .inl (2, 3, .inr (.inr (.inr (.inr (fun _ => none))))), .inl (3, 3, .inr (.inr (.inr (.inr (fun _ => none))))), .inr (5, [.int 0, .int 0, .ref (L + 13), .ref (L + 14), .ref (L + 15)]), xz 9, xz 9, xz 81]) _ _
  refine xi_aastore (M' := (P ++ [.inr (8, [.ref (L + 1), .ref (L + 3), .ref (L + 5), .ref (L + 10), .ref (L + 11), .null, .null, .null, .null, .null]), .inr (1, [.ref (L + 2), .int 0]), xzb 400, .inr (1, [.ref (L + 4), .int 0]), xzb 256, .inr (6, [.ref (L + 6), .int 0, .int (-1), .ref (L + 1), .int 0, .int 0, .int 0, .int 0]), .inr (5, [.int 0, .int 0, .ref (L + 7), .ref (L + 8), .ref (L + 9)]), xz 9, xz 9, xz 81, .inl (2, 3, .inr (.inr (.inr (.inr (va_up (fun _ => none) 0 (some (L + 12))))))), .inl (3, 3, .inr (.inr (.inr (.inr (fun _ => none))))), .inr (5, [.int 0, .int 0, .ref (L + 13), .ref (L + 14), .ref (L + 15)]), xz 9, xz 9, xz 81])) dX11_init_82 (xpg hP rfl) rfl (xpg hP rfl) rfl (by unfold vp_in; decide) (xps hP) ?_
  refine xi_aload_n 1 dX11_init_83 rfl ?_
  refine xi_get (f := 4) dX11_init_84 (xpg0 hP rfl) rfl ok_8 (by decide) w_246 rfl ?_
  refine xi_iload_n 0 dX11_init_87 rfl ?_
  refine xi_new (i := (L + 16)) (ci := 3) (fs := [.null, .null]) (M' := (P ++ [.inr (8, [.ref (L + 1), .ref (L + 3), .ref (L + 5), .ref (L + 10), .ref (L + 11), .null, .null, .null, .null, .null]), .inr (1, [.ref (L + 2), .int 0]), xzb 400, .inr (1, [.ref (L + 4), .int 0]), xzb 256, .inr (6, [.ref (L + 6), .int 0, .int (-1), .ref (L + 1), .int 0, .int 0, .int 0, .int 0]), .inr (5, [.int 0, .int 0, .ref (L + 7), .ref (L + 8), .ref (L + 9)]), xz 9, xz 9, xz 81, .inl (2, 3, .inr (.inr (.inr (.inr (va_up (fun _ => none) 0 (some (L + 12))))))), .inl (3, 3, .inr (.inr (.inr (.inr (fun _ => none))))), .inr (5, [.int 0, .int 0, .ref (L + 13), .ref (L + 14), .ref (L + 15)]), xz 9, xz 9, xz 81, .inr (3, [.null, .null])])) dX11_init_88 rfl ok_3 w_126 w_129 w_6 nf_3 rfl (xpl hP rfl) (List.append_assoc _ _ _) (Nat.le_of_ble_eq_true rfl) (Nat.le_of_ble_eq_true rfl) ?_
  refine xi_dup dX11_init_91 rfl ?_
  refine xi_callI (as := []) (rest := [.ref (L + 16), .int 0, .ref (L + 11)]) dX11_init_92 (ct_X3_init G (P ++ [.inr (8, [.ref (L + 1), .ref (L + 3), .ref (L + 5), .ref (L + 10), .ref (L + 11), .null, .null, .null, .null, .null]), .inr (1, [.ref (L + 2), .int 0]), xzb 400, .inr (1, [.ref (L + 4), .int 0]), xzb 256, .inr (6, [.ref (L + 6), .int 0, .int (-1), .ref (L + 1), .int 0, .int 0, .int 0, .int 0]), .inr (5, [.int 0, .int 0, .ref (L + 7), .ref (L + 8), .ref (L + 9)]), xz 9, xz 9, xz 81, .inl (2, 3, .inr (.inr (.inr (.inr (va_up (fun _ => none) 0 (some (L + 12))))))), .inl (3, 3, .inr (.inr (.inr (.inr (fun _ => none))))), .inr (5, [.int 0, .int 0, .ref (L + 13), .ref (L + 14), .ref (L + 15)]), xz 9, xz 9, xz 81]) (L + 16) (xpl hP rfl) _ (List.append_assoc P [.inr (8, [.ref (L + 1), .ref (L + 3), .ref (L + 5), .ref (L + 10), .ref (L + 11), .null, .null, .null, .null, .null]), .inr (1, [.ref (L + 2), .int 0]), xzb 400, .inr (1, [.ref (L + 4), .int 0]), xzb 256, .inr (6, [.ref (L + 6), .int 0, .int (-1), .ref (L + 1), .int 0, .int 0, .int 0, .int 0]), .inr (5, [.int 0, .int 0, .ref (L + 7), .ref (L + 8), .ref (L + 9)]), xz 9, xz 9, xz 81, .inl (2, 3, .inr (.inr (.inr (.inr (va_up (fun _ => none) 0 (some (L + 12))))))), .inl (3, 3, .inr (.inr (.inr (.inr (fun _ => none))))), .inr (5, [.int 0, .int 0, .ref (L + 13), .ref (L + 14), .ref (L + 15)]), xz 9, xz 9, xz 81] _).symm ) mkX3_init w_131 w_130 rfl rfl rfl rfl (Nat.le_of_ble_eq_true rfl) (Nat.le_of_ble_eq_true rfl) (Nat.le_of_ble_eq_true rfl) (Nat.le_of_ble_eq_true rfl) (Nat.le_of_ble_eq_true rfl) ?_
  intro v M2 hq
  obtain ⟨rfl, hM2⟩ := hq
  rw [List.append_assoc] at hM2
  subst hM2
  show xW _ _ _ _ 95 _ [.ref (L + 16), .int 0, .ref (L + 11)] (P ++ [.inr (8, [.ref (L + 1), .ref (L + 3), .ref (L + 5), .ref (L + 10), .ref (L + 11), .null, .null, .null, .null, .null]), .inr (1, [.ref (L + 2), .int 0]), xzb 400, .inr (1, [.ref (L + 4), .int 0]), xzb 256, .inr (6, [.ref (L + 6), .int 0, .int (-1), .ref (L + 1), .int 0, .int 0, .int 0, .int 0]), .inr (5, [.int 0, .int 0, .ref (L + 7), .ref (L + 8), .ref (L + 9)]), xz 9, xz 9, xz 81, .inl (2, 3, .inr (.inr (.inr (.inr (va_up (fun _ => none) 0 (some (L + 12))))))), .inl (3, 3, .inr (.inr (.inr (.inr (fun _ => none))))), .inr (5, [.int 0, .int 0, .ref (L + 13), .ref (L + 14), .ref (L + 15)]), xz 9, xz 9, xz 81, .inr (3, [.ref (L + 17), .ref (L + 18)]), .inl (4, 7, .inr (.inr (.inr (.inr (va_up (va_up (va_up (va_up (va_up (va_up (va_up (fun _ => none) 0 (some (L + 22))) 1 (some (L + 24))) 2 (some (L + 26))) 3 (some (L + 28))) 4 (some (L + 30))) 5 (some (L + 32))) 6 (some (L + 34))))))), .inr (5, [.int 0, .int 0, .ref (L + 19), .ref (L + 20), .ref (L + 21)]), xz 9, xz 9, xz 81, .inr (2, [.int 0, .int 0, .int 0, .int 0, .ref (L + 23)]), xz 9, .inr (2, [.int 0, .int 0, .int 0, .int 0, .ref (L + 25)]), xz 9, .inr (2, [.int 0, .int 0, .int 0, .int 0, .ref (L + 27)]), xz 9, .inr (2, [.int 0, .int 0, .int 0, .int 0, .ref (L + 29)]), xz 9, .inr (2, [.int 0, .int 0, .int 0, .int 0, .ref (L + 31)]), xz 9, .inr (2, [.int 0, .int 0, .int 0, .int 0, .ref (L + 33)]), xz 9, .inr (2, [.int 0, .int 0, .int 0, .int 0, .ref (L + 35)]), xz 9]) _ _
  refine xi_aastore (M' := (P ++ [.inr (8, [.ref (L + 1), .ref (L + 3), .ref (L + 5), .ref (L + 10), .ref (L + 11), .null, .null, .null, .null, .null]), .inr (1, [.ref (L + 2), .int 0]), xzb 400, .inr (1, [.ref (L + 4), .int 0]), xzb 256, .inr (6, [.ref (L + 6), .int 0, .int (-1), .ref (L + 1), .int 0, .int 0, .int 0, .int 0]), .inr (5, [.int 0, .int 0, .ref (L + 7), .ref (L + 8), .ref (L + 9)]), xz 9, xz 9, xz 81, .inl (2, 3, .inr (.inr (.inr (.inr (va_up (fun _ => none) 0 (some (L + 12))))))), .inl (3, 3, .inr (.inr (.inr (.inr (va_up (fun _ => none) 0 (some (L + 16))))))), .inr (5, [.int 0, .int 0, .ref (L + 13), .ref (L + 14), .ref (L + 15)]), xz 9, xz 9, xz 81, .inr (3, [.ref (L + 17), .ref (L + 18)]), .inl (4, 7, .inr (.inr (.inr (.inr (va_up (va_up (va_up (va_up (va_up (va_up (va_up (fun _ => none) 0 (some (L + 22))) 1 (some (L + 24))) 2 (some (L + 26))) 3 (some (L + 28))) 4 (some (L + 30))) 5 (some (L + 32))) 6 (some (L + 34))))))), .inr (5, [.int 0, .int 0, .ref (L + 19), .ref (L + 20), .ref (L + 21)]), xz 9, xz 9, xz 81, .inr (2, [.int 0, .int 0, .int 0, .int 0, .ref (L + 23)]), xz 9, .inr (2, [.int 0, .int 0, .int 0, .int 0, .ref (L + 25)]), xz 9, .inr (2, [.int 0, .int 0, .int 0, .int 0, .ref (L + 27)]), xz 9, .inr (2, [.int 0, .int 0, .int 0, .int 0, .ref (L + 29)]), xz 9, .inr (2, [.int 0, .int 0, .int 0, .int 0, .ref (L + 31)]), xz 9, .inr (2, [.int 0, .int 0, .int 0, .int 0, .ref (L + 33)]), xz 9, .inr (2, [.int 0, .int 0, .int 0, .int 0, .ref (L + 35)]), xz 9])) dX11_init_95 (xpg hP rfl) rfl (xpg hP rfl) rfl (by unfold vp_in; decide) (xps hP) ?_
  refine xi_iinc (v := 1) (lv' := [(1, .int 1), (0, .ref L)]) 0 dX11_init_96 rfl (by decide) (by decide) rfl ?_
  refine xi_goto (tgt := 65) dX11_init_99 (by decide) ?_
  refine xi_iload_n 0 dX11_init_65 rfl ?_
  refine xi_iconst (v := 3) dX11_init_66 (by decide) ?_
  refine xi_icmp_ge_f (tgt := 102) dX11_init_67 (by decide) (by decide) ?_
  refine xi_aload_n 1 dX11_init_70 rfl ?_
  refine xi_get (f := 3) dX11_init_71 (xpg0 hP rfl) rfl ok_8 (by decide) w_245 rfl ?_
  refine xi_iload_n 0 dX11_init_74 rfl ?_
  refine xi_new (i := (L + 36)) (ci := 5) (fs := [.int 0, .int 0, .null, .null, .null]) (M' := (P ++ [.inr (8, [.ref (L + 1), .ref (L + 3), .ref (L + 5), .ref (L + 10), .ref (L + 11), .null, .null, .null, .null, .null]), .inr (1, [.ref (L + 2), .int 0]), xzb 400, .inr (1, [.ref (L + 4), .int 0]), xzb 256, .inr (6, [.ref (L + 6), .int 0, .int (-1), .ref (L + 1), .int 0, .int 0, .int 0, .int 0]), .inr (5, [.int 0, .int 0, .ref (L + 7), .ref (L + 8), .ref (L + 9)]), xz 9, xz 9, xz 81, .inl (2, 3, .inr (.inr (.inr (.inr (va_up (fun _ => none) 0 (some (L + 12))))))), .inl (3, 3, .inr (.inr (.inr (.inr (va_up (fun _ => none) 0 (some (L + 16))))))), .inr (5, [.int 0, .int 0, .ref (L + 13), .ref (L + 14), .ref (L + 15)]), xz 9, xz 9, xz 81, .inr (3, [.ref (L + 17), .ref (L + 18)]), .inl (4, 7, .inr (.inr (.inr (.inr (va_up (va_up (va_up (va_up (va_up (va_up (va_up (fun _ => none) 0 (some (L + 22))) 1 (some (L + 24))) 2 (some (L + 26))) 3 (some (L + 28))) 4 (some (L + 30))) 5 (some (L + 32))) 6 (some (L + 34))))))), .inr (5, [.int 0, .int 0, .ref (L + 19), .ref (L + 20), .ref (L + 21)]), xz 9, xz 9, xz 81, .inr (2, [.int 0, .int 0, .int 0, .int 0, .ref (L + 23)]), xz 9, .inr (2, [.int 0, .int 0, .int 0, .int 0, .ref (L + 25)]), xz 9, .inr (2, [.int 0, .int 0, .int 0, .int 0, .ref (L + 27)]), xz 9, .inr (2, [.int 0, .int 0, .int 0, .int 0, .ref (L + 29)]), xz 9, .inr (2, [.int 0, .int 0, .int 0, .int 0, .ref (L + 31)]), xz 9, .inr (2, [.int 0, .int 0, .int 0, .int 0, .ref (L + 33)]), xz 9, .inr (2, [.int 0, .int 0, .int 0, .int 0, .ref (L + 35)]), xz 9, .inr (5, [.int 0, .int 0, .null, .null, .null])])) dX11_init_75 rfl ok_5 w_124 w_56 w_5 nf_5 rfl (xpl hP rfl) (List.append_assoc _ _ _) (Nat.le_of_ble_eq_true rfl) (Nat.le_of_ble_eq_true rfl) ?_
  refine xi_dup dX11_init_78 rfl ?_
  refine xi_callIN (as := []) (rest := [.ref (L + 36), .int 1, .ref (L + 10)]) dX11_init_79 (ct_X5_init G (P ++ [.inr (8, [.ref (L + 1), .ref (L + 3), .ref (L + 5), .ref (L + 10), .ref (L + 11), .null, .null, .null, .null, .null]), .inr (1, [.ref (L + 2), .int 0]), xzb 400, .inr (1, [.ref (L + 4), .int 0]), xzb 256, .inr (6, [.ref (L + 6), .int 0, .int (-1), .ref (L + 1), .int 0, .int 0, .int 0, .int 0]), .inr (5, [.int 0, .int 0, .ref (L + 7), .ref (L + 8), .ref (L + 9)]), xz 9, xz 9, xz 81, .inl (2, 3, .inr (.inr (.inr (.inr (va_up (fun _ => none) 0 (some (L + 12))))))), .inl (3, 3, .inr (.inr (.inr (.inr (va_up (fun _ => none) 0 (some (L + 16))))))), .inr (5, [.int 0, .int 0, .ref (L + 13), .ref (L + 14), .ref (L + 15)]), xz 9, xz 9, xz 81, .inr (3, [.ref (L + 17), .ref (L + 18)]), .inl (4, 7, .inr (.inr (.inr (.inr (va_up (va_up (va_up (va_up (va_up (va_up (va_up (fun _ => none) 0 (some (L + 22))) 1 (some (L + 24))) 2 (some (L + 26))) 3 (some (L + 28))) 4 (some (L + 30))) 5 (some (L + 32))) 6 (some (L + 34))))))), .inr (5, [.int 0, .int 0, .ref (L + 19), .ref (L + 20), .ref (L + 21)]), xz 9, xz 9, xz 81, .inr (2, [.int 0, .int 0, .int 0, .int 0, .ref (L + 23)]), xz 9, .inr (2, [.int 0, .int 0, .int 0, .int 0, .ref (L + 25)]), xz 9, .inr (2, [.int 0, .int 0, .int 0, .int 0, .ref (L + 27)]), xz 9, .inr (2, [.int 0, .int 0, .int 0, .int 0, .ref (L + 29)]), xz 9, .inr (2, [.int 0, .int 0, .int 0, .int 0, .ref (L + 31)]), xz 9, .inr (2, [.int 0, .int 0, .int 0, .int 0, .ref (L + 33)]), xz 9, .inr (2, [.int 0, .int 0, .int 0, .int 0, .ref (L + 35)]), xz 9]) (L + 36) (xpl hP rfl) _ (List.append_assoc P [.inr (8, [.ref (L + 1), .ref (L + 3), .ref (L + 5), .ref (L + 10), .ref (L + 11), .null, .null, .null, .null, .null]), .inr (1, [.ref (L + 2), .int 0]), xzb 400, .inr (1, [.ref (L + 4), .int 0]), xzb 256, .inr (6, [.ref (L + 6), .int 0, .int (-1), .ref (L + 1), .int 0, .int 0, .int 0, .int 0]), .inr (5, [.int 0, .int 0, .ref (L + 7), .ref (L + 8), .ref (L + 9)]), xz 9, xz 9, xz 81, .inl (2, 3, .inr (.inr (.inr (.inr (va_up (fun _ => none) 0 (some (L + 12))))))), .inl (3, 3, .inr (.inr (.inr (.inr (va_up (fun _ => none) 0 (some (L + 16))))))), .inr (5, [.int 0, .int 0, .ref (L + 13), .ref (L + 14), .ref (L + 15)]), xz 9, xz 9, xz 81, .inr (3, [.ref (L + 17), .ref (L + 18)]), .inl (4, 7, .inr (.inr (.inr (.inr (va_up (va_up (va_up (va_up (va_up (va_up (va_up (fun _ => none) 0 (some (L + 22))) 1 (some (L + 24))) 2 (some (L + 26))) 3 (some (L + 28))) 4 (some (L + 30))) 5 (some (L + 32))) 6 (some (L + 34))))))), .inr (5, [.int 0, .int 0, .ref (L + 19), .ref (L + 20), .ref (L + 21)]), xz 9, xz 9, xz 81, .inr (2, [.int 0, .int 0, .int 0, .int 0, .ref (L + 23)]), xz 9, .inr (2, [.int 0, .int 0, .int 0, .int 0, .ref (L + 25)]), xz 9, .inr (2, [.int 0, .int 0, .int 0, .int 0, .ref (L + 27)]), xz 9, .inr (2, [.int 0, .int 0, .int 0, .int 0, .ref (L + 29)]), xz 9, .inr (2, [.int 0, .int 0, .int 0, .int 0, .ref (L + 31)]), xz 9, .inr (2, [.int 0, .int 0, .int 0, .int 0, .ref (L + 33)]), xz 9, .inr (2, [.int 0, .int 0, .int 0, .int 0, .ref (L + 35)]), xz 9] _).symm ) mkX5_init w_58 wn_128 rfl rfl rfl rfl (Nat.le_of_ble_eq_true rfl) (Nat.le_of_ble_eq_true rfl) (Nat.le_of_ble_eq_true rfl) (Nat.le_of_ble_eq_true rfl) (Nat.le_of_ble_eq_true rfl) ?_
  intro v M2 hq
  obtain ⟨rfl, hM2⟩ := hq
  rw [List.append_assoc] at hM2
  subst hM2
  show xW _ _ _ _ 82 _ [.ref (L + 36), .int 1, .ref (L + 10)] (P ++ [.inr (8, [.ref (L + 1), .ref (L + 3), .ref (L + 5), .ref (L + 10), .ref (L + 11), .null, .null, .null, .null, .null]), .inr (1, [.ref (L + 2), .int 0]), xzb 400, .inr (1, [.ref (L + 4), .int 0]), xzb 256, .inr (6, [.ref (L + 6), .int 0, .int (-1), .ref (L + 1), .int 0, .int 0, .int 0, .int 0]), .inr (5, [.int 0, .int 0, .ref (L + 7), .ref (L + 8), .ref (L + 9)]), xz 9, xz 9, xz 81, .inl (2, 3, .inr (.inr (.inr (.inr (va_up (fun _ => none) 0 (some (L + 12))))))), .inl (3, 3, .inr (.inr (.inr (.inr (va_up (fun _ => none) 0 (some (L + 16))))))), .inr (5, [.int 0, .int 0, .ref (L + 13), .ref (L + 14), .ref (L + 15)]), xz 9, xz 9, xz 81, .inr (3, [.ref (L + 17), .ref (L + 18)]), .inl (4, 7, .inr (.inr (.inr (.inr (va_up (va_up (va_up (va_up (va_up (va_up (va_up (fun _ => none) 0 (some (L + 22))) 1 (some (L + 24))) 2 (some (L + 26))) 3 (some (L + 28))) 4 (some (L + 30))) 5 (some (L + 32))) 6 (some (L + 34))))))), .inr (5, [.int 0, .int 0, .ref (L + 19), .ref (L + 20), .ref (L + 21)]), xz 9, xz 9, xz 81, .inr (2, [.int 0, .int 0, .int 0, .int 0, .ref (L + 23)]), xz 9, .inr (2, [.int 0, .int 0, .int 0, .int 0, .ref (L + 25)]), xz 9, .inr (2, [.int 0, .int 0, .int 0, .int 0, .ref (L + 27)]), xz 9, .inr (2, [.int 0, .int 0, .int 0, .int 0, .ref (L + 29)]), xz 9, .inr (2, [.int 0, .int 0, .int 0, .int 0, .ref (L + 31)]), xz 9, .inr (2, [.int 0, .int 0, .int 0, .int 0, .ref (L + 33)]), xz 9, .inr (2, [.int 0, .int 0, .int 0, .int 0, .ref (L + 35)]), xz 9, .inr (5, [.int 0, .int 0, .ref (L + 37), .ref (L + 38), .ref (L + 39)]), xz 9, xz 9, xz 81]) _ _
  refine xi_aastore (M' := (P ++ [.inr (8, [.ref (L + 1), .ref (L + 3), .ref (L + 5), .ref (L + 10), .ref (L + 11), .null, .null, .null, .null, .null]), .inr (1, [.ref (L + 2), .int 0]), xzb 400, .inr (1, [.ref (L + 4), .int 0]), xzb 256, .inr (6, [.ref (L + 6), .int 0, .int (-1), .ref (L + 1), .int 0, .int 0, .int 0, .int 0]), .inr (5, [.int 0, .int 0, .ref (L + 7), .ref (L + 8), .ref (L + 9)]), xz 9, xz 9, xz 81, .inl (2, 3, .inr (.inr (.inr (.inr (va_up (va_up (fun _ => none) 0 (some (L + 12))) 1 (some (L + 36))))))), .inl (3, 3, .inr (.inr (.inr (.inr (va_up (fun _ => none) 0 (some (L + 16))))))), .inr (5, [.int 0, .int 0, .ref (L + 13), .ref (L + 14), .ref (L + 15)]), xz 9, xz 9, xz 81, .inr (3, [.ref (L + 17), .ref (L + 18)]), .inl (4, 7, .inr (.inr (.inr (.inr (va_up (va_up (va_up (va_up (va_up (va_up (va_up (fun _ => none) 0 (some (L + 22))) 1 (some (L + 24))) 2 (some (L + 26))) 3 (some (L + 28))) 4 (some (L + 30))) 5 (some (L + 32))) 6 (some (L + 34))))))), .inr (5, [.int 0, .int 0, .ref (L + 19), .ref (L + 20), .ref (L + 21)]), xz 9, xz 9, xz 81, .inr (2, [.int 0, .int 0, .int 0, .int 0, .ref (L + 23)]), xz 9, .inr (2, [.int 0, .int 0, .int 0, .int 0, .ref (L + 25)]), xz 9, .inr (2, [.int 0, .int 0, .int 0, .int 0, .ref (L + 27)]), xz 9, .inr (2, [.int 0, .int 0, .int 0, .int 0, .ref (L + 29)]), xz 9, .inr (2, [.int 0, .int 0, .int 0, .int 0, .ref (L + 31)]), xz 9, .inr (2, [.int 0, .int 0, .int 0, .int 0, .ref (L + 33)]), xz 9, .inr (2, [.int 0, .int 0, .int 0, .int 0, .ref (L + 35)]), xz 9, .inr (5, [.int 0, .int 0, .ref (L + 37), .ref (L + 38), .ref (L + 39)]), xz 9, xz 9, xz 81])) dX11_init_82 (xpg hP rfl) rfl (xpg hP rfl) rfl (by unfold vp_in; decide) (xps hP) ?_
  refine xi_aload_n 1 dX11_init_83 rfl ?_
  refine xi_get (f := 4) dX11_init_84 (xpg0 hP rfl) rfl ok_8 (by decide) w_246 rfl ?_
  refine xi_iload_n 0 dX11_init_87 rfl ?_
  refine xi_new (i := (L + 40)) (ci := 3) (fs := [.null, .null]) (M' := (P ++ [.inr (8, [.ref (L + 1), .ref (L + 3), .ref (L + 5), .ref (L + 10), .ref (L + 11), .null, .null, .null, .null, .null]), .inr (1, [.ref (L + 2), .int 0]), xzb 400, .inr (1, [.ref (L + 4), .int 0]), xzb 256, .inr (6, [.ref (L + 6), .int 0, .int (-1), .ref (L + 1), .int 0, .int 0, .int 0, .int 0]), .inr (5, [.int 0, .int 0, .ref (L + 7), .ref (L + 8), .ref (L + 9)]), xz 9, xz 9, xz 81, .inl (2, 3, .inr (.inr (.inr (.inr (va_up (va_up (fun _ => none) 0 (some (L + 12))) 1 (some (L + 36))))))), .inl (3, 3, .inr (.inr (.inr (.inr (va_up (fun _ => none) 0 (some (L + 16))))))), .inr (5, [.int 0, .int 0, .ref (L + 13), .ref (L + 14), .ref (L + 15)]), xz 9, xz 9, xz 81, .inr (3, [.ref (L + 17), .ref (L + 18)]), .inl (4, 7, .inr (.inr (.inr (.inr (va_up (va_up (va_up (va_up (va_up (va_up (va_up (fun _ => none) 0 (some (L + 22))) 1 (some (L + 24))) 2 (some (L + 26))) 3 (some (L + 28))) 4 (some (L + 30))) 5 (some (L + 32))) 6 (some (L + 34))))))), .inr (5, [.int 0, .int 0, .ref (L + 19), .ref (L + 20), .ref (L + 21)]), xz 9, xz 9, xz 81, .inr (2, [.int 0, .int 0, .int 0, .int 0, .ref (L + 23)]), xz 9, .inr (2, [.int 0, .int 0, .int 0, .int 0, .ref (L + 25)]), xz 9, .inr (2, [.int 0, .int 0, .int 0, .int 0, .ref (L + 27)]), xz 9, .inr (2, [.int 0, .int 0, .int 0, .int 0, .ref (L + 29)]), xz 9, .inr (2, [.int 0, .int 0, .int 0, .int 0, .ref (L + 31)]), xz 9, .inr (2, [.int 0, .int 0, .int 0, .int 0, .ref (L + 33)]), xz 9, .inr (2, [.int 0, .int 0, .int 0, .int 0, .ref (L + 35)]), xz 9, .inr (5, [.int 0, .int 0, .ref (L + 37), .ref (L + 38), .ref (L + 39)]), xz 9, xz 9, xz 81, .inr (3, [.null, .null])])) dX11_init_88 rfl ok_3 w_126 w_129 w_6 nf_3 rfl (xpl hP rfl) (List.append_assoc _ _ _) (Nat.le_of_ble_eq_true rfl) (Nat.le_of_ble_eq_true rfl) ?_
  refine xi_dup dX11_init_91 rfl ?_
  refine xi_callI (as := []) (rest := [.ref (L + 40), .int 1, .ref (L + 11)]) dX11_init_92 (ct_X3_init G (P ++ [.inr (8, [.ref (L + 1), .ref (L + 3), .ref (L + 5), .ref (L + 10), .ref (L + 11), .null, .null, .null, .null, .null]), .inr (1, [.ref (L + 2), .int 0]), xzb 400, .inr (1, [.ref (L + 4), .int 0]), xzb 256, .inr (6, [.ref (L + 6), .int 0, .int (-1), .ref (L + 1), .int 0, .int 0, .int 0, .int 0]), .inr (5, [.int 0, .int 0, .ref (L + 7), .ref (L + 8), .ref (L + 9)]), xz 9, xz 9, xz 81, .inl (2, 3, .inr (.inr (.inr (.inr (va_up (va_up (fun _ => none) 0 (some (L + 12))) 1 (some (L + 36))))))), .inl (3, 3, .inr (.inr (.inr (.inr (va_up (fun _ => none) 0 (some (L + 16))))))), .inr (5, [.int 0, .int 0, .ref (L + 13), .ref (L + 14), .ref (L + 15)]), xz 9, xz 9, xz 81, .inr (3, [.ref (L + 17), .ref (L + 18)]), .inl (4, 7, .inr (.inr (.inr (.inr (va_up (va_up (va_up (va_up (va_up (va_up (va_up (fun _ => none) 0 (some (L + 22))) 1 (some (L + 24))) 2 (some (L + 26))) 3 (some (L + 28))) 4 (some (L + 30))) 5 (some (L + 32))) 6 (some (L + 34))))))), .inr (5, [.int 0, .int 0, .ref (L + 19), .ref (L + 20), .ref (L + 21)]), xz 9, xz 9, xz 81, .inr (2, [.int 0, .int 0, .int 0, .int 0, .ref (L + 23)]), xz 9, .inr (2, [.int 0, .int 0, .int 0, .int 0, .ref (L + 25)]), xz 9, .inr (2, [.int 0, .int 0, .int 0, .int 0, .ref (L + 27)]), xz 9, .inr (2, [.int 0, .int 0, .int 0, .int 0, .ref (L + 29)]), xz 9, .inr (2, [.int 0, .int 0, .int 0, .int 0, .ref (L + 31)]), xz 9, .inr (2, [.int 0, .int 0, .int 0, .int 0, .ref (L + 33)]), xz 9, .inr (2, [.int 0, .int 0, .int 0, .int 0, .ref (L + 35)]), xz 9, .inr (5, [.int 0, .int 0, .ref (L + 37), .ref (L + 38), .ref (L + 39)]), xz 9, xz 9, xz 81]) (L + 40) (xpl hP rfl) _ (List.append_assoc P [.inr (8, [.ref (L + 1), .ref (L + 3), .ref (L + 5), .ref (L + 10), .ref (L + 11), .null, .null, .null, .null, .null]), .inr (1, [.ref (L + 2), .int 0]), xzb 400, .inr (1, [.ref (L + 4), .int 0]), xzb 256, .inr (6, [.ref (L + 6), .int 0, .int (-1), .ref (L + 1), .int 0, .int 0, .int 0, .int 0]), .inr (5, [.int 0, .int 0, .ref (L + 7), .ref (L + 8), .ref (L + 9)]), xz 9, xz 9, xz 81, .inl (2, 3, .inr (.inr (.inr (.inr (va_up (va_up (fun _ => none) 0 (some (L + 12))) 1 (some (L + 36))))))), .inl (3, 3, .inr (.inr (.inr (.inr (va_up (fun _ => none) 0 (some (L + 16))))))), .inr (5, [.int 0, .int 0, .ref (L + 13), .ref (L + 14), .ref (L + 15)]), xz 9, xz 9, xz 81, .inr (3, [.ref (L + 17), .ref (L + 18)]), .inl (4, 7, .inr (.inr (.inr (.inr (va_up (va_up (va_up (va_up (va_up (va_up (va_up (fun _ => none) 0 (some (L + 22))) 1 (some (L + 24))) 2 (some (L + 26))) 3 (some (L + 28))) 4 (some (L + 30))) 5 (some (L + 32))) 6 (some (L + 34))))))), .inr (5, [.int 0, .int 0, .ref (L + 19), .ref (L + 20), .ref (L + 21)]), xz 9, xz 9, xz 81, .inr (2, [.int 0, .int 0, .int 0, .int 0, .ref (L + 23)]), xz 9, .inr (2, [.int 0, .int 0, .int 0, .int 0, .ref (L + 25)]), xz 9, .inr (2, [.int 0, .int 0, .int 0, .int 0, .ref (L + 27)]), xz 9, .inr (2, [.int 0, .int 0, .int 0, .int 0, .ref (L + 29)]), xz 9, .inr (2, [.int 0, .int 0, .int 0, .int 0, .ref (L + 31)]), xz 9, .inr (2, [.int 0, .int 0, .int 0, .int 0, .ref (L + 33)]), xz 9, .inr (2, [.int 0, .int 0, .int 0, .int 0, .ref (L + 35)]), xz 9, .inr (5, [.int 0, .int 0, .ref (L + 37), .ref (L + 38), .ref (L + 39)]), xz 9, xz 9, xz 81] _).symm ) mkX3_init w_131 w_130 rfl rfl rfl rfl (Nat.le_of_ble_eq_true rfl) (Nat.le_of_ble_eq_true rfl) (Nat.le_of_ble_eq_true rfl) (Nat.le_of_ble_eq_true rfl) (Nat.le_of_ble_eq_true rfl) ?_
  intro v M2 hq
  obtain ⟨rfl, hM2⟩ := hq
  rw [List.append_assoc] at hM2
  subst hM2
  show xW _ _ _ _ 95 _ [.ref (L + 40), .int 1, .ref (L + 11)] (P ++ [.inr (8, [.ref (L + 1), .ref (L + 3), .ref (L + 5), .ref (L + 10), .ref (L + 11), .null, .null, .null, .null, .null]), .inr (1, [.ref (L + 2), .int 0]), xzb 400, .inr (1, [.ref (L + 4), .int 0]), xzb 256, .inr (6, [.ref (L + 6), .int 0, .int (-1), .ref (L + 1), .int 0, .int 0, .int 0, .int 0]), .inr (5, [.int 0, .int 0, .ref (L + 7), .ref (L + 8), .ref (L + 9)]), xz 9, xz 9, xz 81, .inl (2, 3, .inr (.inr (.inr (.inr (va_up (va_up (fun _ => none) 0 (some (L + 12))) 1 (some (L + 36))))))), .inl (3, 3, .inr (.inr (.inr (.inr (va_up (fun _ => none) 0 (some (L + 16))))))), .inr (5, [.int 0, .int 0, .ref (L + 13), .ref (L + 14), .ref (L + 15)]), xz 9, xz 9, xz 81, .inr (3, [.ref (L + 17), .ref (L + 18)]), .inl (4, 7, .inr (.inr (.inr (.inr (va_up (va_up (va_up (va_up (va_up (va_up (va_up (fun _ => none) 0 (some (L + 22))) 1 (some (L + 24))) 2 (some (L + 26))) 3 (some (L + 28))) 4 (some (L + 30))) 5 (some (L + 32))) 6 (some (L + 34))))))), .inr (5, [.int 0, .int 0, .ref (L + 19), .ref (L + 20), .ref (L + 21)]), xz 9, xz 9, xz 81, .inr (2, [.int 0, .int 0, .int 0, .int 0, .ref (L + 23)]), xz 9, .inr (2, [.int 0, .int 0, .int 0, .int 0, .ref (L + 25)]), xz 9, .inr (2, [.int 0, .int 0, .int 0, .int 0, .ref (L + 27)]), xz 9, .inr (2, [.int 0, .int 0, .int 0, .int 0, .ref (L + 29)]), xz 9, .inr (2, [.int 0, .int 0, .int 0, .int 0, .ref (L + 31)]), xz 9, .inr (2, [.int 0, .int 0, .int 0, .int 0, .ref (L + 33)]), xz 9, .inr (2, [.int 0, .int 0, .int 0, .int 0, .ref (L + 35)]), xz 9, .inr (5, [.int 0, .int 0, .ref (L + 37), .ref (L + 38), .ref (L + 39)]), xz 9, xz 9, xz 81, .inr (3, [.ref (L + 41), .ref (L + 42)]), .inl (4, 7, .inr (.inr (.inr (.inr (va_up (va_up (va_up (va_up (va_up (va_up (va_up (fun _ => none) 0 (some (L + 46))) 1 (some (L + 48))) 2 (some (L + 50))) 3 (some (L + 52))) 4 (some (L + 54))) 5 (some (L + 56))) 6 (some (L + 58))))))), .inr (5, [.int 0, .int 0, .ref (L + 43), .ref (L + 44), .ref (L + 45)]), xz 9, xz 9, xz 81, .inr (2, [.int 0, .int 0, .int 0, .int 0, .ref (L + 47)]), xz 9, .inr (2, [.int 0, .int 0, .int 0, .int 0, .ref (L + 49)]), xz 9, .inr (2, [.int 0, .int 0, .int 0, .int 0, .ref (L + 51)]), xz 9, .inr (2, [.int 0, .int 0, .int 0, .int 0, .ref (L + 53)]), xz 9, .inr (2, [.int 0, .int 0, .int 0, .int 0, .ref (L + 55)]), xz 9, .inr (2, [.int 0, .int 0, .int 0, .int 0, .ref (L + 57)]), xz 9, .inr (2, [.int 0, .int 0, .int 0, .int 0, .ref (L + 59)]), xz 9]) _ _
  refine xi_aastore (M' := (P ++ [.inr (8, [.ref (L + 1), .ref (L + 3), .ref (L + 5), .ref (L + 10), .ref (L + 11), .null, .null, .null, .null, .null]), .inr (1, [.ref (L + 2), .int 0]), xzb 400, .inr (1, [.ref (L + 4), .int 0]), xzb 256, .inr (6, [.ref (L + 6), .int 0, .int (-1), .ref (L + 1), .int 0, .int 0, .int 0, .int 0]), .inr (5, [.int 0, .int 0, .ref (L + 7), .ref (L + 8), .ref (L + 9)]), xz 9, xz 9, xz 81, .inl (2, 3, .inr (.inr (.inr (.inr (va_up (va_up (fun _ => none) 0 (some (L + 12))) 1 (some (L + 36))))))), .inl (3, 3, .inr (.inr (.inr (.inr (va_up (va_up (fun _ => none) 0 (some (L + 16))) 1 (some (L + 40))))))), .inr (5, [.int 0, .int 0, .ref (L + 13), .ref (L + 14), .ref (L + 15)]), xz 9, xz 9, xz 81, .inr (3, [.ref (L + 17), .ref (L + 18)]), .inl (4, 7, .inr (.inr (.inr (.inr (va_up (va_up (va_up (va_up (va_up (va_up (va_up (fun _ => none) 0 (some (L + 22))) 1 (some (L + 24))) 2 (some (L + 26))) 3 (some (L + 28))) 4 (some (L + 30))) 5 (some (L + 32))) 6 (some (L + 34))))))), .inr (5, [.int 0, .int 0, .ref (L + 19), .ref (L + 20), .ref (L + 21)]), xz 9, xz 9, xz 81, .inr (2, [.int 0, .int 0, .int 0, .int 0, .ref (L + 23)]), xz 9, .inr (2, [.int 0, .int 0, .int 0, .int 0, .ref (L + 25)]), xz 9, .inr (2, [.int 0, .int 0, .int 0, .int 0, .ref (L + 27)]), xz 9, .inr (2, [.int 0, .int 0, .int 0, .int 0, .ref (L + 29)]), xz 9, .inr (2, [.int 0, .int 0, .int 0, .int 0, .ref (L + 31)]), xz 9, .inr (2, [.int 0, .int 0, .int 0, .int 0, .ref (L + 33)]), xz 9, .inr (2, [.int 0, .int 0, .int 0, .int 0, .ref (L + 35)]), xz 9, .inr (5, [.int 0, .int 0, .ref (L + 37), .ref (L + 38), .ref (L + 39)]), xz 9, xz 9, xz 81, .inr (3, [.ref (L + 41), .ref (L + 42)]), .inl (4, 7, .inr (.inr (.inr (.inr (va_up (va_up (va_up (va_up (va_up (va_up (va_up (fun _ => none) 0 (some (L + 46))) 1 (some (L + 48))) 2 (some (L + 50))) 3 (some (L + 52))) 4 (some (L + 54))) 5 (some (L + 56))) 6 (some (L + 58))))))), .inr (5, [.int 0, .int 0, .ref (L + 43), .ref (L + 44), .ref (L + 45)]), xz 9, xz 9, xz 81, .inr (2, [.int 0, .int 0, .int 0, .int 0, .ref (L + 47)]), xz 9, .inr (2, [.int 0, .int 0, .int 0, .int 0, .ref (L + 49)]), xz 9, .inr (2, [.int 0, .int 0, .int 0, .int 0, .ref (L + 51)]), xz 9, .inr (2, [.int 0, .int 0, .int 0, .int 0, .ref (L + 53)]), xz 9, .inr (2, [.int 0, .int 0, .int 0, .int 0, .ref (L + 55)]), xz 9, .inr (2, [.int 0, .int 0, .int 0, .int 0, .ref (L + 57)]), xz 9, .inr (2, [.int 0, .int 0, .int 0, .int 0, .ref (L + 59)]), xz 9])) dX11_init_95 (xpg hP rfl) rfl (xpg hP rfl) rfl (by unfold vp_in; decide) (xps hP) ?_
  refine xi_iinc (v := 2) (lv' := [(1, .int 2), (0, .ref L)]) 0 dX11_init_96 rfl (by decide) (by decide) rfl ?_
  refine xi_goto (tgt := 65) dX11_init_99 (by decide) ?_
  refine xi_iload_n 0 dX11_init_65 rfl ?_
  refine xi_iconst (v := 3) dX11_init_66 (by decide) ?_
  refine xi_icmp_ge_f (tgt := 102) dX11_init_67 (by decide) (by decide) ?_
  refine xi_aload_n 1 dX11_init_70 rfl ?_
  refine xi_get (f := 3) dX11_init_71 (xpg0 hP rfl) rfl ok_8 (by decide) w_245 rfl ?_
  refine xi_iload_n 0 dX11_init_74 rfl ?_
  refine xi_new (i := (L + 60)) (ci := 5) (fs := [.int 0, .int 0, .null, .null, .null]) (M' := (P ++ [.inr (8, [.ref (L + 1), .ref (L + 3), .ref (L + 5), .ref (L + 10), .ref (L + 11), .null, .null, .null, .null, .null]), .inr (1, [.ref (L + 2), .int 0]), xzb 400, .inr (1, [.ref (L + 4), .int 0]), xzb 256, .inr (6, [.ref (L + 6), .int 0, .int (-1), .ref (L + 1), .int 0, .int 0, .int 0, .int 0]), .inr (5, [.int 0, .int 0, .ref (L + 7), .ref (L + 8), .ref (L + 9)]), xz 9, xz 9, xz 81, .inl (2, 3, .inr (.inr (.inr (.inr (va_up (va_up (fun _ => none) 0 (some (L + 12))) 1 (some (L + 36))))))), .inl (3, 3, .inr (.inr (.inr (.inr (va_up (va_up (fun _ => none) 0 (some (L + 16))) 1 (some (L + 40))))))), .inr (5, [.int 0, .int 0, .ref (L + 13), .ref (L + 14), .ref (L + 15)]), xz 9, xz 9, xz 81, .inr (3, [.ref (L + 17), .ref (L + 18)]), .inl (4, 7, .inr (.inr (.inr (.inr (va_up (va_up (va_up (va_up (va_up (va_up (va_up (fun _ => none) 0 (some (L + 22))) 1 (some (L + 24))) 2 (some (L + 26))) 3 (some (L + 28))) 4 (some (L + 30))) 5 (some (L + 32))) 6 (some (L + 34))))))), .inr (5, [.int 0, .int 0, .ref (L + 19), .ref (L + 20), .ref (L + 21)]), xz 9, xz 9, xz 81, .inr (2, [.int 0, .int 0, .int 0, .int 0, .ref (L + 23)]), xz 9, .inr (2, [.int 0, .int 0, .int 0, .int 0, .ref (L + 25)]), xz 9, .inr (2, [.int 0, .int 0, .int 0, .int 0, .ref (L + 27)]), xz 9, .inr (2, [.int 0, .int 0, .int 0, .int 0, .ref (L + 29)]), xz 9, .inr (2, [.int 0, .int 0, .int 0, .int 0, .ref (L + 31)]), xz 9, .inr (2, [.int 0, .int 0, .int 0, .int 0, .ref (L + 33)]), xz 9, .inr (2, [.int 0, .int 0, .int 0, .int 0, .ref (L + 35)]), xz 9, .inr (5, [.int 0, .int 0, .ref (L + 37), .ref (L + 38), .ref (L + 39)]), xz 9, xz 9, xz 81, .inr (3, [.ref (L + 41), .ref (L + 42)]), .inl (4, 7, .inr (.inr (.inr (.inr (va_up (va_up (va_up (va_up (va_up (va_up (va_up (fun _ => none) 0 (some (L + 46))) 1 (some (L + 48))) 2 (some (L + 50))) 3 (some (L + 52))) 4 (some (L + 54))) 5 (some (L + 56))) 6 (some (L + 58))))))), .inr (5, [.int 0, .int 0, .ref (L + 43), .ref (L + 44), .ref (L + 45)]), xz 9, xz 9, xz 81, .inr (2, [.int 0, .int 0, .int 0, .int 0, .ref (L + 47)]), xz 9, .inr (2, [.int 0, .int 0, .int 0, .int 0, .ref (L + 49)]), xz 9, .inr (2, [.int 0, .int 0, .int 0, .int 0, .ref (L + 51)]), xz 9, .inr (2, [.int 0, .int 0, .int 0, .int 0, .ref (L + 53)]), xz 9, .inr (2, [.int 0, .int 0, .int 0, .int 0, .ref (L + 55)]), xz 9, .inr (2, [.int 0, .int 0, .int 0, .int 0, .ref (L + 57)]), xz 9, .inr (2, [.int 0, .int 0, .int 0, .int 0, .ref (L + 59)]), xz 9, .inr (5, [.int 0, .int 0, .null, .null, .null])])) dX11_init_75 rfl ok_5 w_124 w_56 w_5 nf_5 rfl (xpl hP rfl) (List.append_assoc _ _ _) (Nat.le_of_ble_eq_true rfl) (Nat.le_of_ble_eq_true rfl) ?_
  refine xi_dup dX11_init_78 rfl ?_
  refine xi_callIN (as := []) (rest := [.ref (L + 60), .int 2, .ref (L + 10)]) dX11_init_79 (ct_X5_init G (P ++ [.inr (8, [.ref (L + 1), .ref (L + 3), .ref (L + 5), .ref (L + 10), .ref (L + 11), .null, .null, .null, .null, .null]), .inr (1, [.ref (L + 2), .int 0]), xzb 400, .inr (1, [.ref (L + 4), .int 0]), xzb 256, .inr (6, [.ref (L + 6), .int 0, .int (-1), .ref (L + 1), .int 0, .int 0, .int 0, .int 0]), .inr (5, [.int 0, .int 0, .ref (L + 7), .ref (L + 8), .ref (L + 9)]), xz 9, xz 9, xz 81, .inl (2, 3, .inr (.inr (.inr (.inr (va_up (va_up (fun _ => none) 0 (some (L + 12))) 1 (some (L + 36))))))), .inl (3, 3, .inr (.inr (.inr (.inr (va_up (va_up (fun _ => none) 0 (some (L + 16))) 1 (some (L + 40))))))), .inr (5, [.int 0, .int 0, .ref (L + 13), .ref (L + 14), .ref (L + 15)]), xz 9, xz 9, xz 81, .inr (3, [.ref (L + 17), .ref (L + 18)]), .inl (4, 7, .inr (.inr (.inr (.inr (va_up (va_up (va_up (va_up (va_up (va_up (va_up (fun _ => none) 0 (some (L + 22))) 1 (some (L + 24))) 2 (some (L + 26))) 3 (some (L + 28))) 4 (some (L + 30))) 5 (some (L + 32))) 6 (some (L + 34))))))), .inr (5, [.int 0, .int 0, .ref (L + 19), .ref (L + 20), .ref (L + 21)]), xz 9, xz 9, xz 81, .inr (2, [.int 0, .int 0, .int 0, .int 0, .ref (L + 23)]), xz 9, .inr (2, [.int 0, .int 0, .int 0, .int 0, .ref (L + 25)]), xz 9, .inr (2, [.int 0, .int 0, .int 0, .int 0, .ref (L + 27)]), xz 9, .inr (2, [.int 0, .int 0, .int 0, .int 0, .ref (L + 29)]), xz 9, .inr (2, [.int 0, .int 0, .int 0, .int 0, .ref (L + 31)]), xz 9, .inr (2, [.int 0, .int 0, .int 0, .int 0, .ref (L + 33)]), xz 9, .inr (2, [.int 0, .int 0, .int 0, .int 0, .ref (L + 35)]), xz 9, .inr (5, [.int 0, .int 0, .ref (L + 37), .ref (L + 38), .ref (L + 39)]), xz 9, xz 9, xz 81, .inr (3, [.ref (L + 41), .ref (L + 42)]), .inl (4, 7, .inr (.inr (.inr (.inr (va_up (va_up (va_up (va_up (va_up (va_up (va_up (fun _ => none) 0 (some (L + 46))) 1 (some (L + 48))) 2 (some (L + 50))) 3 (some (L + 52))) 4 (some (L + 54))) 5 (some (L + 56))) 6 (some (L + 58))))))), .inr (5, [.int 0, .int 0, .ref (L + 43), .ref (L + 44), .ref (L + 45)]), xz 9, xz 9, xz 81, .inr (2, [.int 0, .int 0, .int 0, .int 0, .ref (L + 47)]), xz 9, .inr (2, [.int 0, .int 0, .int 0, .int 0, .ref (L + 49)]), xz 9, .inr (2, [.int 0, .int 0, .int 0, .int 0, .ref (L + 51)]), xz 9, .inr (2, [.int 0, .int 0, .int 0, .int 0, .ref (L + 53)]), xz 9, .inr (2, [.int 0, .int 0, .int 0, .int 0, .ref (L + 55)]), xz 9, .inr (2, [.int 0, .int 0, .int 0, .int 0, .ref (L + 57)]), xz 9, .inr (2, [.int 0, .int 0, .int 0, .int 0, .ref (L + 59)]), xz 9]) (L + 60) (xpl hP rfl) _ (List.append_assoc P [.inr (8, [.ref (L + 1), .ref (L + 3), .ref (L + 5), .ref (L + 10), .ref (L + 11), .null, .null, .null, .null, .null]), .inr (1, [.ref (L + 2), .int 0]), xzb 400, .inr (1, [.ref (L + 4), .int 0]), xzb 256, .inr (6, [.ref (L + 6), .int 0, .int (-1), .ref (L + 1), .int 0, .int 0, .int 0, .int 0]), .inr (5, [.int 0, .int 0, .ref (L + 7), .ref (L + 8), .ref (L + 9)]), xz 9, xz 9, xz 81, .inl (2, 3, .inr (.inr (.inr (.inr (va_up (va_up (fun _ => none) 0 (some (L + 12))) 1 (some (L + 36))))))), .inl (3, 3, .inr (.inr (.inr (.inr (va_up (va_up (fun _ => none) 0 (some (L + 16))) 1 (some (L + 40))))))), .inr (5, [.int 0, .int 0, .ref (L + 13), .ref (L + 14), .ref (L + 15)]), xz 9, xz 9, xz 81, .inr (3, [.ref (L + 17), .ref (L + 18)]), .inl (4, 7, .inr (.inr (.inr (.inr (va_up (va_up (va_up (va_up (va_up (va_up (va_up (fun _ => none) 0 (some (L + 22))) 1 (some (L + 24))) 2 (some (L + 26))) 3 (some (L + 28))) 4 (some (L + 30))) 5 (some (L + 32))) 6 (some (L + 34))))))), .inr (5, [.int 0, .int 0, .ref (L + 19), .ref (L + 20), .ref (L + 21)]), xz 9, xz 9, xz 81, .inr (2, [.int 0, .int 0, .int 0, .int 0, .ref (L + 23)]), xz 9, .inr (2, [.int 0, .int 0, .int 0, .int 0, .ref (L + 25)]), xz 9, .inr (2, [.int 0, .int 0, .int 0, .int 0, .ref (L + 27)]), xz 9, .inr (2, [.int 0, .int 0, .int 0, .int 0, .ref (L + 29)]), xz 9, .inr (2, [.int 0, .int 0, .int 0, .int 0, .ref (L + 31)]), xz 9, .inr (2, [.int 0, .int 0, .int 0, .int 0, .ref (L + 33)]), xz 9, .inr (2, [.int 0, .int 0, .int 0, .int 0, .ref (L + 35)]), xz 9, .inr (5, [.int 0, .int 0, .ref (L + 37), .ref (L + 38), .ref (L + 39)]), xz 9, xz 9, xz 81, .inr (3, [.ref (L + 41), .ref (L + 42)]), .inl (4, 7, .inr (.inr (.inr (.inr (va_up (va_up (va_up (va_up (va_up (va_up (va_up (fun _ => none) 0 (some (L + 46))) 1 (some (L + 48))) 2 (some (L + 50))) 3 (some (L + 52))) 4 (some (L + 54))) 5 (some (L + 56))) 6 (some (L + 58))))))), .inr (5, [.int 0, .int 0, .ref (L + 43), .ref (L + 44), .ref (L + 45)]), xz 9, xz 9, xz 81, .inr (2, [.int 0, .int 0, .int 0, .int 0, .ref (L + 47)]), xz 9, .inr (2, [.int 0, .int 0, .int 0, .int 0, .ref (L + 49)]), xz 9, .inr (2, [.int 0, .int 0, .int 0, .int 0, .ref (L + 51)]), xz 9, .inr (2, [.int 0, .int 0, .int 0, .int 0, .ref (L + 53)]), xz 9, .inr (2, [.int 0, .int 0, .int 0, .int 0, .ref (L + 55)]), xz 9, .inr (2, [.int 0, .int 0, .int 0, .int 0, .ref (L + 57)]), xz 9, .inr (2, [.int 0, .int 0, .int 0, .int 0, .ref (L + 59)]), xz 9] _).symm ) mkX5_init w_58 wn_128 rfl rfl rfl rfl (Nat.le_of_ble_eq_true rfl) (Nat.le_of_ble_eq_true rfl) (Nat.le_of_ble_eq_true rfl) (Nat.le_of_ble_eq_true rfl) (Nat.le_of_ble_eq_true rfl) ?_
  intro v M2 hq
  obtain ⟨rfl, hM2⟩ := hq
  rw [List.append_assoc] at hM2
  subst hM2
  show xW _ _ _ _ 82 _ [.ref (L + 60), .int 2, .ref (L + 10)] (P ++ [.inr (8, [.ref (L + 1), .ref (L + 3), .ref (L + 5), .ref (L + 10), .ref (L + 11), .null, .null, .null, .null, .null]), .inr (1, [.ref (L + 2), .int 0]), xzb 400, .inr (1, [.ref (L + 4), .int 0]), xzb 256, .inr (6, [.ref (L + 6), .int 0, .int (-1), .ref (L + 1), .int 0, .int 0, .int 0, .int 0]), .inr (5, [.int 0, .int 0, .ref (L + 7), .ref (L + 8), .ref (L + 9)]), xz 9, xz 9, xz 81, .inl (2, 3, .inr (.inr (.inr (.inr (va_up (va_up (fun _ => none) 0 (some (L + 12))) 1 (some (L + 36))))))), .inl (3, 3, .inr (.inr (.inr (.inr (va_up (va_up (fun _ => none) 0 (some (L + 16))) 1 (some (L + 40))))))), .inr (5, [.int 0, .int 0, .ref (L + 13), .ref (L + 14), .ref (L + 15)]), xz 9, xz 9, xz 81, .inr (3, [.ref (L + 17), .ref (L + 18)]), .inl (4, 7, .inr (.inr (.inr (.inr (va_up (va_up (va_up (va_up (va_up (va_up (va_up (fun _ => none) 0 (some (L + 22))) 1 (some (L + 24))) 2 (some (L + 26))) 3 (some (L + 28))) 4 (some (L + 30))) 5 (some (L + 32))) 6 (some (L + 34))))))), .inr (5, [.int 0, .int 0, .ref (L + 19), .ref (L + 20), .ref (L + 21)]), xz 9, xz 9, xz 81, .inr (2, [.int 0, .int 0, .int 0, .int 0, .ref (L + 23)]), xz 9, .inr (2, [.int 0, .int 0, .int 0, .int 0, .ref (L + 25)]), xz 9, .inr (2, [.int 0, .int 0, .int 0, .int 0, .ref (L + 27)]), xz 9, .inr (2, [.int 0, .int 0, .int 0, .int 0, .ref (L + 29)]), xz 9, .inr (2, [.int 0, .int 0, .int 0, .int 0, .ref (L + 31)]), xz 9, .inr (2, [.int 0, .int 0, .int 0, .int 0, .ref (L + 33)]), xz 9, .inr (2, [.int 0, .int 0, .int 0, .int 0, .ref (L + 35)]), xz 9, .inr (5, [.int 0, .int 0, .ref (L + 37), .ref (L + 38), .ref (L + 39)]), xz 9, xz 9, xz 81, .inr (3, [.ref (L + 41), .ref (L + 42)]), .inl (4, 7, .inr (.inr (.inr (.inr (va_up (va_up (va_up (va_up (va_up (va_up (va_up (fun _ => none) 0 (some (L + 46))) 1 (some (L + 48))) 2 (some (L + 50))) 3 (some (L + 52))) 4 (some (L + 54))) 5 (some (L + 56))) 6 (some (L + 58))))))), .inr (5, [.int 0, .int 0, .ref (L + 43), .ref (L + 44), .ref (L + 45)]), xz 9, xz 9, xz 81, .inr (2, [.int 0, .int 0, .int 0, .int 0, .ref (L + 47)]), xz 9, .inr (2, [.int 0, .int 0, .int 0, .int 0, .ref (L + 49)]), xz 9, .inr (2, [.int 0, .int 0, .int 0, .int 0, .ref (L + 51)]), xz 9, .inr (2, [.int 0, .int 0, .int 0, .int 0, .ref (L + 53)]), xz 9, .inr (2, [.int 0, .int 0, .int 0, .int 0, .ref (L + 55)]), xz 9, .inr (2, [.int 0, .int 0, .int 0, .int 0, .ref (L + 57)]), xz 9, .inr (2, [.int 0, .int 0, .int 0, .int 0, .ref (L + 59)]), xz 9, .inr (5, [.int 0, .int 0, .ref (L + 61), .ref (L + 62), .ref (L + 63)]), xz 9, xz 9, xz 81]) _ _
  refine xi_aastore (M' := (P ++ [.inr (8, [.ref (L + 1), .ref (L + 3), .ref (L + 5), .ref (L + 10), .ref (L + 11), .null, .null, .null, .null, .null]), .inr (1, [.ref (L + 2), .int 0]), xzb 400, .inr (1, [.ref (L + 4), .int 0]), xzb 256, .inr (6, [.ref (L + 6), .int 0, .int (-1), .ref (L + 1), .int 0, .int 0, .int 0, .int 0]), .inr (5, [.int 0, .int 0, .ref (L + 7), .ref (L + 8), .ref (L + 9)]), xz 9, xz 9, xz 81, .inl (2, 3, .inr (.inr (.inr (.inr (va_up (va_up (va_up (fun _ => none) 0 (some (L + 12))) 1 (some (L + 36))) 2 (some (L + 60))))))), .inl (3, 3, .inr (.inr (.inr (.inr (va_up (va_up (fun _ => none) 0 (some (L + 16))) 1 (some (L + 40))))))), .inr (5, [.int 0, .int 0, .ref (L + 13), .ref (L + 14), .ref (L + 15)]), xz 9, xz 9, xz 81, .inr (3, [.ref (L + 17), .ref (L + 18)]), .inl (4, 7, .inr (.inr (.inr (.inr (va_up (va_up (va_up (va_up (va_up (va_up (va_up (fun _ => none) 0 (some (L + 22))) 1 (some (L + 24))) 2 (some (L + 26))) 3 (some (L + 28))) 4 (some (L + 30))) 5 (some (L + 32))) 6 (some (L + 34))))))), .inr (5, [.int 0, .int 0, .ref (L + 19), .ref (L + 20), .ref (L + 21)]), xz 9, xz 9, xz 81, .inr (2, [.int 0, .int 0, .int 0, .int 0, .ref (L + 23)]), xz 9, .inr (2, [.int 0, .int 0, .int 0, .int 0, .ref (L + 25)]), xz 9, .inr (2, [.int 0, .int 0, .int 0, .int 0, .ref (L + 27)]), xz 9, .inr (2, [.int 0, .int 0, .int 0, .int 0, .ref (L + 29)]), xz 9, .inr (2, [.int 0, .int 0, .int 0, .int 0, .ref (L + 31)]), xz 9, .inr (2, [.int 0, .int 0, .int 0, .int 0, .ref (L + 33)]), xz 9, .inr (2, [.int 0, .int 0, .int 0, .int 0, .ref (L + 35)]), xz 9, .inr (5, [.int 0, .int 0, .ref (L + 37), .ref (L + 38), .ref (L + 39)]), xz 9, xz 9, xz 81, .inr (3, [.ref (L + 41), .ref (L + 42)]), .inl (4, 7, .inr (.inr (.inr (.inr (va_up (va_up (va_up (va_up (va_up (va_up (va_up (fun _ => none) 0 (some (L + 46))) 1 (some (L + 48))) 2 (some (L + 50))) 3 (some (L + 52))) 4 (some (L + 54))) 5 (some (L + 56))) 6 (some (L + 58))))))), .inr (5, [.int 0, .int 0, .ref (L + 43), .ref (L + 44), .ref (L + 45)]), xz 9, xz 9, xz 81, .inr (2, [.int 0, .int 0, .int 0, .int 0, .ref (L + 47)]), xz 9, .inr (2, [.int 0, .int 0, .int 0, .int 0, .ref (L + 49)]), xz 9, .inr (2, [.int 0, .int 0, .int 0, .int 0, .ref (L + 51)]), xz 9, .inr (2, [.int 0, .int 0, .int 0, .int 0, .ref (L + 53)]), xz 9, .inr (2, [.int 0, .int 0, .int 0, .int 0, .ref (L + 55)]), xz 9, .inr (2, [.int 0, .int 0, .int 0, .int 0, .ref (L + 57)]), xz 9, .inr (2, [.int 0, .int 0, .int 0, .int 0, .ref (L + 59)]), xz 9, .inr (5, [.int 0, .int 0, .ref (L + 61), .ref (L + 62), .ref (L + 63)]), xz 9, xz 9, xz 81])) dX11_init_82 (xpg hP rfl) rfl (xpg hP rfl) rfl (by unfold vp_in; decide) (xps hP) ?_
  refine xi_aload_n 1 dX11_init_83 rfl ?_
  refine xi_get (f := 4) dX11_init_84 (xpg0 hP rfl) rfl ok_8 (by decide) w_246 rfl ?_
  refine xi_iload_n 0 dX11_init_87 rfl ?_
  refine xi_new (i := (L + 64)) (ci := 3) (fs := [.null, .null]) (M' := (P ++ [.inr (8, [.ref (L + 1), .ref (L + 3), .ref (L + 5), .ref (L + 10), .ref (L + 11), .null, .null, .null, .null, .null]), .inr (1, [.ref (L + 2), .int 0]), xzb 400, .inr (1, [.ref (L + 4), .int 0]), xzb 256, .inr (6, [.ref (L + 6), .int 0, .int (-1), .ref (L + 1), .int 0, .int 0, .int 0, .int 0]), .inr (5, [.int 0, .int 0, .ref (L + 7), .ref (L + 8), .ref (L + 9)]), xz 9, xz 9, xz 81, .inl (2, 3, .inr (.inr (.inr (.inr (va_up (va_up (va_up (fun _ => none) 0 (some (L + 12))) 1 (some (L + 36))) 2 (some (L + 60))))))), .inl (3, 3, .inr (.inr (.inr (.inr (va_up (va_up (fun _ => none) 0 (some (L + 16))) 1 (some (L + 40))))))), .inr (5, [.int 0, .int 0, .ref (L + 13), .ref (L + 14), .ref (L + 15)]), xz 9, xz 9, xz 81, .inr (3, [.ref (L + 17), .ref (L + 18)]), .inl (4, 7, .inr (.inr (.inr (.inr (va_up (va_up (va_up (va_up (va_up (va_up (va_up (fun _ => none) 0 (some (L + 22))) 1 (some (L + 24))) 2 (some (L + 26))) 3 (some (L + 28))) 4 (some (L + 30))) 5 (some (L + 32))) 6 (some (L + 34))))))), .inr (5, [.int 0, .int 0, .ref (L + 19), .ref (L + 20), .ref (L + 21)]), xz 9, xz 9, xz 81, .inr (2, [.int 0, .int 0, .int 0, .int 0, .ref (L + 23)]), xz 9, .inr (2, [.int 0, .int 0, .int 0, .int 0, .ref (L + 25)]), xz 9, .inr (2, [.int 0, .int 0, .int 0, .int 0, .ref (L + 27)]), xz 9, .inr (2, [.int 0, .int 0, .int 0, .int 0, .ref (L + 29)]), xz 9, .inr (2, [.int 0, .int 0, .int 0, .int 0, .ref (L + 31)]), xz 9, .inr (2, [.int 0, .int 0, .int 0, .int 0, .ref (L + 33)]), xz 9, .inr (2, [.int 0, .int 0, .int 0, .int 0, .ref (L + 35)]), xz 9, .inr (5, [.int 0, .int 0, .ref (L + 37), .ref (L + 38), .ref (L + 39)]), xz 9, xz 9, xz 81, .inr (3, [.ref (L + 41), .ref (L + 42)]), .inl (4, 7, .inr (.inr (.inr (.inr (va_up (va_up (va_up (va_up (va_up (va_up (va_up (fun _ => none) 0 (some (L + 46))) 1 (some (L + 48))) 2 (some (L + 50))) 3 (some (L + 52))) 4 (some (L + 54))) 5 (some (L + 56))) 6 (some (L + 58))))))), .inr (5, [.int 0, .int 0, .ref (L + 43), .ref (L + 44), .ref (L + 45)]), xz 9, xz 9, xz 81, .inr (2, [.int 0, .int 0, .int 0, .int 0, .ref (L + 47)]), xz 9, .inr (2, [.int 0, .int 0, .int 0, .int 0, .ref (L + 49)]), xz 9, .inr (2, [.int 0, .int 0, .int 0, .int 0, .ref (L + 51)]), xz 9, .inr (2, [.int 0, .int 0, .int 0, .int 0, .ref (L + 53)]), xz 9, .inr (2, [.int 0, .int 0, .int 0, .int 0, .ref (L + 55)]), xz 9, .inr (2, [.int 0, .int 0, .int 0, .int 0, .ref (L + 57)]), xz 9, .inr (2, [.int 0, .int 0, .int 0, .int 0, .ref (L + 59)]), xz 9, .inr (5, [.int 0, .int 0, .ref (L + 61), .ref (L + 62), .ref (L + 63)]), xz 9, xz 9, xz 81, .inr (3, [.null, .null])])) dX11_init_88 rfl ok_3 w_126 w_129 w_6 nf_3 rfl (xpl hP rfl) (List.append_assoc _ _ _) (Nat.le_of_ble_eq_true rfl) (Nat.le_of_ble_eq_true rfl) ?_
  refine xi_dup dX11_init_91 rfl ?_
  refine xi_callI (as := []) (rest := [.ref (L + 64), .int 2, .ref (L + 11)]) dX11_init_92 (ct_X3_init G (P ++ [.inr (8, [.ref (L + 1), .ref (L + 3), .ref (L + 5), .ref (L + 10), .ref (L + 11), .null, .null, .null, .null, .null]), .inr (1, [.ref (L + 2), .int 0]), xzb 400, .inr (1, [.ref (L + 4), .int 0]), xzb 256, .inr (6, [.ref (L + 6), .int 0, .int (-1), .ref (L + 1), .int 0, .int 0, .int 0, .int 0]), .inr (5, [.int 0, .int 0, .ref (L + 7), .ref (L + 8), .ref (L + 9)]), xz 9, xz 9, xz 81, .inl (2, 3, .inr (.inr (.inr (.inr (va_up (va_up (va_up (fun _ => none) 0 (some (L + 12))) 1 (some (L + 36))) 2 (some (L + 60))))))), .inl (3, 3, .inr (.inr (.inr (.inr (va_up (va_up (fun _ => none) 0 (some (L + 16))) 1 (some (L + 40))))))), .inr (5, [.int 0, .int 0, .ref (L + 13), .ref (L + 14), .ref (L + 15)]), xz 9, xz 9, xz 81, .inr (3, [.ref (L + 17), .ref (L + 18)]), .inl (4, 7, .inr (.inr (.inr (.inr (va_up (va_up (va_up (va_up (va_up (va_up (va_up (fun _ => none) 0 (some (L + 22))) 1 (some (L + 24))) 2 (some (L + 26))) 3 (some (L + 28))) 4 (some (L + 30))) 5 (some (L + 32))) 6 (some (L + 34))))))), .inr (5, [.int 0, .int 0, .ref (L + 19), .ref (L + 20), .ref (L + 21)]), xz 9, xz 9, xz 81, .inr (2, [.int 0, .int 0, .int 0, .int 0, .ref (L + 23)]), xz 9, .inr (2, [.int 0, .int 0, .int 0, .int 0, .ref (L + 25)]), xz 9, .inr (2, [.int 0, .int 0, .int 0, .int 0, .ref (L + 27)]), xz 9, .inr (2, [.int 0, .int 0, .int 0, .int 0, .ref (L + 29)]), xz 9, .inr (2, [.int 0, .int 0, .int 0, .int 0, .ref (L + 31)]), xz 9, .inr (2, [.int 0, .int 0, .int 0, .int 0, .ref (L + 33)]), xz 9, .inr (2, [.int 0, .int 0, .int 0, .int 0, .ref (L + 35)]), xz 9, .inr (5, [.int 0, .int 0, .ref (L + 37), .ref (L + 38), .ref (L + 39)]), xz 9, xz 9, xz 81, .inr (3, [.ref (L + 41), .ref (L + 42)]), .inl (4, 7, .inr (.inr (.inr (.inr (va_up (va_up (va_up (va_up (va_up (va_up (va_up (fun _ => none) 0 (some (L + 46))) 1 (some (L + 48))) 2 (some (L + 50))) 3 (some (L + 52))) 4 (some (L + 54))) 5 (some (L + 56))) 6 (some (L + 58))))))), .inr (5, [.int 0, .int 0, .ref (L + 43), .ref (L + 44), .ref (L + 45)]), xz 9, xz 9, xz 81, .inr (2, [.int 0, .int 0, .int 0, .int 0, .ref (L + 47)]), xz 9, .inr (2, [.int 0, .int 0, .int 0, .int 0, .ref (L + 49)]), xz 9, .inr (2, [.int 0, .int 0, .int 0, .int 0, .ref (L + 51)]), xz 9, .inr (2, [.int 0, .int 0, .int 0, .int 0, .ref (L + 53)]), xz 9, .inr (2, [.int 0, .int 0, .int 0, .int 0, .ref (L + 55)]), xz 9, .inr (2, [.int 0, .int 0, .int 0, .int 0, .ref (L + 57)]), xz 9, .inr (2, [.int 0, .int 0, .int 0, .int 0, .ref (L + 59)]), xz 9, .inr (5, [.int 0, .int 0, .ref (L + 61), .ref (L + 62), .ref (L + 63)]), xz 9, xz 9, xz 81]) (L + 64) (xpl hP rfl) _ (List.append_assoc P [.inr (8, [.ref (L + 1), .ref (L + 3), .ref (L + 5), .ref (L + 10), .ref (L + 11), .null, .null, .null, .null, .null]), .inr (1, [.ref (L + 2), .int 0]), xzb 400, .inr (1, [.ref (L + 4), .int 0]), xzb 256, .inr (6, [.ref (L + 6), .int 0, .int (-1), .ref (L + 1), .int 0, .int 0, .int 0, .int 0]), .inr (5, [.int 0, .int 0, .ref (L + 7), .ref (L + 8), .ref (L + 9)]), xz 9, xz 9, xz 81, .inl (2, 3, .inr (.inr (.inr (.inr (va_up (va_up (va_up (fun _ => none) 0 (some (L + 12))) 1 (some (L + 36))) 2 (some (L + 60))))))), .inl (3, 3, .inr (.inr (.inr (.inr (va_up (va_up (fun _ => none) 0 (some (L + 16))) 1 (some (L + 40))))))), .inr (5, [.int 0, .int 0, .ref (L + 13), .ref (L + 14), .ref (L + 15)]), xz 9, xz 9, xz 81, .inr (3, [.ref (L + 17), .ref (L + 18)]), .inl (4, 7, .inr (.inr (.inr (.inr (va_up (va_up (va_up (va_up (va_up (va_up (va_up (fun _ => none) 0 (some (L + 22))) 1 (some (L + 24))) 2 (some (L + 26))) 3 (some (L + 28))) 4 (some (L + 30))) 5 (some (L + 32))) 6 (some (L + 34))))))), .inr (5, [.int 0, .int 0, .ref (L + 19), .ref (L + 20), .ref (L + 21)]), xz 9, xz 9, xz 81, .inr (2, [.int 0, .int 0, .int 0, .int 0, .ref (L + 23)]), xz 9, .inr (2, [.int 0, .int 0, .int 0, .int 0, .ref (L + 25)]), xz 9, .inr (2, [.int 0, .int 0, .int 0, .int 0, .ref (L + 27)]), xz 9, .inr (2, [.int 0, .int 0, .int 0, .int 0, .ref (L + 29)]), xz 9, .inr (2, [.int 0, .int 0, .int 0, .int 0, .ref (L + 31)]), xz 9, .inr (2, [.int 0, .int 0, .int 0, .int 0, .ref (L + 33)]), xz 9, .inr (2, [.int 0, .int 0, .int 0, .int 0, .ref (L + 35)]), xz 9, .inr (5, [.int 0, .int 0, .ref (L + 37), .ref (L + 38), .ref (L + 39)]), xz 9, xz 9, xz 81, .inr (3, [.ref (L + 41), .ref (L + 42)]), .inl (4, 7, .inr (.inr (.inr (.inr (va_up (va_up (va_up (va_up (va_up (va_up (va_up (fun _ => none) 0 (some (L + 46))) 1 (some (L + 48))) 2 (some (L + 50))) 3 (some (L + 52))) 4 (some (L + 54))) 5 (some (L + 56))) 6 (some (L + 58))))))), .inr (5, [.int 0, .int 0, .ref (L + 43), .ref (L + 44), .ref (L + 45)]), xz 9, xz 9, xz 81, .inr (2, [.int 0, .int 0, .int 0, .int 0, .ref (L + 47)]), xz 9, .inr (2, [.int 0, .int 0, .int 0, .int 0, .ref (L + 49)]), xz 9, .inr (2, [.int 0, .int 0, .int 0, .int 0, .ref (L + 51)]), xz 9, .inr (2, [.int 0, .int 0, .int 0, .int 0, .ref (L + 53)]), xz 9, .inr (2, [.int 0, .int 0, .int 0, .int 0, .ref (L + 55)]), xz 9, .inr (2, [.int 0, .int 0, .int 0, .int 0, .ref (L + 57)]), xz 9, .inr (2, [.int 0, .int 0, .int 0, .int 0, .ref (L + 59)]), xz 9, .inr (5, [.int 0, .int 0, .ref (L + 61), .ref (L + 62), .ref (L + 63)]), xz 9, xz 9, xz 81] _).symm ) mkX3_init w_131 w_130 rfl rfl rfl rfl (Nat.le_of_ble_eq_true rfl) (Nat.le_of_ble_eq_true rfl) (Nat.le_of_ble_eq_true rfl) (Nat.le_of_ble_eq_true rfl) (Nat.le_of_ble_eq_true rfl) ?_
  intro v M2 hq
  obtain ⟨rfl, hM2⟩ := hq
  rw [List.append_assoc] at hM2
  subst hM2
  show xW _ _ _ _ 95 _ [.ref (L + 64), .int 2, .ref (L + 11)] (P ++ [.inr (8, [.ref (L + 1), .ref (L + 3), .ref (L + 5), .ref (L + 10), .ref (L + 11), .null, .null, .null, .null, .null]), .inr (1, [.ref (L + 2), .int 0]), xzb 400, .inr (1, [.ref (L + 4), .int 0]), xzb 256, .inr (6, [.ref (L + 6), .int 0, .int (-1), .ref (L + 1), .int 0, .int 0, .int 0, .int 0]), .inr (5, [.int 0, .int 0, .ref (L + 7), .ref (L + 8), .ref (L + 9)]), xz 9, xz 9, xz 81, .inl (2, 3, .inr (.inr (.inr (.inr (va_up (va_up (va_up (fun _ => none) 0 (some (L + 12))) 1 (some (L + 36))) 2 (some (L + 60))))))), .inl (3, 3, .inr (.inr (.inr (.inr (va_up (va_up (fun _ => none) 0 (some (L + 16))) 1 (some (L + 40))))))), .inr (5, [.int 0, .int 0, .ref (L + 13), .ref (L + 14), .ref (L + 15)]), xz 9, xz 9, xz 81, .inr (3, [.ref (L + 17), .ref (L + 18)]), .inl (4, 7, .inr (.inr (.inr (.inr (va_up (va_up (va_up (va_up (va_up (va_up (va_up (fun _ => none) 0 (some (L + 22))) 1 (some (L + 24))) 2 (some (L + 26))) 3 (some (L + 28))) 4 (some (L + 30))) 5 (some (L + 32))) 6 (some (L + 34))))))), .inr (5, [.int 0, .int 0, .ref (L + 19), .ref (L + 20), .ref (L + 21)]), xz 9, xz 9, xz 81, .inr (2, [.int 0, .int 0, .int 0, .int 0, .ref (L + 23)]), xz 9, .inr (2, [.int 0, .int 0, .int 0, .int 0, .ref (L + 25)]), xz 9, .inr (2, [.int 0, .int 0, .int 0, .int 0, .ref (L + 27)]), xz 9, .inr (2, [.int 0, .int 0, .int 0, .int 0, .ref (L + 29)]), xz 9, .inr (2, [.int 0, .int 0, .int 0, .int 0, .ref (L + 31)]), xz 9, .inr (2, [.int 0, .int 0, .int 0, .int 0, .ref (L + 33)]), xz 9, .inr (2, [.int 0, .int 0, .int 0, .int 0, .ref (L + 35)]), xz 9, .inr (5, [.int 0, .int 0, .ref (L + 37), .ref (L + 38), .ref (L + 39)]), xz 9, xz 9, xz 81, .inr (3, [.ref (L + 41), .ref (L + 42)]), .inl (4, 7, .inr (.inr (.inr (.inr (va_up (va_up (va_up (va_up (va_up (va_up (va_up (fun _ => none) 0 (some (L + 46))) 1 (some (L + 48))) 2 (some (L + 50))) 3 (some (L + 52))) 4 (some (L + 54))) 5 (some (L + 56))) 6 (some (L + 58))))))), .inr (5, [.int 0, .int 0, .ref (L + 43), .ref (L + 44), .ref (L + 45)]), xz 9, xz 9, xz 81, .inr (2, [.int 0, .int 0, .int 0, .int 0, .ref (L + 47)]), xz 9, .inr (2, [.int 0, .int 0, .int 0, .int 0, .ref (L + 49)]), xz 9, .inr (2, [.int 0, .int 0, .int 0, .int 0, .ref (L + 51)]), xz 9, .inr (2, [.int 0, .int 0, .int 0, .int 0, .ref (L + 53)]), xz 9, .inr (2, [.int 0, .int 0, .int 0, .int 0, .ref (L + 55)]), xz 9, .inr (2, [.int 0, .int 0, .int 0, .int 0, .ref (L + 57)]), xz 9, .inr (2, [.int 0, .int 0, .int 0, .int 0, .ref (L + 59)]), xz 9, .inr (5, [.int 0, .int 0, .ref (L + 61), .ref (L + 62), .ref (L + 63)]), xz 9, xz 9, xz 81, .inr (3, [.ref (L + 65), .ref (L + 66)]), .inl (4, 7, .inr (.inr (.inr (.inr (va_up (va_up (va_up (va_up (va_up (va_up (va_up (fun _ => none) 0 (some (L + 70))) 1 (some (L + 72))) 2 (some (L + 74))) 3 (some (L + 76))) 4 (some (L + 78))) 5 (some (L + 80))) 6 (some (L + 82))))))), .inr (5, [.int 0, .int 0, .ref (L + 67), .ref (L + 68), .ref (L + 69)]), xz 9, xz 9, xz 81, .inr (2, [.int 0, .int 0, .int 0, .int 0, .ref (L + 71)]), xz 9, .inr (2, [.int 0, .int 0, .int 0, .int 0, .ref (L + 73)]), xz 9, .inr (2, [.int 0, .int 0, .int 0, .int 0, .ref (L + 75)]), xz 9, .inr (2, [.int 0, .int 0, .int 0, .int 0, .ref (L + 77)]), xz 9, .inr (2, [.int 0, .int 0, .int 0, .int 0, .ref (L + 79)]), xz 9, .inr (2, [.int 0, .int 0, .int 0, .int 0, .ref (L + 81)]), xz 9, .inr (2, [.int 0, .int 0, .int 0, .int 0, .ref (L + 83)]), xz 9]) _ _
  refine xi_aastore (M' := (P ++ [.inr (8, [.ref (L + 1), .ref (L + 3), .ref (L + 5), .ref (L + 10), .ref (L + 11), .null, .null, .null, .null, .null]), .inr (1, [.ref (L + 2), .int 0]), xzb 400, .inr (1, [.ref (L + 4), .int 0]), xzb 256, .inr (6, [.ref (L + 6), .int 0, .int (-1), .ref (L + 1), .int 0, .int 0, .int 0, .int 0]), .inr (5, [.int 0, .int 0, .ref (L + 7), .ref (L + 8), .ref (L + 9)]), xz 9, xz 9, xz 81, .inl (2, 3, .inr (.inr (.inr (.inr (va_up (va_up (va_up (fun _ => none) 0 (some (L + 12))) 1 (some (L + 36))) 2 (some (L + 60))))))), .inl (3, 3, .inr (.inr (.inr (.inr (va_up (va_up (va_up (fun _ => none) 0 (some (L + 16))) 1 (some (L + 40))) 2 (some (L + 64))))))), .inr (5, [.int 0, .int 0, .ref (L + 13), .ref (L + 14), .ref (L + 15)]), xz 9, xz 9, xz 81, .inr (3, [.ref (L + 17), .ref (L + 18)]), .inl (4, 7, .inr (.inr (.inr (.inr (va_up (va_up (va_up (va_up (va_up (va_up (va_up (fun _ => none) 0 (some (L + 22))) 1 (some (L + 24))) 2 (some (L + 26))) 3 (some (L + 28))) 4 (some (L + 30))) 5 (some (L + 32))) 6 (some (L + 34))))))), .inr (5, [.int 0, .int 0, .ref (L + 19), .ref (L + 20), .ref (L + 21)]), xz 9, xz 9, xz 81, .inr (2, [.int 0, .int 0, .int 0, .int 0, .ref (L + 23)]), xz 9, .inr (2, [.int 0, .int 0, .int 0, .int 0, .ref (L + 25)]), xz 9, .inr (2, [.int 0, .int 0, .int 0, .int 0, .ref (L + 27)]), xz 9, .inr (2, [.int 0, .int 0, .int 0, .int 0, .ref (L + 29)]), xz 9, .inr (2, [.int 0, .int 0, .int 0, .int 0, .ref (L + 31)]), xz 9, .inr (2, [.int 0, .int 0, .int 0, .int 0, .ref (L + 33)]), xz 9, .inr (2, [.int 0, .int 0, .int 0, .int 0, .ref (L + 35)]), xz 9, .inr (5, [.int 0, .int 0, .ref (L + 37), .ref (L + 38), .ref (L + 39)]), xz 9, xz 9, xz 81, .inr (3, [.ref (L + 41), .ref (L + 42)]), .inl (4, 7, .inr (.inr (.inr (.inr (va_up (va_up (va_up (va_up (va_up (va_up (va_up (fun _ => none) 0 (some (L + 46))) 1 (some (L + 48))) 2 (some (L + 50))) 3 (some (L + 52))) 4 (some (L + 54))) 5 (some (L + 56))) 6 (some (L + 58))))))), .inr (5, [.int 0, .int 0, .ref (L + 43), .ref (L + 44), .ref (L + 45)]), xz 9, xz 9, xz 81, .inr (2, [.int 0, .int 0, .int 0, .int 0, .ref (L + 47)]), xz 9, .inr (2, [.int 0, .int 0, .int 0, .int 0, .ref (L + 49)]), xz 9, .inr (2, [.int 0, .int 0, .int 0, .int 0, .ref (L + 51)]), xz 9, .inr (2, [.int 0, .int 0, .int 0, .int 0, .ref (L + 53)]), xz 9, .inr (2, [.int 0, .int 0, .int 0, .int 0, .ref (L + 55)]), xz 9, .inr (2, [.int 0, .int 0, .int 0, .int 0, .ref (L + 57)]), xz 9, .inr (2, [.int 0, .int 0, .int 0, .int 0, .ref (L + 59)]), xz 9, .inr (5, [.int 0, .int 0, .ref (L + 61), .ref (L + 62), .ref (L + 63)]), xz 9, xz 9, xz 81, .inr (3, [.ref (L + 65), .ref (L + 66)]), .inl (4, 7, .inr (.inr (.inr (.inr (va_up (va_up (va_up (va_up (va_up (va_up (va_up (fun _ => none) 0 (some (L + 70))) 1 (some (L + 72))) 2 (some (L + 74))) 3 (some (L + 76))) 4 (some (L + 78))) 5 (some (L + 80))) 6 (some (L + 82))))))), .inr (5, [.int 0, .int 0, .ref (L + 67), .ref (L + 68), .ref (L + 69)]), xz 9, xz 9, xz 81, .inr (2, [.int 0, .int 0, .int 0, .int 0, .ref (L + 71)]), xz 9, .inr (2, [.int 0, .int 0, .int 0, .int 0, .ref (L + 73)]), xz 9, .inr (2, [.int 0, .int 0, .int 0, .int 0, .ref (L + 75)]), xz 9, .inr (2, [.int 0, .int 0, .int 0, .int 0, .ref (L + 77)]), xz 9, .inr (2, [.int 0, .int 0, .int 0, .int 0, .ref (L + 79)]), xz 9, .inr (2, [.int 0, .int 0, .int 0, .int 0, .ref (L + 81)]), xz 9, .inr (2, [.int 0, .int 0, .int 0, .int 0, .ref (L + 83)]), xz 9])) dX11_init_95 (xpg hP rfl) rfl (xpg hP rfl) rfl (by unfold vp_in; decide) (xps hP) ?_
  refine xi_iinc (v := 3) (lv' := [(1, .int 3), (0, .ref L)]) 0 dX11_init_96 rfl (by decide) (by decide) rfl ?_
  refine xi_goto (tgt := 65) dX11_init_99 (by decide) ?_
  refine xi_iload_n 0 dX11_init_65 rfl ?_
  refine xi_iconst (v := 3) dX11_init_66 (by decide) ?_
  refine xi_icmp_ge_t (tgt := 102) dX11_init_67 (by decide) (by decide) ?_
  refine xi_aload_n 1 dX11_init_102 rfl ?_
  refine xi_new (i := (L + 84)) (ci := 7) (fs := [.null, .null, .null, .null, .null]) (M' := (P ++ [.inr (8, [.ref (L + 1), .ref (L + 3), .ref (L + 5), .ref (L + 10), .ref (L + 11), .null, .null, .null, .null, .null]), .inr (1, [.ref (L + 2), .int 0]), xzb 400, .inr (1, [.ref (L + 4), .int 0]), xzb 256, .inr (6, [.ref (L + 6), .int 0, .int (-1), .ref (L + 1), .int 0, .int 0, .int 0, .int 0]), .inr (5, [.int 0, .int 0, .ref (L + 7), .ref (L + 8), .ref (L + 9)]), xz 9, xz 9, xz 81, .inl (2, 3, .inr (.inr (.inr (.inr (va_up (va_up (va_up (fun _ => none) 0 (some (L + 12))) 1 (some (L + 36))) 2 (some (L + 60))))))), .inl (3, 3, .inr (.inr (.inr (.inr (va_up (va_up (va_up (fun _ => none) 0 (some (L + 16))) 1 (some (L + 40))) 2 (some (L + 64))))))), .inr (5, [.int 0, .int 0, .ref (L + 13), .ref (L + 14), .ref (L + 15)]), xz 9, xz 9, xz 81, .inr (3, [.ref (L + 17), .ref (L + 18)]), .inl (4, 7, .inr (.inr (.inr (.inr (va_up (va_up (va_up (va_up (va_up (va_up (va_up (fun _ => none) 0 (some (L + 22))) 1 (some (L + 24))) 2 (some (L + 26))) 3 (some (L + 28))) 4 (some (L + 30))) 5 (some (L + 32))) 6 (some (L + 34))))))), .inr (5, [.int 0, .int 0, .ref (L + 19), .ref (L + 20), .ref (L + 21)]), xz 9, xz 9, xz 81, .inr (2, [.int 0, .int 0, .int 0, .int 0, .ref (L + 23)]), xz 9, .inr (2, [.int 0, .int 0, .int 0, .int 0, .ref (L + 25)]), xz 9, .inr (2, [.int 0, .int 0, .int 0, .int 0, .ref (L + 27)]), xz 9, .inr (2, [.int 0, .int 0, .int 0, .int 0, .ref (L + 29)]), xz 9, .inr (2, [.int 0, .int 0, .int 0, .int 0, .ref (L + 31)]), xz 9, .inr (2, [.int 0, .int 0, .int 0, .int 0, .ref (L + 33)]), xz 9, .inr (2, [.int 0, .int 0, .int 0, .int 0, .ref (L + 35)]), xz 9, .inr (5, [.int 0, .int 0, .ref (L + 37), .ref (L + 38), .ref (L + 39)]), xz 9, xz 9, xz 81, .inr (3, [.ref (L + 41), .ref (L + 42)]), .inl (4, 7, .inr (.inr (.inr (.inr (va_up (va_up (va_up (va_up (va_up (va_up (va_up (fun _ => none) 0 (some (L + 46))) 1 (some (L + 48))) 2 (some (L + 50))) 3 (some (L + 52))) 4 (some (L + 54))) 5 (some (L + 56))) 6 (some (L + 58))))))), .inr (5, [.int 0, .int 0, .ref (L + 43), .ref (L + 44), .ref (L + 45)]), xz 9, xz 9, xz 81, .inr (2, [.int 0, .int 0, .int 0, .int 0, .ref (L + 47)]), xz 9, .inr (2, [.int 0, .int 0, .int 0, .int 0, .ref (L + 49)]), xz 9, .inr (2, [.int 0, .int 0, .int 0, .int 0, .ref (L + 51)]), xz 9, .inr (2, [.int 0, .int 0, .int 0, .int 0, .ref (L + 53)]), xz 9, .inr (2, [.int 0, .int 0, .int 0, .int 0, .ref (L + 55)]), xz 9, .inr (2, [.int 0, .int 0, .int 0, .int 0, .ref (L + 57)]), xz 9, .inr (2, [.int 0, .int 0, .int 0, .int 0, .ref (L + 59)]), xz 9, .inr (5, [.int 0, .int 0, .ref (L + 61), .ref (L + 62), .ref (L + 63)]), xz 9, xz 9, xz 81, .inr (3, [.ref (L + 65), .ref (L + 66)]), .inl (4, 7, .inr (.inr (.inr (.inr (va_up (va_up (va_up (va_up (va_up (va_up (va_up (fun _ => none) 0 (some (L + 70))) 1 (some (L + 72))) 2 (some (L + 74))) 3 (some (L + 76))) 4 (some (L + 78))) 5 (some (L + 80))) 6 (some (L + 82))))))), .inr (5, [.int 0, .int 0, .ref (L + 67), .ref (L + 68), .ref (L + 69)]), xz 9, xz 9, xz 81, .inr (2, [.int 0, .int 0, .int 0, .int 0, .ref (L + 71)]), xz 9, .inr (2, [.int 0, .int 0, .int 0, .int 0, .ref (L + 73)]), xz 9, .inr (2, [.int 0, .int 0, .int 0, .int 0, .ref (L + 75)]), xz 9, .inr (2, [.int 0, .int 0, .int 0, .int 0, .ref (L + 77)]), xz 9, .inr (2, [.int 0, .int 0, .int 0, .int 0, .ref (L + 79)]), xz 9, .inr (2, [.int 0, .int 0, .int 0, .int 0, .ref (L + 81)]), xz 9, .inr (2, [.int 0, .int 0, .int 0, .int 0, .ref (L + 83)]), xz 9, .inr (7, [.null, .null, .null, .null, .null])])) dX11_init_103 rfl ok_7 w_177 w_178 w_8 nf_7 rfl (xpl hP rfl) (List.append_assoc _ _ _) (Nat.le_of_ble_eq_true rfl) (Nat.le_of_ble_eq_true rfl) ?_
  refine xi_dup dX11_init_106 rfl ?_
  refine xi_callIN (as := []) (rest := [.ref (L + 84), .ref L]) dX11_init_107 (ct_X9_init G (P ++ [.inr (8, [.ref (L + 1), .ref (L + 3), .ref (L + 5), .ref (L + 10), .ref (L + 11), .null, .null, .null, .null, .null]), .inr (1, [.ref (L + 2), .int 0]), xzb 400, .inr (1, [.ref (L + 4), .int 0]), xzb 256, .inr (6, [.ref (L + 6), .int 0, .int (-1), .ref (L + 1), .int 0, .int 0, .int 0, .int 0]), .inr (5, [.int 0, .int 0, .ref (L + 7), .ref (L + 8), .ref (L + 9)]), xz 9, xz 9, xz 81, .inl (2, 3, .inr (.inr (.inr (.inr (va_up (va_up (va_up (fun _ => none) 0 (some (L + 12))) 1 (some (L + 36))) 2 (some (L + 60))))))), .inl (3, 3, .inr (.inr (.inr (.inr (va_up (va_up (va_up (fun _ => none) 0 (some (L + 16))) 1 (some (L + 40))) 2 (some (L + 64))))))), .inr (5, [.int 0, .int 0, .ref (L + 13), .ref (L + 14), .ref (L + 15)]), xz 9, xz 9, xz 81, .inr (3, [.ref (L + 17), .ref (L + 18)]), .inl (4, 7, .inr (.inr (.inr (.inr (va_up (va_up (va_up (va_up (va_up (va_up (va_up (fun _ => none) 0 (some (L + 22))) 1 (some (L + 24))) 2 (some (L + 26))) 3 (some (L + 28))) 4 (some (L + 30))) 5 (some (L + 32))) 6 (some (L + 34))))))), .inr (5, [.int 0, .int 0, .ref (L + 19), .ref (L + 20), .ref (L + 21)]), xz 9, xz 9, xz 81, .inr (2, [.int 0, .int 0, .int 0, .int 0, .ref (L + 23)]), xz 9, .inr (2, [.int 0, .int 0, .int 0, .int 0, .ref (L + 25)]), xz 9, .inr (2, [.int 0, .int 0, .int 0, .int 0, .ref (L + 27)]), xz 9, .inr (2, [.int 0, .int 0, .int 0, .int 0, .ref (L + 29)]), xz 9, .inr (2, [.int 0, .int 0, .int 0, .int 0, .ref (L + 31)]), xz 9, .inr (2, [.int 0, .int 0, .int 0, .int 0, .ref (L + 33)]), xz 9, .inr (2, [.int 0, .int 0, .int 0, .int 0, .ref (L + 35)]), xz 9, .inr (5, [.int 0, .int 0, .ref (L + 37), .ref (L + 38), .ref (L + 39)]), xz 9, xz 9, xz 81, .inr (3, [.ref (L + 41), .ref (L + 42)]), .inl (4, 7, .inr (.inr (.inr (.inr (va_up (va_up (va_up (va_up (va_up (va_up (va_up (fun _ => none) 0 (some (L + 46))) 1 (some (L + 48))) 2 (some (L + 50))) 3 (some (L + 52))) 4 (some (L + 54))) 5 (some (L + 56))) 6 (some (L + 58))))))), .inr (5, [.int 0, .int 0, .ref (L + 43), .ref (L + 44), .ref (L + 45)]), xz 9, xz 9, xz 81, .inr (2, [.int 0, .int 0, .int 0, .int 0, .ref (L + 47)]), xz 9, .inr (2, [.int 0, .int 0, .int 0, .int 0, .ref (L + 49)]), xz 9, .inr (2, [.int 0, .int 0, .int 0, .int 0, .ref (L + 51)]), xz 9, .inr (2, [.int 0, .int 0, .int 0, .int 0, .ref (L + 53)]), xz 9, .inr (2, [.int 0, .int 0, .int 0, .int 0, .ref (L + 55)]), xz 9, .inr (2, [.int 0, .int 0, .int 0, .int 0, .ref (L + 57)]), xz 9, .inr (2, [.int 0, .int 0, .int 0, .int 0, .ref (L + 59)]), xz 9, .inr (5, [.int 0, .int 0, .ref (L + 61), .ref (L + 62), .ref (L + 63)]), xz 9, xz 9, xz 81, .inr (3, [.ref (L + 65), .ref (L + 66)]), .inl (4, 7, .inr (.inr (.inr (.inr (va_up (va_up (va_up (va_up (va_up (va_up (va_up (fun _ => none) 0 (some (L + 70))) 1 (some (L + 72))) 2 (some (L + 74))) 3 (some (L + 76))) 4 (some (L + 78))) 5 (some (L + 80))) 6 (some (L + 82))))))), .inr (5, [.int 0, .int 0, .ref (L + 67), .ref (L + 68), .ref (L + 69)]), xz 9, xz 9, xz 81, .inr (2, [.int 0, .int 0, .int 0, .int 0, .ref (L + 71)]), xz 9, .inr (2, [.int 0, .int 0, .int 0, .int 0, .ref (L + 73)]), xz 9, .inr (2, [.int 0, .int 0, .int 0, .int 0, .ref (L + 75)]), xz 9, .inr (2, [.int 0, .int 0, .int 0, .int 0, .ref (L + 77)]), xz 9, .inr (2, [.int 0, .int 0, .int 0, .int 0, .ref (L + 79)]), xz 9, .inr (2, [.int 0, .int 0, .int 0, .int 0, .ref (L + 81)]), xz 9, .inr (2, [.int 0, .int 0, .int 0, .int 0, .ref (L + 83)]), xz 9]) (L + 84) (xpl hP rfl) _ (List.append_assoc P [.inr (8, [.ref (L + 1), .ref (L + 3), .ref (L + 5), .ref (L + 10), .ref (L + 11), .null, .null, .null, .null, .null]), .inr (1, [.ref (L + 2), .int 0]), xzb 400, .inr (1, [.ref (L + 4), .int 0]), xzb 256, .inr (6, [.ref (L + 6), .int 0, .int (-1), .ref (L + 1), .int 0, .int 0, .int 0, .int 0]), .inr (5, [.int 0, .int 0, .ref (L + 7), .ref (L + 8), .ref (L + 9)]), xz 9, xz 9, xz 81, .inl (2, 3, .inr (.inr (.inr (.inr (va_up (va_up (va_up (fun _ => none) 0 (some (L + 12))) 1 (some (L + 36))) 2 (some (L + 60))))))), .inl (3, 3, .inr (.inr (.inr (.inr (va_up (va_up (va_up (fun _ => none) 0 (some (L + 16))) 1 (some (L + 40))) 2 (some (L + 64))))))), .inr (5, [.int 0, .int 0, .ref (L + 13), .ref (L + 14), .ref (L + 15)]), xz 9, xz 9, xz 81, .inr (3, [.ref (L + 17), .ref (L + 18)]), .inl (4, 7, .inr (.inr (.inr (.inr (va_up (va_up (va_up (va_up (va_up (va_up (va_up (fun _ => none) 0 (some (L + 22))) 1 (some (L + 24))) 2 (some (L + 26))) 3 (some (L + 28))) 4 (some (L + 30))) 5 (some (L + 32))) 6 (some (L + 34))))))), .inr (5, [.int 0, .int 0, .ref (L + 19), .ref (L + 20), .ref (L + 21)]), xz 9, xz 9, xz 81, .inr (2, [.int 0, .int 0, .int 0, .int 0, .ref (L + 23)]), xz 9, .inr (2, [.int 0, .int 0, .int 0, .int 0, .ref (L + 25)]), xz 9, .inr (2, [.int 0, .int 0, .int 0, .int 0, .ref (L + 27)]), xz 9, .inr (2, [.int 0, .int 0, .int 0, .int 0, .ref (L + 29)]), xz 9, .inr (2, [.int 0, .int 0, .int 0, .int 0, .ref (L + 31)]), xz 9, .inr (2, [.int 0, .int 0, .int 0, .int 0, .ref (L + 33)]), xz 9, .inr (2, [.int 0, .int 0, .int 0, .int 0, .ref (L + 35)]), xz 9, .inr (5, [.int 0, .int 0, .ref (L + 37), .ref (L + 38), .ref (L + 39)]), xz 9, xz 9, xz 81, .inr (3, [.ref (L + 41), .ref (L + 42)]), .inl (4, 7, .inr (.inr (.inr (.inr (va_up (va_up (va_up (va_up (va_up (va_up (va_up (fun _ => none) 0 (some (L + 46))) 1 (some (L + 48))) 2 (some (L + 50))) 3 (some (L + 52))) 4 (some (L + 54))) 5 (some (L + 56))) 6 (some (L + 58))))))), .inr (5, [.int 0, .int 0, .ref (L + 43), .ref (L + 44), .ref (L + 45)]), xz 9, xz 9, xz 81, .inr (2, [.int 0, .int 0, .int 0, .int 0, .ref (L + 47)]), xz 9, .inr (2, [.int 0, .int 0, .int 0, .int 0, .ref (L + 49)]), xz 9, .inr (2, [.int 0, .int 0, .int 0, .int 0, .ref (L + 51)]), xz 9, .inr (2, [.int 0, .int 0, .int 0, .int 0, .ref (L + 53)]), xz 9, .inr (2, [.int 0, .int 0, .int 0, .int 0, .ref (L + 55)]), xz 9, .inr (2, [.int 0, .int 0, .int 0, .int 0, .ref (L + 57)]), xz 9, .inr (2, [.int 0, .int 0, .int 0, .int 0, .ref (L + 59)]), xz 9, .inr (5, [.int 0, .int 0, .ref (L + 61), .ref (L + 62), .ref (L + 63)]), xz 9, xz 9, xz 81, .inr (3, [.ref (L + 65), .ref (L + 66)]), .inl (4, 7, .inr (.inr (.inr (.inr (va_up (va_up (va_up (va_up (va_up (va_up (va_up (fun _ => none) 0 (some (L + 70))) 1 (some (L + 72))) 2 (some (L + 74))) 3 (some (L + 76))) 4 (some (L + 78))) 5 (some (L + 80))) 6 (some (L + 82))))))), .inr (5, [.int 0, .int 0, .ref (L + 67), .ref (L + 68), .ref (L + 69)]), xz 9, xz 9, xz 81, .inr (2, [.int 0, .int 0, .int 0, .int 0, .ref (L + 71)]), xz 9, .inr (2, [.int 0, .int 0, .int 0, .int 0, .ref (L + 73)]), xz 9, .inr (2, [.int 0, .int 0, .int 0, .int 0, .ref (L + 75)]), xz 9, .inr (2, [.int 0, .int 0, .int 0, .int 0, .ref (L + 77)]), xz 9, .inr (2, [.int 0, .int 0, .int 0, .int 0, .ref (L + 79)]), xz 9, .inr (2, [.int 0, .int 0, .int 0, .int 0, .ref (L + 81)]), xz 9, .inr (2, [.int 0, .int 0, .int 0, .int 0, .ref (L + 83)]), xz 9] _).symm ) mkX9_init w_180 wn_179 rfl rfl rfl rfl (Nat.le_of_ble_eq_true rfl) (Nat.le_of_ble_eq_true rfl) (Nat.le_of_ble_eq_true rfl) (Nat.le_of_ble_eq_true rfl) (Nat.le_of_ble_eq_true rfl) ?_
  intro v M2 hq
  obtain ⟨rfl, hM2⟩ := hq
  rw [List.append_assoc] at hM2
  subst hM2
  show xW _ _ _ _ 110 _ [.ref (L + 84), .ref L] (P ++ [.inr (8, [.ref (L + 1), .ref (L + 3), .ref (L + 5), .ref (L + 10), .ref (L + 11), .null, .null, .null, .null, .null]), .inr (1, [.ref (L + 2), .int 0]), xzb 400, .inr (1, [.ref (L + 4), .int 0]), xzb 256, .inr (6, [.ref (L + 6), .int 0, .int (-1), .ref (L + 1), .int 0, .int 0, .int 0, .int 0]), .inr (5, [.int 0, .int 0, .ref (L + 7), .ref (L + 8), .ref (L + 9)]), xz 9, xz 9, xz 81, .inl (2, 3, .inr (.inr (.inr (.inr (va_up (va_up (va_up (fun _ => none) 0 (some (L + 12))) 1 (some (L + 36))) 2 (some (L + 60))))))), .inl (3, 3, .inr (.inr (.inr (.inr (va_up (va_up (va_up (fun _ => none) 0 (some (L + 16))) 1 (some (L + 40))) 2 (some (L + 64))))))), .inr (5, [.int 0, .int 0, .ref (L + 13), .ref (L + 14), .ref (L + 15)]), xz 9, xz 9, xz 81, .inr (3, [.ref (L + 17), .ref (L + 18)]), .inl (4, 7, .inr (.inr (.inr (.inr (va_up (va_up (va_up (va_up (va_up (va_up (va_up (fun _ => none) 0 (some (L + 22))) 1 (some (L + 24))) 2 (some (L + 26))) 3 (some (L + 28))) 4 (some (L + 30))) 5 (some (L + 32))) 6 (some (L + 34))))))), .inr (5, [.int 0, .int 0, .ref (L + 19), .ref (L + 20), .ref (L + 21)]), xz 9, xz 9, xz 81, .inr (2, [.int 0, .int 0, .int 0, .int 0, .ref (L + 23)]), xz 9, .inr (2, [.int 0, .int 0, .int 0, .int 0, .ref (L + 25)]), xz 9, .inr (2, [.int 0, .int 0, .int 0, .int 0, .ref (L + 27)]), xz 9, .inr (2, [.int 0, .int 0, .int 0, .int 0, .ref (L + 29)]), xz 9, .inr (2, [.int 0, .int 0, .int 0, .int 0, .ref (L + 31)]), xz 9, .inr (2, [.int 0, .int 0, .int 0, .int 0, .ref (L + 33)]), xz 9, .inr (2, [.int 0, .int 0, .int 0, .int 0, .ref (L + 35)]), xz 9, .inr (5, [.int 0, .int 0, .ref (L + 37), .ref (L + 38), .ref (L + 39)]), xz 9, xz 9, xz 81, .inr (3, [.ref (L + 41), .ref (L + 42)]), .inl (4, 7, .inr (.inr (.inr (.inr (va_up (va_up (va_up (va_up (va_up (va_up (va_up (fun _ => none) 0 (some (L + 46))) 1 (some (L + 48))) 2 (some (L + 50))) 3 (some (L + 52))) 4 (some (L + 54))) 5 (some (L + 56))) 6 (some (L + 58))))))), .inr (5, [.int 0, .int 0, .ref (L + 43), .ref (L + 44), .ref (L + 45)]), xz 9, xz 9, xz 81, .inr (2, [.int 0, .int 0, .int 0, .int 0, .ref (L + 47)]), xz 9, .inr (2, [.int 0, .int 0, .int 0, .int 0, .ref (L + 49)]), xz 9, .inr (2, [.int 0, .int 0, .int 0, .int 0, .ref (L + 51)]), xz 9, .inr (2, [.int 0, .int 0, .int 0, .int 0, .ref (L + 53)]), xz 9, .inr (2, [.int 0, .int 0, .int 0, .int 0, .ref (L + 55)]), xz 9, .inr (2, [.int 0, .int 0, .int 0, .int 0, .ref (L + 57)]), xz 9, .inr (2, [.int 0, .int 0, .int 0, .int 0, .ref (L + 59)]), xz 9, .inr (5, [.int 0, .int 0, .ref (L + 61), .ref (L + 62), .ref (L + 63)]), xz 9, xz 9, xz 81, .inr (3, [.ref (L + 65), .ref (L + 66)]), .inl (4, 7, .inr (.inr (.inr (.inr (va_up (va_up (va_up (va_up (va_up (va_up (va_up (fun _ => none) 0 (some (L + 70))) 1 (some (L + 72))) 2 (some (L + 74))) 3 (some (L + 76))) 4 (some (L + 78))) 5 (some (L + 80))) 6 (some (L + 82))))))), .inr (5, [.int 0, .int 0, .ref (L + 67), .ref (L + 68), .ref (L + 69)]), xz 9, xz 9, xz 81, .inr (2, [.int 0, .int 0, .int 0, .int 0, .ref (L + 71)]), xz 9, .inr (2, [.int 0, .int 0, .int 0, .int 0, .ref (L + 73)]), xz 9, .inr (2, [.int 0, .int 0, .int 0, .int 0, .ref (L + 75)]), xz 9, .inr (2, [.int 0, .int 0, .int 0, .int 0, .ref (L + 77)]), xz 9, .inr (2, [.int 0, .int 0, .int 0, .int 0, .ref (L + 79)]), xz 9, .inr (2, [.int 0, .int 0, .int 0, .int 0, .ref (L + 81)]), xz 9, .inr (2, [.int 0, .int 0, .int 0, .int 0, .ref (L + 83)]), xz 9, .inr (7, [.ref (L + 85), .ref (L + 86), .ref (L + 87), .ref (L + 88), .ref (L + 89)]), xz 4608, xz 4608, xz 4608, xz 512, xz 512]) _ _
  refine xi_putF (f := 5) (ty := (.object "ThinRow$SetSearch")) (M' := (P ++ [.inr (8, [.ref (L + 1), .ref (L + 3), .ref (L + 5), .ref (L + 10), .ref (L + 11), .ref (L + 84), .null, .null, .null, .null]), .inr (1, [.ref (L + 2), .int 0]), xzb 400, .inr (1, [.ref (L + 4), .int 0]), xzb 256, .inr (6, [.ref (L + 6), .int 0, .int (-1), .ref (L + 1), .int 0, .int 0, .int 0, .int 0]), .inr (5, [.int 0, .int 0, .ref (L + 7), .ref (L + 8), .ref (L + 9)]), xz 9, xz 9, xz 81, .inl (2, 3, .inr (.inr (.inr (.inr (va_up (va_up (va_up (fun _ => none) 0 (some (L + 12))) 1 (some (L + 36))) 2 (some (L + 60))))))), .inl (3, 3, .inr (.inr (.inr (.inr (va_up (va_up (va_up (fun _ => none) 0 (some (L + 16))) 1 (some (L + 40))) 2 (some (L + 64))))))), .inr (5, [.int 0, .int 0, .ref (L + 13), .ref (L + 14), .ref (L + 15)]), xz 9, xz 9, xz 81, .inr (3, [.ref (L + 17), .ref (L + 18)]), .inl (4, 7, .inr (.inr (.inr (.inr (va_up (va_up (va_up (va_up (va_up (va_up (va_up (fun _ => none) 0 (some (L + 22))) 1 (some (L + 24))) 2 (some (L + 26))) 3 (some (L + 28))) 4 (some (L + 30))) 5 (some (L + 32))) 6 (some (L + 34))))))), .inr (5, [.int 0, .int 0, .ref (L + 19), .ref (L + 20), .ref (L + 21)]), xz 9, xz 9, xz 81, .inr (2, [.int 0, .int 0, .int 0, .int 0, .ref (L + 23)]), xz 9, .inr (2, [.int 0, .int 0, .int 0, .int 0, .ref (L + 25)]), xz 9, .inr (2, [.int 0, .int 0, .int 0, .int 0, .ref (L + 27)]), xz 9, .inr (2, [.int 0, .int 0, .int 0, .int 0, .ref (L + 29)]), xz 9, .inr (2, [.int 0, .int 0, .int 0, .int 0, .ref (L + 31)]), xz 9, .inr (2, [.int 0, .int 0, .int 0, .int 0, .ref (L + 33)]), xz 9, .inr (2, [.int 0, .int 0, .int 0, .int 0, .ref (L + 35)]), xz 9, .inr (5, [.int 0, .int 0, .ref (L + 37), .ref (L + 38), .ref (L + 39)]), xz 9, xz 9, xz 81, .inr (3, [.ref (L + 41), .ref (L + 42)]), .inl (4, 7, .inr (.inr (.inr (.inr (va_up (va_up (va_up (va_up (va_up (va_up (va_up (fun _ => none) 0 (some (L + 46))) 1 (some (L + 48))) 2 (some (L + 50))) 3 (some (L + 52))) 4 (some (L + 54))) 5 (some (L + 56))) 6 (some (L + 58))))))), .inr (5, [.int 0, .int 0, .ref (L + 43), .ref (L + 44), .ref (L + 45)]), xz 9, xz 9, xz 81, .inr (2, [.int 0, .int 0, .int 0, .int 0, .ref (L + 47)]), xz 9, .inr (2, [.int 0, .int 0, .int 0, .int 0, .ref (L + 49)]), xz 9, .inr (2, [.int 0, .int 0, .int 0, .int 0, .ref (L + 51)]), xz 9, .inr (2, [.int 0, .int 0, .int 0, .int 0, .ref (L + 53)]), xz 9, .inr (2, [.int 0, .int 0, .int 0, .int 0, .ref (L + 55)]), xz 9, .inr (2, [.int 0, .int 0, .int 0, .int 0, .ref (L + 57)]), xz 9, .inr (2, [.int 0, .int 0, .int 0, .int 0, .ref (L + 59)]), xz 9, .inr (5, [.int 0, .int 0, .ref (L + 61), .ref (L + 62), .ref (L + 63)]), xz 9, xz 9, xz 81, .inr (3, [.ref (L + 65), .ref (L + 66)]), .inl (4, 7, .inr (.inr (.inr (.inr (va_up (va_up (va_up (va_up (va_up (va_up (va_up (fun _ => none) 0 (some (L + 70))) 1 (some (L + 72))) 2 (some (L + 74))) 3 (some (L + 76))) 4 (some (L + 78))) 5 (some (L + 80))) 6 (some (L + 82))))))), .inr (5, [.int 0, .int 0, .ref (L + 67), .ref (L + 68), .ref (L + 69)]), xz 9, xz 9, xz 81, .inr (2, [.int 0, .int 0, .int 0, .int 0, .ref (L + 71)]), xz 9, .inr (2, [.int 0, .int 0, .int 0, .int 0, .ref (L + 73)]), xz 9, .inr (2, [.int 0, .int 0, .int 0, .int 0, .ref (L + 75)]), xz 9, .inr (2, [.int 0, .int 0, .int 0, .int 0, .ref (L + 77)]), xz 9, .inr (2, [.int 0, .int 0, .int 0, .int 0, .ref (L + 79)]), xz 9, .inr (2, [.int 0, .int 0, .int 0, .int 0, .ref (L + 81)]), xz 9, .inr (2, [.int 0, .int 0, .int 0, .int 0, .ref (L + 83)]), xz 9, .inr (7, [.ref (L + 85), .ref (L + 86), .ref (L + 87), .ref (L + 88), .ref (L + 89)]), xz 4608, xz 4608, xz 4608, xz 512, xz 512])) dX11_init_110 (xpg0 hP rfl) rfl ok_8 (by decide) w_247 rfl rfl rfl pf_LThinRow_SetSearch_ (fun _ h => by cases h) rfl rfl (Nat.le_of_ble_eq_true rfl) (xps0 hP) ?_
  refine xi_aload_n 1 dX11_init_113 rfl ?_
  refine xi_new (i := (L + 90)) (ci := 0) (fs := [.null, .null, .null, .null]) (M' := (P ++ [.inr (8, [.ref (L + 1), .ref (L + 3), .ref (L + 5), .ref (L + 10), .ref (L + 11), .ref (L + 84), .null, .null, .null, .null]), .inr (1, [.ref (L + 2), .int 0]), xzb 400, .inr (1, [.ref (L + 4), .int 0]), xzb 256, .inr (6, [.ref (L + 6), .int 0, .int (-1), .ref (L + 1), .int 0, .int 0, .int 0, .int 0]), .inr (5, [.int 0, .int 0, .ref (L + 7), .ref (L + 8), .ref (L + 9)]), xz 9, xz 9, xz 81, .inl (2, 3, .inr (.inr (.inr (.inr (va_up (va_up (va_up (fun _ => none) 0 (some (L + 12))) 1 (some (L + 36))) 2 (some (L + 60))))))), .inl (3, 3, .inr (.inr (.inr (.inr (va_up (va_up (va_up (fun _ => none) 0 (some (L + 16))) 1 (some (L + 40))) 2 (some (L + 64))))))), .inr (5, [.int 0, .int 0, .ref (L + 13), .ref (L + 14), .ref (L + 15)]), xz 9, xz 9, xz 81, .inr (3, [.ref (L + 17), .ref (L + 18)]), .inl (4, 7, .inr (.inr (.inr (.inr (va_up (va_up (va_up (va_up (va_up (va_up (va_up (fun _ => none) 0 (some (L + 22))) 1 (some (L + 24))) 2 (some (L + 26))) 3 (some (L + 28))) 4 (some (L + 30))) 5 (some (L + 32))) 6 (some (L + 34))))))), .inr (5, [.int 0, .int 0, .ref (L + 19), .ref (L + 20), .ref (L + 21)]), xz 9, xz 9, xz 81, .inr (2, [.int 0, .int 0, .int 0, .int 0, .ref (L + 23)]), xz 9, .inr (2, [.int 0, .int 0, .int 0, .int 0, .ref (L + 25)]), xz 9, .inr (2, [.int 0, .int 0, .int 0, .int 0, .ref (L + 27)]), xz 9, .inr (2, [.int 0, .int 0, .int 0, .int 0, .ref (L + 29)]), xz 9, .inr (2, [.int 0, .int 0, .int 0, .int 0, .ref (L + 31)]), xz 9, .inr (2, [.int 0, .int 0, .int 0, .int 0, .ref (L + 33)]), xz 9, .inr (2, [.int 0, .int 0, .int 0, .int 0, .ref (L + 35)]), xz 9, .inr (5, [.int 0, .int 0, .ref (L + 37), .ref (L + 38), .ref (L + 39)]), xz 9, xz 9, xz 81, .inr (3, [.ref (L + 41), .ref (L + 42)]), .inl (4, 7, .inr (.inr (.inr (.inr (va_up (va_up (va_up (va_up (va_up (va_up (va_up (fun _ => none) 0 (some (L + 46))) 1 (some (L + 48))) 2 (some (L + 50))) 3 (some (L + 52))) 4 (some (L + 54))) 5 (some (L + 56))) 6 (some (L + 58))))))), .inr (5, [.int 0, .int 0, .ref (L + 43), .ref (L + 44), .ref (L + 45)]), xz 9, xz 9, xz 81, .inr (2, [.int 0, .int 0, .int 0, .int 0, .ref (L + 47)]), xz 9, .inr (2, [.int 0, .int 0, .int 0, .int 0, .ref (L + 49)]), xz 9, .inr (2, [.int 0, .int 0, .int 0, .int 0, .ref (L + 51)]), xz 9, .inr (2, [.int 0, .int 0, .int 0, .int 0, .ref (L + 53)]), xz 9, .inr (2, [.int 0, .int 0, .int 0, .int 0, .ref (L + 55)]), xz 9, .inr (2, [.int 0, .int 0, .int 0, .int 0, .ref (L + 57)]), xz 9, .inr (2, [.int 0, .int 0, .int 0, .int 0, .ref (L + 59)]), xz 9, .inr (5, [.int 0, .int 0, .ref (L + 61), .ref (L + 62), .ref (L + 63)]), xz 9, xz 9, xz 81, .inr (3, [.ref (L + 65), .ref (L + 66)]), .inl (4, 7, .inr (.inr (.inr (.inr (va_up (va_up (va_up (va_up (va_up (va_up (va_up (fun _ => none) 0 (some (L + 70))) 1 (some (L + 72))) 2 (some (L + 74))) 3 (some (L + 76))) 4 (some (L + 78))) 5 (some (L + 80))) 6 (some (L + 82))))))), .inr (5, [.int 0, .int 0, .ref (L + 67), .ref (L + 68), .ref (L + 69)]), xz 9, xz 9, xz 81, .inr (2, [.int 0, .int 0, .int 0, .int 0, .ref (L + 71)]), xz 9, .inr (2, [.int 0, .int 0, .int 0, .int 0, .ref (L + 73)]), xz 9, .inr (2, [.int 0, .int 0, .int 0, .int 0, .ref (L + 75)]), xz 9, .inr (2, [.int 0, .int 0, .int 0, .int 0, .ref (L + 77)]), xz 9, .inr (2, [.int 0, .int 0, .int 0, .int 0, .ref (L + 79)]), xz 9, .inr (2, [.int 0, .int 0, .int 0, .int 0, .ref (L + 81)]), xz 9, .inr (2, [.int 0, .int 0, .int 0, .int 0, .ref (L + 83)]), xz 9, .inr (7, [.ref (L + 85), .ref (L + 86), .ref (L + 87), .ref (L + 88), .ref (L + 89)]), xz 4608, xz 4608, xz 4608, xz 512, xz 512, .inr (0, [.null, .null, .null, .null])])) dX11_init_114 rfl ok_0 w_199 w_200 w_9 nf_0 rfl (xpl hP rfl) (List.append_assoc _ _ _) (Nat.le_of_ble_eq_true rfl) (Nat.le_of_ble_eq_true rfl) ?_
  refine xi_dup dX11_init_117 rfl ?_
  refine xi_callIN (as := []) (rest := [.ref (L + 90), .ref L]) dX11_init_118 (ct_X0_init G (P ++ [.inr (8, [.ref (L + 1), .ref (L + 3), .ref (L + 5), .ref (L + 10), .ref (L + 11), .ref (L + 84), .null, .null, .null, .null]), .inr (1, [.ref (L + 2), .int 0]), xzb 400, .inr (1, [.ref (L + 4), .int 0]), xzb 256, .inr (6, [.ref (L + 6), .int 0, .int (-1), .ref (L + 1), .int 0, .int 0, .int 0, .int 0]), .inr (5, [.int 0, .int 0, .ref (L + 7), .ref (L + 8), .ref (L + 9)]), xz 9, xz 9, xz 81, .inl (2, 3, .inr (.inr (.inr (.inr (va_up (va_up (va_up (fun _ => none) 0 (some (L + 12))) 1 (some (L + 36))) 2 (some (L + 60))))))), .inl (3, 3, .inr (.inr (.inr (.inr (va_up (va_up (va_up (fun _ => none) 0 (some (L + 16))) 1 (some (L + 40))) 2 (some (L + 64))))))), .inr (5, [.int 0, .int 0, .ref (L + 13), .ref (L + 14), .ref (L + 15)]), xz 9, xz 9, xz 81, .inr (3, [.ref (L + 17), .ref (L + 18)]), .inl (4, 7, .inr (.inr (.inr (.inr (va_up (va_up (va_up (va_up (va_up (va_up (va_up (fun _ => none) 0 (some (L + 22))) 1 (some (L + 24))) 2 (some (L + 26))) 3 (some (L + 28))) 4 (some (L + 30))) 5 (some (L + 32))) 6 (some (L + 34))))))), .inr (5, [.int 0, .int 0, .ref (L + 19), .ref (L + 20), .ref (L + 21)]), xz 9, xz 9, xz 81, .inr (2, [.int 0, .int 0, .int 0, .int 0, .ref (L + 23)]), xz 9, .inr (2, [.int 0, .int 0, .int 0, .int 0, .ref (L + 25)]), xz 9, .inr (2, [.int 0, .int 0, .int 0, .int 0, .ref (L + 27)]), xz 9, .inr (2, [.int 0, .int 0, .int 0, .int 0, .ref (L + 29)]), xz 9, .inr (2, [.int 0, .int 0, .int 0, .int 0, .ref (L + 31)]), xz 9, .inr (2, [.int 0, .int 0, .int 0, .int 0, .ref (L + 33)]), xz 9, .inr (2, [.int 0, .int 0, .int 0, .int 0, .ref (L + 35)]), xz 9, .inr (5, [.int 0, .int 0, .ref (L + 37), .ref (L + 38), .ref (L + 39)]), xz 9, xz 9, xz 81, .inr (3, [.ref (L + 41), .ref (L + 42)]), .inl (4, 7, .inr (.inr (.inr (.inr (va_up (va_up (va_up (va_up (va_up (va_up (va_up (fun _ => none) 0 (some (L + 46))) 1 (some (L + 48))) 2 (some (L + 50))) 3 (some (L + 52))) 4 (some (L + 54))) 5 (some (L + 56))) 6 (some (L + 58))))))), .inr (5, [.int 0, .int 0, .ref (L + 43), .ref (L + 44), .ref (L + 45)]), xz 9, xz 9, xz 81, .inr (2, [.int 0, .int 0, .int 0, .int 0, .ref (L + 47)]), xz 9, .inr (2, [.int 0, .int 0, .int 0, .int 0, .ref (L + 49)]), xz 9, .inr (2, [.int 0, .int 0, .int 0, .int 0, .ref (L + 51)]), xz 9, .inr (2, [.int 0, .int 0, .int 0, .int 0, .ref (L + 53)]), xz 9, .inr (2, [.int 0, .int 0, .int 0, .int 0, .ref (L + 55)]), xz 9, .inr (2, [.int 0, .int 0, .int 0, .int 0, .ref (L + 57)]), xz 9, .inr (2, [.int 0, .int 0, .int 0, .int 0, .ref (L + 59)]), xz 9, .inr (5, [.int 0, .int 0, .ref (L + 61), .ref (L + 62), .ref (L + 63)]), xz 9, xz 9, xz 81, .inr (3, [.ref (L + 65), .ref (L + 66)]), .inl (4, 7, .inr (.inr (.inr (.inr (va_up (va_up (va_up (va_up (va_up (va_up (va_up (fun _ => none) 0 (some (L + 70))) 1 (some (L + 72))) 2 (some (L + 74))) 3 (some (L + 76))) 4 (some (L + 78))) 5 (some (L + 80))) 6 (some (L + 82))))))), .inr (5, [.int 0, .int 0, .ref (L + 67), .ref (L + 68), .ref (L + 69)]), xz 9, xz 9, xz 81, .inr (2, [.int 0, .int 0, .int 0, .int 0, .ref (L + 71)]), xz 9, .inr (2, [.int 0, .int 0, .int 0, .int 0, .ref (L + 73)]), xz 9, .inr (2, [.int 0, .int 0, .int 0, .int 0, .ref (L + 75)]), xz 9, .inr (2, [.int 0, .int 0, .int 0, .int 0, .ref (L + 77)]), xz 9, .inr (2, [.int 0, .int 0, .int 0, .int 0, .ref (L + 79)]), xz 9, .inr (2, [.int 0, .int 0, .int 0, .int 0, .ref (L + 81)]), xz 9, .inr (2, [.int 0, .int 0, .int 0, .int 0, .ref (L + 83)]), xz 9, .inr (7, [.ref (L + 85), .ref (L + 86), .ref (L + 87), .ref (L + 88), .ref (L + 89)]), xz 4608, xz 4608, xz 4608, xz 512, xz 512]) (L + 90) (xpl hP rfl) _ (List.append_assoc P [.inr (8, [.ref (L + 1), .ref (L + 3), .ref (L + 5), .ref (L + 10), .ref (L + 11), .ref (L + 84), .null, .null, .null, .null]), .inr (1, [.ref (L + 2), .int 0]), xzb 400, .inr (1, [.ref (L + 4), .int 0]), xzb 256, .inr (6, [.ref (L + 6), .int 0, .int (-1), .ref (L + 1), .int 0, .int 0, .int 0, .int 0]), .inr (5, [.int 0, .int 0, .ref (L + 7), .ref (L + 8), .ref (L + 9)]), xz 9, xz 9, xz 81, .inl (2, 3, .inr (.inr (.inr (.inr (va_up (va_up (va_up (fun _ => none) 0 (some (L + 12))) 1 (some (L + 36))) 2 (some (L + 60))))))), .inl (3, 3, .inr (.inr (.inr (.inr (va_up (va_up (va_up (fun _ => none) 0 (some (L + 16))) 1 (some (L + 40))) 2 (some (L + 64))))))), .inr (5, [.int 0, .int 0, .ref (L + 13), .ref (L + 14), .ref (L + 15)]), xz 9, xz 9, xz 81, .inr (3, [.ref (L + 17), .ref (L + 18)]), .inl (4, 7, .inr (.inr (.inr (.inr (va_up (va_up (va_up (va_up (va_up (va_up (va_up (fun _ => none) 0 (some (L + 22))) 1 (some (L + 24))) 2 (some (L + 26))) 3 (some (L + 28))) 4 (some (L + 30))) 5 (some (L + 32))) 6 (some (L + 34))))))), .inr (5, [.int 0, .int 0, .ref (L + 19), .ref (L + 20), .ref (L + 21)]), xz 9, xz 9, xz 81, .inr (2, [.int 0, .int 0, .int 0, .int 0, .ref (L + 23)]), xz 9, .inr (2, [.int 0, .int 0, .int 0, .int 0, .ref (L + 25)]), xz 9, .inr (2, [.int 0, .int 0, .int 0, .int 0, .ref (L + 27)]), xz 9, .inr (2, [.int 0, .int 0, .int 0, .int 0, .ref (L + 29)]), xz 9, .inr (2, [.int 0, .int 0, .int 0, .int 0, .ref (L + 31)]), xz 9, .inr (2, [.int 0, .int 0, .int 0, .int 0, .ref (L + 33)]), xz 9, .inr (2, [.int 0, .int 0, .int 0, .int 0, .ref (L + 35)]), xz 9, .inr (5, [.int 0, .int 0, .ref (L + 37), .ref (L + 38), .ref (L + 39)]), xz 9, xz 9, xz 81, .inr (3, [.ref (L + 41), .ref (L + 42)]), .inl (4, 7, .inr (.inr (.inr (.inr (va_up (va_up (va_up (va_up (va_up (va_up (va_up (fun _ => none) 0 (some (L + 46))) 1 (some (L + 48))) 2 (some (L + 50))) 3 (some (L + 52))) 4 (some (L + 54))) 5 (some (L + 56))) 6 (some (L + 58))))))), .inr (5, [.int 0, .int 0, .ref (L + 43), .ref (L + 44), .ref (L + 45)]), xz 9, xz 9, xz 81, .inr (2, [.int 0, .int 0, .int 0, .int 0, .ref (L + 47)]), xz 9, .inr (2, [.int 0, .int 0, .int 0, .int 0, .ref (L + 49)]), xz 9, .inr (2, [.int 0, .int 0, .int 0, .int 0, .ref (L + 51)]), xz 9, .inr (2, [.int 0, .int 0, .int 0, .int 0, .ref (L + 53)]), xz 9, .inr (2, [.int 0, .int 0, .int 0, .int 0, .ref (L + 55)]), xz 9, .inr (2, [.int 0, .int 0, .int 0, .int 0, .ref (L + 57)]), xz 9, .inr (2, [.int 0, .int 0, .int 0, .int 0, .ref (L + 59)]), xz 9, .inr (5, [.int 0, .int 0, .ref (L + 61), .ref (L + 62), .ref (L + 63)]), xz 9, xz 9, xz 81, .inr (3, [.ref (L + 65), .ref (L + 66)]), .inl (4, 7, .inr (.inr (.inr (.inr (va_up (va_up (va_up (va_up (va_up (va_up (va_up (fun _ => none) 0 (some (L + 70))) 1 (some (L + 72))) 2 (some (L + 74))) 3 (some (L + 76))) 4 (some (L + 78))) 5 (some (L + 80))) 6 (some (L + 82))))))), .inr (5, [.int 0, .int 0, .ref (L + 67), .ref (L + 68), .ref (L + 69)]), xz 9, xz 9, xz 81, .inr (2, [.int 0, .int 0, .int 0, .int 0, .ref (L + 71)]), xz 9, .inr (2, [.int 0, .int 0, .int 0, .int 0, .ref (L + 73)]), xz 9, .inr (2, [.int 0, .int 0, .int 0, .int 0, .ref (L + 75)]), xz 9, .inr (2, [.int 0, .int 0, .int 0, .int 0, .ref (L + 77)]), xz 9, .inr (2, [.int 0, .int 0, .int 0, .int 0, .ref (L + 79)]), xz 9, .inr (2, [.int 0, .int 0, .int 0, .int 0, .ref (L + 81)]), xz 9, .inr (2, [.int 0, .int 0, .int 0, .int 0, .ref (L + 83)]), xz 9, .inr (7, [.ref (L + 85), .ref (L + 86), .ref (L + 87), .ref (L + 88), .ref (L + 89)]), xz 4608, xz 4608, xz 4608, xz 512, xz 512] _).symm ) mkX0_init w_202 wn_201 rfl rfl rfl rfl (Nat.le_of_ble_eq_true rfl) (Nat.le_of_ble_eq_true rfl) (Nat.le_of_ble_eq_true rfl) (Nat.le_of_ble_eq_true rfl) (Nat.le_of_ble_eq_true rfl) ?_
  intro v M2 hq
  obtain ⟨rfl, hM2⟩ := hq
  rw [List.append_assoc] at hM2
  subst hM2
  show xW _ _ _ _ 121 _ [.ref (L + 90), .ref L] (P ++ [.inr (8, [.ref (L + 1), .ref (L + 3), .ref (L + 5), .ref (L + 10), .ref (L + 11), .ref (L + 84), .null, .null, .null, .null]), .inr (1, [.ref (L + 2), .int 0]), xzb 400, .inr (1, [.ref (L + 4), .int 0]), xzb 256, .inr (6, [.ref (L + 6), .int 0, .int (-1), .ref (L + 1), .int 0, .int 0, .int 0, .int 0]), .inr (5, [.int 0, .int 0, .ref (L + 7), .ref (L + 8), .ref (L + 9)]), xz 9, xz 9, xz 81, .inl (2, 3, .inr (.inr (.inr (.inr (va_up (va_up (va_up (fun _ => none) 0 (some (L + 12))) 1 (some (L + 36))) 2 (some (L + 60))))))), .inl (3, 3, .inr (.inr (.inr (.inr (va_up (va_up (va_up (fun _ => none) 0 (some (L + 16))) 1 (some (L + 40))) 2 (some (L + 64))))))), .inr (5, [.int 0, .int 0, .ref (L + 13), .ref (L + 14), .ref (L + 15)]), xz 9, xz 9, xz 81, .inr (3, [.ref (L + 17), .ref (L + 18)]), .inl (4, 7, .inr (.inr (.inr (.inr (va_up (va_up (va_up (va_up (va_up (va_up (va_up (fun _ => none) 0 (some (L + 22))) 1 (some (L + 24))) 2 (some (L + 26))) 3 (some (L + 28))) 4 (some (L + 30))) 5 (some (L + 32))) 6 (some (L + 34))))))), .inr (5, [.int 0, .int 0, .ref (L + 19), .ref (L + 20), .ref (L + 21)]), xz 9, xz 9, xz 81, .inr (2, [.int 0, .int 0, .int 0, .int 0, .ref (L + 23)]), xz 9, .inr (2, [.int 0, .int 0, .int 0, .int 0, .ref (L + 25)]), xz 9, .inr (2, [.int 0, .int 0, .int 0, .int 0, .ref (L + 27)]), xz 9, .inr (2, [.int 0, .int 0, .int 0, .int 0, .ref (L + 29)]), xz 9, .inr (2, [.int 0, .int 0, .int 0, .int 0, .ref (L + 31)]), xz 9, .inr (2, [.int 0, .int 0, .int 0, .int 0, .ref (L + 33)]), xz 9, .inr (2, [.int 0, .int 0, .int 0, .int 0, .ref (L + 35)]), xz 9, .inr (5, [.int 0, .int 0, .ref (L + 37), .ref (L + 38), .ref (L + 39)]), xz 9, xz 9, xz 81, .inr (3, [.ref (L + 41), .ref (L + 42)]), .inl (4, 7, .inr (.inr (.inr (.inr (va_up (va_up (va_up (va_up (va_up (va_up (va_up (fun _ => none) 0 (some (L + 46))) 1 (some (L + 48))) 2 (some (L + 50))) 3 (some (L + 52))) 4 (some (L + 54))) 5 (some (L + 56))) 6 (some (L + 58))))))), .inr (5, [.int 0, .int 0, .ref (L + 43), .ref (L + 44), .ref (L + 45)]), xz 9, xz 9, xz 81, .inr (2, [.int 0, .int 0, .int 0, .int 0, .ref (L + 47)]), xz 9, .inr (2, [.int 0, .int 0, .int 0, .int 0, .ref (L + 49)]), xz 9, .inr (2, [.int 0, .int 0, .int 0, .int 0, .ref (L + 51)]), xz 9, .inr (2, [.int 0, .int 0, .int 0, .int 0, .ref (L + 53)]), xz 9, .inr (2, [.int 0, .int 0, .int 0, .int 0, .ref (L + 55)]), xz 9, .inr (2, [.int 0, .int 0, .int 0, .int 0, .ref (L + 57)]), xz 9, .inr (2, [.int 0, .int 0, .int 0, .int 0, .ref (L + 59)]), xz 9, .inr (5, [.int 0, .int 0, .ref (L + 61), .ref (L + 62), .ref (L + 63)]), xz 9, xz 9, xz 81, .inr (3, [.ref (L + 65), .ref (L + 66)]), .inl (4, 7, .inr (.inr (.inr (.inr (va_up (va_up (va_up (va_up (va_up (va_up (va_up (fun _ => none) 0 (some (L + 70))) 1 (some (L + 72))) 2 (some (L + 74))) 3 (some (L + 76))) 4 (some (L + 78))) 5 (some (L + 80))) 6 (some (L + 82))))))), .inr (5, [.int 0, .int 0, .ref (L + 67), .ref (L + 68), .ref (L + 69)]), xz 9, xz 9, xz 81, .inr (2, [.int 0, .int 0, .int 0, .int 0, .ref (L + 71)]), xz 9, .inr (2, [.int 0, .int 0, .int 0, .int 0, .ref (L + 73)]), xz 9, .inr (2, [.int 0, .int 0, .int 0, .int 0, .ref (L + 75)]), xz 9, .inr (2, [.int 0, .int 0, .int 0, .int 0, .ref (L + 77)]), xz 9, .inr (2, [.int 0, .int 0, .int 0, .int 0, .ref (L + 79)]), xz 9, .inr (2, [.int 0, .int 0, .int 0, .int 0, .ref (L + 81)]), xz 9, .inr (2, [.int 0, .int 0, .int 0, .int 0, .ref (L + 83)]), xz 9, .inr (7, [.ref (L + 85), .ref (L + 86), .ref (L + 87), .ref (L + 88), .ref (L + 89)]), xz 4608, xz 4608, xz 4608, xz 512, xz 512, .inr (0, [.ref (L + 91), .ref (L + 95), .ref (L + 96), .ref (L + 97)]), .inr (5, [.int 0, .int 0, .ref (L + 92), .ref (L + 93), .ref (L + 94)]), xz 9, xz 9, xz 81, xz 9, xz 4096, xz 4096]) _ _
  refine xi_putF (f := 6) (ty := (.object "ThinRow$BandSearch")) (M' := (P ++ [.inr (8, [.ref (L + 1), .ref (L + 3), .ref (L + 5), .ref (L + 10), .ref (L + 11), .ref (L + 84), .ref (L + 90), .null, .null, .null]), .inr (1, [.ref (L + 2), .int 0]), xzb 400, .inr (1, [.ref (L + 4), .int 0]), xzb 256, .inr (6, [.ref (L + 6), .int 0, .int (-1), .ref (L + 1), .int 0, .int 0, .int 0, .int 0]), .inr (5, [.int 0, .int 0, .ref (L + 7), .ref (L + 8), .ref (L + 9)]), xz 9, xz 9, xz 81, .inl (2, 3, .inr (.inr (.inr (.inr (va_up (va_up (va_up (fun _ => none) 0 (some (L + 12))) 1 (some (L + 36))) 2 (some (L + 60))))))), .inl (3, 3, .inr (.inr (.inr (.inr (va_up (va_up (va_up (fun _ => none) 0 (some (L + 16))) 1 (some (L + 40))) 2 (some (L + 64))))))), .inr (5, [.int 0, .int 0, .ref (L + 13), .ref (L + 14), .ref (L + 15)]), xz 9, xz 9, xz 81, .inr (3, [.ref (L + 17), .ref (L + 18)]), .inl (4, 7, .inr (.inr (.inr (.inr (va_up (va_up (va_up (va_up (va_up (va_up (va_up (fun _ => none) 0 (some (L + 22))) 1 (some (L + 24))) 2 (some (L + 26))) 3 (some (L + 28))) 4 (some (L + 30))) 5 (some (L + 32))) 6 (some (L + 34))))))), .inr (5, [.int 0, .int 0, .ref (L + 19), .ref (L + 20), .ref (L + 21)]), xz 9, xz 9, xz 81, .inr (2, [.int 0, .int 0, .int 0, .int 0, .ref (L + 23)]), xz 9, .inr (2, [.int 0, .int 0, .int 0, .int 0, .ref (L + 25)]), xz 9, .inr (2, [.int 0, .int 0, .int 0, .int 0, .ref (L + 27)]), xz 9, .inr (2, [.int 0, .int 0, .int 0, .int 0, .ref (L + 29)]), xz 9, .inr (2, [.int 0, .int 0, .int 0, .int 0, .ref (L + 31)]), xz 9, .inr (2, [.int 0, .int 0, .int 0, .int 0, .ref (L + 33)]), xz 9, .inr (2, [.int 0, .int 0, .int 0, .int 0, .ref (L + 35)]), xz 9, .inr (5, [.int 0, .int 0, .ref (L + 37), .ref (L + 38), .ref (L + 39)]), xz 9, xz 9, xz 81, .inr (3, [.ref (L + 41), .ref (L + 42)]), .inl (4, 7, .inr (.inr (.inr (.inr (va_up (va_up (va_up (va_up (va_up (va_up (va_up (fun _ => none) 0 (some (L + 46))) 1 (some (L + 48))) 2 (some (L + 50))) 3 (some (L + 52))) 4 (some (L + 54))) 5 (some (L + 56))) 6 (some (L + 58))))))), .inr (5, [.int 0, .int 0, .ref (L + 43), .ref (L + 44), .ref (L + 45)]), xz 9, xz 9, xz 81, .inr (2, [.int 0, .int 0, .int 0, .int 0, .ref (L + 47)]), xz 9, .inr (2, [.int 0, .int 0, .int 0, .int 0, .ref (L + 49)]), xz 9, .inr (2, [.int 0, .int 0, .int 0, .int 0, .ref (L + 51)]), xz 9, .inr (2, [.int 0, .int 0, .int 0, .int 0, .ref (L + 53)]), xz 9, .inr (2, [.int 0, .int 0, .int 0, .int 0, .ref (L + 55)]), xz 9, .inr (2, [.int 0, .int 0, .int 0, .int 0, .ref (L + 57)]), xz 9, .inr (2, [.int 0, .int 0, .int 0, .int 0, .ref (L + 59)]), xz 9, .inr (5, [.int 0, .int 0, .ref (L + 61), .ref (L + 62), .ref (L + 63)]), xz 9, xz 9, xz 81, .inr (3, [.ref (L + 65), .ref (L + 66)]), .inl (4, 7, .inr (.inr (.inr (.inr (va_up (va_up (va_up (va_up (va_up (va_up (va_up (fun _ => none) 0 (some (L + 70))) 1 (some (L + 72))) 2 (some (L + 74))) 3 (some (L + 76))) 4 (some (L + 78))) 5 (some (L + 80))) 6 (some (L + 82))))))), .inr (5, [.int 0, .int 0, .ref (L + 67), .ref (L + 68), .ref (L + 69)]), xz 9, xz 9, xz 81, .inr (2, [.int 0, .int 0, .int 0, .int 0, .ref (L + 71)]), xz 9, .inr (2, [.int 0, .int 0, .int 0, .int 0, .ref (L + 73)]), xz 9, .inr (2, [.int 0, .int 0, .int 0, .int 0, .ref (L + 75)]), xz 9, .inr (2, [.int 0, .int 0, .int 0, .int 0, .ref (L + 77)]), xz 9, .inr (2, [.int 0, .int 0, .int 0, .int 0, .ref (L + 79)]), xz 9, .inr (2, [.int 0, .int 0, .int 0, .int 0, .ref (L + 81)]), xz 9, .inr (2, [.int 0, .int 0, .int 0, .int 0, .ref (L + 83)]), xz 9, .inr (7, [.ref (L + 85), .ref (L + 86), .ref (L + 87), .ref (L + 88), .ref (L + 89)]), xz 4608, xz 4608, xz 4608, xz 512, xz 512, .inr (0, [.ref (L + 91), .ref (L + 95), .ref (L + 96), .ref (L + 97)]), .inr (5, [.int 0, .int 0, .ref (L + 92), .ref (L + 93), .ref (L + 94)]), xz 9, xz 9, xz 81, xz 9, xz 4096, xz 4096])) dX11_init_121 (xpg0 hP rfl) rfl ok_8 (by decide) w_248 rfl rfl rfl pf_LThinRow_BandSearch_ (fun _ h => by cases h) rfl rfl (Nat.le_of_ble_eq_true rfl) (xps0 hP) ?_
  refine xi_aload_n 1 dX11_init_124 rfl ?_
  refine xi_new (i := (L + 98)) (ci := 4) (fs := [.int 0, .int 0, .null, .null]) (M' := (P ++ [.inr (8, [.ref (L + 1), .ref (L + 3), .ref (L + 5), .ref (L + 10), .ref (L + 11), .ref (L + 84), .ref (L + 90), .null, .null, .null]), .inr (1, [.ref (L + 2), .int 0]), xzb 400, .inr (1, [.ref (L + 4), .int 0]), xzb 256, .inr (6, [.ref (L + 6), .int 0, .int (-1), .ref (L + 1), .int 0, .int 0, .int 0, .int 0]), .inr (5, [.int 0, .int 0, .ref (L + 7), .ref (L + 8), .ref (L + 9)]), xz 9, xz 9, xz 81, .inl (2, 3, .inr (.inr (.inr (.inr (va_up (va_up (va_up (fun _ => none) 0 (some (L + 12))) 1 (some (L + 36))) 2 (some (L + 60))))))), .inl (3, 3, .inr (.inr (.inr (.inr (va_up (va_up (va_up (fun _ => none) 0 (some (L + 16))) 1 (some (L + 40))) 2 (some (L + 64))))))), .inr (5, [.int 0, .int 0, .ref (L + 13), .ref (L + 14), .ref (L + 15)]), xz 9, xz 9, xz 81, .inr (3, [.ref (L + 17), .ref (L + 18)]), .inl (4, 7, .inr (.inr (.inr (.inr (va_up (va_up (va_up (va_up (va_up (va_up (va_up (fun _ => none) 0 (some (L + 22))) 1 (some (L + 24))) 2 (some (L + 26))) 3 (some (L + 28))) 4 (some (L + 30))) 5 (some (L + 32))) 6 (some (L + 34))))))), .inr (5, [.int 0, .int 0, .ref (L + 19), .ref (L + 20), .ref (L + 21)]), xz 9, xz 9, xz 81, .inr (2, [.int 0, .int 0, .int 0, .int 0, .ref (L + 23)]), xz 9, .inr (2, [.int 0, .int 0, .int 0, .int 0, .ref (L + 25)]), xz 9, .inr (2, [.int 0, .int 0, .int 0, .int 0, .ref (L + 27)]), xz 9, .inr (2, [.int 0, .int 0, .int 0, .int 0, .ref (L + 29)]), xz 9, .inr (2, [.int 0, .int 0, .int 0, .int 0, .ref (L + 31)]), xz 9, .inr (2, [.int 0, .int 0, .int 0, .int 0, .ref (L + 33)]), xz 9, .inr (2, [.int 0, .int 0, .int 0, .int 0, .ref (L + 35)]), xz 9, .inr (5, [.int 0, .int 0, .ref (L + 37), .ref (L + 38), .ref (L + 39)]), xz 9, xz 9, xz 81, .inr (3, [.ref (L + 41), .ref (L + 42)]), .inl (4, 7, .inr (.inr (.inr (.inr (va_up (va_up (va_up (va_up (va_up (va_up (va_up (fun _ => none) 0 (some (L + 46))) 1 (some (L + 48))) 2 (some (L + 50))) 3 (some (L + 52))) 4 (some (L + 54))) 5 (some (L + 56))) 6 (some (L + 58))))))), .inr (5, [.int 0, .int 0, .ref (L + 43), .ref (L + 44), .ref (L + 45)]), xz 9, xz 9, xz 81, .inr (2, [.int 0, .int 0, .int 0, .int 0, .ref (L + 47)]), xz 9, .inr (2, [.int 0, .int 0, .int 0, .int 0, .ref (L + 49)]), xz 9, .inr (2, [.int 0, .int 0, .int 0, .int 0, .ref (L + 51)]), xz 9, .inr (2, [.int 0, .int 0, .int 0, .int 0, .ref (L + 53)]), xz 9, .inr (2, [.int 0, .int 0, .int 0, .int 0, .ref (L + 55)]), xz 9, .inr (2, [.int 0, .int 0, .int 0, .int 0, .ref (L + 57)]), xz 9, .inr (2, [.int 0, .int 0, .int 0, .int 0, .ref (L + 59)]), xz 9, .inr (5, [.int 0, .int 0, .ref (L + 61), .ref (L + 62), .ref (L + 63)]), xz 9, xz 9, xz 81, .inr (3, [.ref (L + 65), .ref (L + 66)]), .inl (4, 7, .inr (.inr (.inr (.inr (va_up (va_up (va_up (va_up (va_up (va_up (va_up (fun _ => none) 0 (some (L + 70))) 1 (some (L + 72))) 2 (some (L + 74))) 3 (some (L + 76))) 4 (some (L + 78))) 5 (some (L + 80))) 6 (some (L + 82))))))), .inr (5, [.int 0, .int 0, .ref (L + 67), .ref (L + 68), .ref (L + 69)]), xz 9, xz 9, xz 81, .inr (2, [.int 0, .int 0, .int 0, .int 0, .ref (L + 71)]), xz 9, .inr (2, [.int 0, .int 0, .int 0, .int 0, .ref (L + 73)]), xz 9, .inr (2, [.int 0, .int 0, .int 0, .int 0, .ref (L + 75)]), xz 9, .inr (2, [.int 0, .int 0, .int 0, .int 0, .ref (L + 77)]), xz 9, .inr (2, [.int 0, .int 0, .int 0, .int 0, .ref (L + 79)]), xz 9, .inr (2, [.int 0, .int 0, .int 0, .int 0, .ref (L + 81)]), xz 9, .inr (2, [.int 0, .int 0, .int 0, .int 0, .ref (L + 83)]), xz 9, .inr (7, [.ref (L + 85), .ref (L + 86), .ref (L + 87), .ref (L + 88), .ref (L + 89)]), xz 4608, xz 4608, xz 4608, xz 512, xz 512, .inr (0, [.ref (L + 91), .ref (L + 95), .ref (L + 96), .ref (L + 97)]), .inr (5, [.int 0, .int 0, .ref (L + 92), .ref (L + 93), .ref (L + 94)]), xz 9, xz 9, xz 81, xz 9, xz 4096, xz 4096, .inr (4, [.int 0, .int 0, .null, .null])])) dX11_init_125 rfl ok_4 w_220 w_221 w_10 nf_4 rfl (xpl hP rfl) (List.append_assoc _ _ _) (Nat.le_of_ble_eq_true rfl) (Nat.le_of_ble_eq_true rfl) ?_
  refine xi_dup dX11_init_128 rfl ?_
  refine xi_callI (as := []) (rest := [.ref (L + 98), .ref L]) dX11_init_129 (ct_X4_init G (P ++ [.inr (8, [.ref (L + 1), .ref (L + 3), .ref (L + 5), .ref (L + 10), .ref (L + 11), .ref (L + 84), .ref (L + 90), .null, .null, .null]), .inr (1, [.ref (L + 2), .int 0]), xzb 400, .inr (1, [.ref (L + 4), .int 0]), xzb 256, .inr (6, [.ref (L + 6), .int 0, .int (-1), .ref (L + 1), .int 0, .int 0, .int 0, .int 0]), .inr (5, [.int 0, .int 0, .ref (L + 7), .ref (L + 8), .ref (L + 9)]), xz 9, xz 9, xz 81, .inl (2, 3, .inr (.inr (.inr (.inr (va_up (va_up (va_up (fun _ => none) 0 (some (L + 12))) 1 (some (L + 36))) 2 (some (L + 60))))))), .inl (3, 3, .inr (.inr (.inr (.inr (va_up (va_up (va_up (fun _ => none) 0 (some (L + 16))) 1 (some (L + 40))) 2 (some (L + 64))))))), .inr (5, [.int 0, .int 0, .ref (L + 13), .ref (L + 14), .ref (L + 15)]), xz 9, xz 9, xz 81, .inr (3, [.ref (L + 17), .ref (L + 18)]), .inl (4, 7, .inr (.inr (.inr (.inr (va_up (va_up (va_up (va_up (va_up (va_up (va_up (fun _ => none) 0 (some (L + 22))) 1 (some (L + 24))) 2 (some (L + 26))) 3 (some (L + 28))) 4 (some (L + 30))) 5 (some (L + 32))) 6 (some (L + 34))))))), .inr (5, [.int 0, .int 0, .ref (L + 19), .ref (L + 20), .ref (L + 21)]), xz 9, xz 9, xz 81, .inr (2, [.int 0, .int 0, .int 0, .int 0, .ref (L + 23)]), xz 9, .inr (2, [.int 0, .int 0, .int 0, .int 0, .ref (L + 25)]), xz 9, .inr (2, [.int 0, .int 0, .int 0, .int 0, .ref (L + 27)]), xz 9, .inr (2, [.int 0, .int 0, .int 0, .int 0, .ref (L + 29)]), xz 9, .inr (2, [.int 0, .int 0, .int 0, .int 0, .ref (L + 31)]), xz 9, .inr (2, [.int 0, .int 0, .int 0, .int 0, .ref (L + 33)]), xz 9, .inr (2, [.int 0, .int 0, .int 0, .int 0, .ref (L + 35)]), xz 9, .inr (5, [.int 0, .int 0, .ref (L + 37), .ref (L + 38), .ref (L + 39)]), xz 9, xz 9, xz 81, .inr (3, [.ref (L + 41), .ref (L + 42)]), .inl (4, 7, .inr (.inr (.inr (.inr (va_up (va_up (va_up (va_up (va_up (va_up (va_up (fun _ => none) 0 (some (L + 46))) 1 (some (L + 48))) 2 (some (L + 50))) 3 (some (L + 52))) 4 (some (L + 54))) 5 (some (L + 56))) 6 (some (L + 58))))))), .inr (5, [.int 0, .int 0, .ref (L + 43), .ref (L + 44), .ref (L + 45)]), xz 9, xz 9, xz 81, .inr (2, [.int 0, .int 0, .int 0, .int 0, .ref (L + 47)]), xz 9, .inr (2, [.int 0, .int 0, .int 0, .int 0, .ref (L + 49)]), xz 9, .inr (2, [.int 0, .int 0, .int 0, .int 0, .ref (L + 51)]), xz 9, .inr (2, [.int 0, .int 0, .int 0, .int 0, .ref (L + 53)]), xz 9, .inr (2, [.int 0, .int 0, .int 0, .int 0, .ref (L + 55)]), xz 9, .inr (2, [.int 0, .int 0, .int 0, .int 0, .ref (L + 57)]), xz 9, .inr (2, [.int 0, .int 0, .int 0, .int 0, .ref (L + 59)]), xz 9, .inr (5, [.int 0, .int 0, .ref (L + 61), .ref (L + 62), .ref (L + 63)]), xz 9, xz 9, xz 81, .inr (3, [.ref (L + 65), .ref (L + 66)]), .inl (4, 7, .inr (.inr (.inr (.inr (va_up (va_up (va_up (va_up (va_up (va_up (va_up (fun _ => none) 0 (some (L + 70))) 1 (some (L + 72))) 2 (some (L + 74))) 3 (some (L + 76))) 4 (some (L + 78))) 5 (some (L + 80))) 6 (some (L + 82))))))), .inr (5, [.int 0, .int 0, .ref (L + 67), .ref (L + 68), .ref (L + 69)]), xz 9, xz 9, xz 81, .inr (2, [.int 0, .int 0, .int 0, .int 0, .ref (L + 71)]), xz 9, .inr (2, [.int 0, .int 0, .int 0, .int 0, .ref (L + 73)]), xz 9, .inr (2, [.int 0, .int 0, .int 0, .int 0, .ref (L + 75)]), xz 9, .inr (2, [.int 0, .int 0, .int 0, .int 0, .ref (L + 77)]), xz 9, .inr (2, [.int 0, .int 0, .int 0, .int 0, .ref (L + 79)]), xz 9, .inr (2, [.int 0, .int 0, .int 0, .int 0, .ref (L + 81)]), xz 9, .inr (2, [.int 0, .int 0, .int 0, .int 0, .ref (L + 83)]), xz 9, .inr (7, [.ref (L + 85), .ref (L + 86), .ref (L + 87), .ref (L + 88), .ref (L + 89)]), xz 4608, xz 4608, xz 4608, xz 512, xz 512, .inr (0, [.ref (L + 91), .ref (L + 95), .ref (L + 96), .ref (L + 97)]), .inr (5, [.int 0, .int 0, .ref (L + 92), .ref (L + 93), .ref (L + 94)]), xz 9, xz 9, xz 81, xz 9, xz 4096, xz 4096]) (L + 98) (xpl hP rfl) _ (List.append_assoc P [.inr (8, [.ref (L + 1), .ref (L + 3), .ref (L + 5), .ref (L + 10), .ref (L + 11), .ref (L + 84), .ref (L + 90), .null, .null, .null]), .inr (1, [.ref (L + 2), .int 0]), xzb 400, .inr (1, [.ref (L + 4), .int 0]), xzb 256, .inr (6, [.ref (L + 6), .int 0, .int (-1), .ref (L + 1), .int 0, .int 0, .int 0, .int 0]), .inr (5, [.int 0, .int 0, .ref (L + 7), .ref (L + 8), .ref (L + 9)]), xz 9, xz 9, xz 81, .inl (2, 3, .inr (.inr (.inr (.inr (va_up (va_up (va_up (fun _ => none) 0 (some (L + 12))) 1 (some (L + 36))) 2 (some (L + 60))))))), .inl (3, 3, .inr (.inr (.inr (.inr (va_up (va_up (va_up (fun _ => none) 0 (some (L + 16))) 1 (some (L + 40))) 2 (some (L + 64))))))), .inr (5, [.int 0, .int 0, .ref (L + 13), .ref (L + 14), .ref (L + 15)]), xz 9, xz 9, xz 81, .inr (3, [.ref (L + 17), .ref (L + 18)]), .inl (4, 7, .inr (.inr (.inr (.inr (va_up (va_up (va_up (va_up (va_up (va_up (va_up (fun _ => none) 0 (some (L + 22))) 1 (some (L + 24))) 2 (some (L + 26))) 3 (some (L + 28))) 4 (some (L + 30))) 5 (some (L + 32))) 6 (some (L + 34))))))), .inr (5, [.int 0, .int 0, .ref (L + 19), .ref (L + 20), .ref (L + 21)]), xz 9, xz 9, xz 81, .inr (2, [.int 0, .int 0, .int 0, .int 0, .ref (L + 23)]), xz 9, .inr (2, [.int 0, .int 0, .int 0, .int 0, .ref (L + 25)]), xz 9, .inr (2, [.int 0, .int 0, .int 0, .int 0, .ref (L + 27)]), xz 9, .inr (2, [.int 0, .int 0, .int 0, .int 0, .ref (L + 29)]), xz 9, .inr (2, [.int 0, .int 0, .int 0, .int 0, .ref (L + 31)]), xz 9, .inr (2, [.int 0, .int 0, .int 0, .int 0, .ref (L + 33)]), xz 9, .inr (2, [.int 0, .int 0, .int 0, .int 0, .ref (L + 35)]), xz 9, .inr (5, [.int 0, .int 0, .ref (L + 37), .ref (L + 38), .ref (L + 39)]), xz 9, xz 9, xz 81, .inr (3, [.ref (L + 41), .ref (L + 42)]), .inl (4, 7, .inr (.inr (.inr (.inr (va_up (va_up (va_up (va_up (va_up (va_up (va_up (fun _ => none) 0 (some (L + 46))) 1 (some (L + 48))) 2 (some (L + 50))) 3 (some (L + 52))) 4 (some (L + 54))) 5 (some (L + 56))) 6 (some (L + 58))))))), .inr (5, [.int 0, .int 0, .ref (L + 43), .ref (L + 44), .ref (L + 45)]), xz 9, xz 9, xz 81, .inr (2, [.int 0, .int 0, .int 0, .int 0, .ref (L + 47)]), xz 9, .inr (2, [.int 0, .int 0, .int 0, .int 0, .ref (L + 49)]), xz 9, .inr (2, [.int 0, .int 0, .int 0, .int 0, .ref (L + 51)]), xz 9, .inr (2, [.int 0, .int 0, .int 0, .int 0, .ref (L + 53)]), xz 9, .inr (2, [.int 0, .int 0, .int 0, .int 0, .ref (L + 55)]), xz 9, .inr (2, [.int 0, .int 0, .int 0, .int 0, .ref (L + 57)]), xz 9, .inr (2, [.int 0, .int 0, .int 0, .int 0, .ref (L + 59)]), xz 9, .inr (5, [.int 0, .int 0, .ref (L + 61), .ref (L + 62), .ref (L + 63)]), xz 9, xz 9, xz 81, .inr (3, [.ref (L + 65), .ref (L + 66)]), .inl (4, 7, .inr (.inr (.inr (.inr (va_up (va_up (va_up (va_up (va_up (va_up (va_up (fun _ => none) 0 (some (L + 70))) 1 (some (L + 72))) 2 (some (L + 74))) 3 (some (L + 76))) 4 (some (L + 78))) 5 (some (L + 80))) 6 (some (L + 82))))))), .inr (5, [.int 0, .int 0, .ref (L + 67), .ref (L + 68), .ref (L + 69)]), xz 9, xz 9, xz 81, .inr (2, [.int 0, .int 0, .int 0, .int 0, .ref (L + 71)]), xz 9, .inr (2, [.int 0, .int 0, .int 0, .int 0, .ref (L + 73)]), xz 9, .inr (2, [.int 0, .int 0, .int 0, .int 0, .ref (L + 75)]), xz 9, .inr (2, [.int 0, .int 0, .int 0, .int 0, .ref (L + 77)]), xz 9, .inr (2, [.int 0, .int 0, .int 0, .int 0, .ref (L + 79)]), xz 9, .inr (2, [.int 0, .int 0, .int 0, .int 0, .ref (L + 81)]), xz 9, .inr (2, [.int 0, .int 0, .int 0, .int 0, .ref (L + 83)]), xz 9, .inr (7, [.ref (L + 85), .ref (L + 86), .ref (L + 87), .ref (L + 88), .ref (L + 89)]), xz 4608, xz 4608, xz 4608, xz 512, xz 512, .inr (0, [.ref (L + 91), .ref (L + 95), .ref (L + 96), .ref (L + 97)]), .inr (5, [.int 0, .int 0, .ref (L + 92), .ref (L + 93), .ref (L + 94)]), xz 9, xz 9, xz 81, xz 9, xz 4096, xz 4096] _).symm ) mkX4_init w_223 w_222 rfl rfl rfl rfl (Nat.le_of_ble_eq_true rfl) (Nat.le_of_ble_eq_true rfl) (Nat.le_of_ble_eq_true rfl) (Nat.le_of_ble_eq_true rfl) (Nat.le_of_ble_eq_true rfl) ?_
  intro v M2 hq
  obtain ⟨rfl, hM2⟩ := hq
  rw [List.append_assoc] at hM2
  subst hM2
  show xW _ _ _ _ 132 _ [.ref (L + 98), .ref L] (P ++ [.inr (8, [.ref (L + 1), .ref (L + 3), .ref (L + 5), .ref (L + 10), .ref (L + 11), .ref (L + 84), .ref (L + 90), .null, .null, .null]), .inr (1, [.ref (L + 2), .int 0]), xzb 400, .inr (1, [.ref (L + 4), .int 0]), xzb 256, .inr (6, [.ref (L + 6), .int 0, .int (-1), .ref (L + 1), .int 0, .int 0, .int 0, .int 0]), .inr (5, [.int 0, .int 0, .ref (L + 7), .ref (L + 8), .ref (L + 9)]), xz 9, xz 9, xz 81, .inl (2, 3, .inr (.inr (.inr (.inr (va_up (va_up (va_up (fun _ => none) 0 (some (L + 12))) 1 (some (L + 36))) 2 (some (L + 60))))))), .inl (3, 3, .inr (.inr (.inr (.inr (va_up (va_up (va_up (fun _ => none) 0 (some (L + 16))) 1 (some (L + 40))) 2 (some (L + 64))))))), .inr (5, [.int 0, .int 0, .ref (L + 13), .ref (L + 14), .ref (L + 15)]), xz 9, xz 9, xz 81, .inr (3, [.ref (L + 17), .ref (L + 18)]), .inl (4, 7, .inr (.inr (.inr (.inr (va_up (va_up (va_up (va_up (va_up (va_up (va_up (fun _ => none) 0 (some (L + 22))) 1 (some (L + 24))) 2 (some (L + 26))) 3 (some (L + 28))) 4 (some (L + 30))) 5 (some (L + 32))) 6 (some (L + 34))))))), .inr (5, [.int 0, .int 0, .ref (L + 19), .ref (L + 20), .ref (L + 21)]), xz 9, xz 9, xz 81, .inr (2, [.int 0, .int 0, .int 0, .int 0, .ref (L + 23)]), xz 9, .inr (2, [.int 0, .int 0, .int 0, .int 0, .ref (L + 25)]), xz 9, .inr (2, [.int 0, .int 0, .int 0, .int 0, .ref (L + 27)]), xz 9, .inr (2, [.int 0, .int 0, .int 0, .int 0, .ref (L + 29)]), xz 9, .inr (2, [.int 0, .int 0, .int 0, .int 0, .ref (L + 31)]), xz 9, .inr (2, [.int 0, .int 0, .int 0, .int 0, .ref (L + 33)]), xz 9, .inr (2, [.int 0, .int 0, .int 0, .int 0, .ref (L + 35)]), xz 9, .inr (5, [.int 0, .int 0, .ref (L + 37), .ref (L + 38), .ref (L + 39)]), xz 9, xz 9, xz 81, .inr (3, [.ref (L + 41), .ref (L + 42)]), .inl (4, 7, .inr (.inr (.inr (.inr (va_up (va_up (va_up (va_up (va_up (va_up (va_up (fun _ => none) 0 (some (L + 46))) 1 (some (L + 48))) 2 (some (L + 50))) 3 (some (L + 52))) 4 (some (L + 54))) 5 (some (L + 56))) 6 (some (L + 58))))))), .inr (5, [.int 0, .int 0, .ref (L + 43), .ref (L + 44), .ref (L + 45)]), xz 9, xz 9, xz 81, .inr (2, [.int 0, .int 0, .int 0, .int 0, .ref (L + 47)]), xz 9, .inr (2, [.int 0, .int 0, .int 0, .int 0, .ref (L + 49)]), xz 9, .inr (2, [.int 0, .int 0, .int 0, .int 0, .ref (L + 51)]), xz 9, .inr (2, [.int 0, .int 0, .int 0, .int 0, .ref (L + 53)]), xz 9, .inr (2, [.int 0, .int 0, .int 0, .int 0, .ref (L + 55)]), xz 9, .inr (2, [.int 0, .int 0, .int 0, .int 0, .ref (L + 57)]), xz 9, .inr (2, [.int 0, .int 0, .int 0, .int 0, .ref (L + 59)]), xz 9, .inr (5, [.int 0, .int 0, .ref (L + 61), .ref (L + 62), .ref (L + 63)]), xz 9, xz 9, xz 81, .inr (3, [.ref (L + 65), .ref (L + 66)]), .inl (4, 7, .inr (.inr (.inr (.inr (va_up (va_up (va_up (va_up (va_up (va_up (va_up (fun _ => none) 0 (some (L + 70))) 1 (some (L + 72))) 2 (some (L + 74))) 3 (some (L + 76))) 4 (some (L + 78))) 5 (some (L + 80))) 6 (some (L + 82))))))), .inr (5, [.int 0, .int 0, .ref (L + 67), .ref (L + 68), .ref (L + 69)]), xz 9, xz 9, xz 81, .inr (2, [.int 0, .int 0, .int 0, .int 0, .ref (L + 71)]), xz 9, .inr (2, [.int 0, .int 0, .int 0, .int 0, .ref (L + 73)]), xz 9, .inr (2, [.int 0, .int 0, .int 0, .int 0, .ref (L + 75)]), xz 9, .inr (2, [.int 0, .int 0, .int 0, .int 0, .ref (L + 77)]), xz 9, .inr (2, [.int 0, .int 0, .int 0, .int 0, .ref (L + 79)]), xz 9, .inr (2, [.int 0, .int 0, .int 0, .int 0, .ref (L + 81)]), xz 9, .inr (2, [.int 0, .int 0, .int 0, .int 0, .ref (L + 83)]), xz 9, .inr (7, [.ref (L + 85), .ref (L + 86), .ref (L + 87), .ref (L + 88), .ref (L + 89)]), xz 4608, xz 4608, xz 4608, xz 512, xz 512, .inr (0, [.ref (L + 91), .ref (L + 95), .ref (L + 96), .ref (L + 97)]), .inr (5, [.int 0, .int 0, .ref (L + 92), .ref (L + 93), .ref (L + 94)]), xz 9, xz 9, xz 81, xz 9, xz 4096, xz 4096, .inr (4, [.int 0, .int 0, .ref (L + 99), .ref (L + 100)]), xz 10, .inl (2, 10, .inr (.inr (.inr (.inr (va_up (va_up (va_up (va_up (va_up (va_up (va_up (va_up (va_up (va_up (fun _ => none) 0 (some (L + 101))) 1 (some (L + 105))) 2 (some (L + 109))) 3 (some (L + 113))) 4 (some (L + 117))) 5 (some (L + 121))) 6 (some (L + 125))) 7 (some (L + 129))) 8 (some (L + 133))) 9 (some (L + 137))))))), .inr (5, [.int 0, .int 0, .ref (L + 102), .ref (L + 103), .ref (L + 104)]), xz 9, xz 9, xz 81, .inr (5, [.int 0, .int 0, .ref (L + 106), .ref (L + 107), .ref (L + 108)]), xz 9, xz 9, xz 81, .inr (5, [.int 0, .int 0, .ref (L + 110), .ref (L + 111), .ref (L + 112)]), xz 9, xz 9, xz 81, .inr (5, [.int 0, .int 0, .ref (L + 114), .ref (L + 115), .ref (L + 116)]), xz 9, xz 9, xz 81, .inr (5, [.int 0, .int 0, .ref (L + 118), .ref (L + 119), .ref (L + 120)]), xz 9, xz 9, xz 81, .inr (5, [.int 0, .int 0, .ref (L + 122), .ref (L + 123), .ref (L + 124)]), xz 9, xz 9, xz 81, .inr (5, [.int 0, .int 0, .ref (L + 126), .ref (L + 127), .ref (L + 128)]), xz 9, xz 9, xz 81, .inr (5, [.int 0, .int 0, .ref (L + 130), .ref (L + 131), .ref (L + 132)]), xz 9, xz 9, xz 81, .inr (5, [.int 0, .int 0, .ref (L + 134), .ref (L + 135), .ref (L + 136)]), xz 9, xz 9, xz 81, .inr (5, [.int 0, .int 0, .ref (L + 138), .ref (L + 139), .ref (L + 140)]), xz 9, xz 9, xz 81]) _ _
  refine xi_putF (f := 7) (ty := (.object "ThinRow$History")) (M' := (P ++ [.inr (8, [.ref (L + 1), .ref (L + 3), .ref (L + 5), .ref (L + 10), .ref (L + 11), .ref (L + 84), .ref (L + 90), .ref (L + 98), .null, .null]), .inr (1, [.ref (L + 2), .int 0]), xzb 400, .inr (1, [.ref (L + 4), .int 0]), xzb 256, .inr (6, [.ref (L + 6), .int 0, .int (-1), .ref (L + 1), .int 0, .int 0, .int 0, .int 0]), .inr (5, [.int 0, .int 0, .ref (L + 7), .ref (L + 8), .ref (L + 9)]), xz 9, xz 9, xz 81, .inl (2, 3, .inr (.inr (.inr (.inr (va_up (va_up (va_up (fun _ => none) 0 (some (L + 12))) 1 (some (L + 36))) 2 (some (L + 60))))))), .inl (3, 3, .inr (.inr (.inr (.inr (va_up (va_up (va_up (fun _ => none) 0 (some (L + 16))) 1 (some (L + 40))) 2 (some (L + 64))))))), .inr (5, [.int 0, .int 0, .ref (L + 13), .ref (L + 14), .ref (L + 15)]), xz 9, xz 9, xz 81, .inr (3, [.ref (L + 17), .ref (L + 18)]), .inl (4, 7, .inr (.inr (.inr (.inr (va_up (va_up (va_up (va_up (va_up (va_up (va_up (fun _ => none) 0 (some (L + 22))) 1 (some (L + 24))) 2 (some (L + 26))) 3 (some (L + 28))) 4 (some (L + 30))) 5 (some (L + 32))) 6 (some (L + 34))))))), .inr (5, [.int 0, .int 0, .ref (L + 19), .ref (L + 20), .ref (L + 21)]), xz 9, xz 9, xz 81, .inr (2, [.int 0, .int 0, .int 0, .int 0, .ref (L + 23)]), xz 9, .inr (2, [.int 0, .int 0, .int 0, .int 0, .ref (L + 25)]), xz 9, .inr (2, [.int 0, .int 0, .int 0, .int 0, .ref (L + 27)]), xz 9, .inr (2, [.int 0, .int 0, .int 0, .int 0, .ref (L + 29)]), xz 9, .inr (2, [.int 0, .int 0, .int 0, .int 0, .ref (L + 31)]), xz 9, .inr (2, [.int 0, .int 0, .int 0, .int 0, .ref (L + 33)]), xz 9, .inr (2, [.int 0, .int 0, .int 0, .int 0, .ref (L + 35)]), xz 9, .inr (5, [.int 0, .int 0, .ref (L + 37), .ref (L + 38), .ref (L + 39)]), xz 9, xz 9, xz 81, .inr (3, [.ref (L + 41), .ref (L + 42)]), .inl (4, 7, .inr (.inr (.inr (.inr (va_up (va_up (va_up (va_up (va_up (va_up (va_up (fun _ => none) 0 (some (L + 46))) 1 (some (L + 48))) 2 (some (L + 50))) 3 (some (L + 52))) 4 (some (L + 54))) 5 (some (L + 56))) 6 (some (L + 58))))))), .inr (5, [.int 0, .int 0, .ref (L + 43), .ref (L + 44), .ref (L + 45)]), xz 9, xz 9, xz 81, .inr (2, [.int 0, .int 0, .int 0, .int 0, .ref (L + 47)]), xz 9, .inr (2, [.int 0, .int 0, .int 0, .int 0, .ref (L + 49)]), xz 9, .inr (2, [.int 0, .int 0, .int 0, .int 0, .ref (L + 51)]), xz 9, .inr (2, [.int 0, .int 0, .int 0, .int 0, .ref (L + 53)]), xz 9, .inr (2, [.int 0, .int 0, .int 0, .int 0, .ref (L + 55)]), xz 9, .inr (2, [.int 0, .int 0, .int 0, .int 0, .ref (L + 57)]), xz 9, .inr (2, [.int 0, .int 0, .int 0, .int 0, .ref (L + 59)]), xz 9, .inr (5, [.int 0, .int 0, .ref (L + 61), .ref (L + 62), .ref (L + 63)]), xz 9, xz 9, xz 81, .inr (3, [.ref (L + 65), .ref (L + 66)]), .inl (4, 7, .inr (.inr (.inr (.inr (va_up (va_up (va_up (va_up (va_up (va_up (va_up (fun _ => none) 0 (some (L + 70))) 1 (some (L + 72))) 2 (some (L + 74))) 3 (some (L + 76))) 4 (some (L + 78))) 5 (some (L + 80))) 6 (some (L + 82))))))), .inr (5, [.int 0, .int 0, .ref (L + 67), .ref (L + 68), .ref (L + 69)]), xz 9, xz 9, xz 81, .inr (2, [.int 0, .int 0, .int 0, .int 0, .ref (L + 71)]), xz 9, .inr (2, [.int 0, .int 0, .int 0, .int 0, .ref (L + 73)]), xz 9, .inr (2, [.int 0, .int 0, .int 0, .int 0, .ref (L + 75)]), xz 9, .inr (2, [.int 0, .int 0, .int 0, .int 0, .ref (L + 77)]), xz 9, .inr (2, [.int 0, .int 0, .int 0, .int 0, .ref (L + 79)]), xz 9, .inr (2, [.int 0, .int 0, .int 0, .int 0, .ref (L + 81)]), xz 9, .inr (2, [.int 0, .int 0, .int 0, .int 0, .ref (L + 83)]), xz 9, .inr (7, [.ref (L + 85), .ref (L + 86), .ref (L + 87), .ref (L + 88), .ref (L + 89)]), xz 4608, xz 4608, xz 4608, xz 512, xz 512, .inr (0, [.ref (L + 91), .ref (L + 95), .ref (L + 96), .ref (L + 97)]), .inr (5, [.int 0, .int 0, .ref (L + 92), .ref (L + 93), .ref (L + 94)]), xz 9, xz 9, xz 81, xz 9, xz 4096, xz 4096, .inr (4, [.int 0, .int 0, .ref (L + 99), .ref (L + 100)]), xz 10, .inl (2, 10, .inr (.inr (.inr (.inr (va_up (va_up (va_up (va_up (va_up (va_up (va_up (va_up (va_up (va_up (fun _ => none) 0 (some (L + 101))) 1 (some (L + 105))) 2 (some (L + 109))) 3 (some (L + 113))) 4 (some (L + 117))) 5 (some (L + 121))) 6 (some (L + 125))) 7 (some (L + 129))) 8 (some (L + 133))) 9 (some (L + 137))))))), .inr (5, [.int 0, .int 0, .ref (L + 102), .ref (L + 103), .ref (L + 104)]), xz 9, xz 9, xz 81, .inr (5, [.int 0, .int 0, .ref (L + 106), .ref (L + 107), .ref (L + 108)]), xz 9, xz 9, xz 81, .inr (5, [.int 0, .int 0, .ref (L + 110), .ref (L + 111), .ref (L + 112)]), xz 9, xz 9, xz 81, .inr (5, [.int 0, .int 0, .ref (L + 114), .ref (L + 115), .ref (L + 116)]), xz 9, xz 9, xz 81, .inr (5, [.int 0, .int 0, .ref (L + 118), .ref (L + 119), .ref (L + 120)]), xz 9, xz 9, xz 81, .inr (5, [.int 0, .int 0, .ref (L + 122), .ref (L + 123), .ref (L + 124)]), xz 9, xz 9, xz 81, .inr (5, [.int 0, .int 0, .ref (L + 126), .ref (L + 127), .ref (L + 128)]), xz 9, xz 9, xz 81, .inr (5, [.int 0, .int 0, .ref (L + 130), .ref (L + 131), .ref (L + 132)]), xz 9, xz 9, xz 81, .inr (5, [.int 0, .int 0, .ref (L + 134), .ref (L + 135), .ref (L + 136)]), xz 9, xz 9, xz 81, .inr (5, [.int 0, .int 0, .ref (L + 138), .ref (L + 139), .ref (L + 140)]), xz 9, xz 9, xz 81])) dX11_init_132 (xpg0 hP rfl) rfl ok_8 (by decide) w_249 rfl rfl rfl pf_LThinRow_History_ (fun _ h => by cases h) rfl rfl (Nat.le_of_ble_eq_true rfl) (xps0 hP) ?_
  refine xi_aload_n 1 dX11_init_135 rfl ?_
  refine xi_new (i := (L + 141)) (ci := 5) (fs := [.int 0, .int 0, .null, .null, .null]) (M' := (P ++ [.inr (8, [.ref (L + 1), .ref (L + 3), .ref (L + 5), .ref (L + 10), .ref (L + 11), .ref (L + 84), .ref (L + 90), .ref (L + 98), .null, .null]), .inr (1, [.ref (L + 2), .int 0]), xzb 400, .inr (1, [.ref (L + 4), .int 0]), xzb 256, .inr (6, [.ref (L + 6), .int 0, .int (-1), .ref (L + 1), .int 0, .int 0, .int 0, .int 0]), .inr (5, [.int 0, .int 0, .ref (L + 7), .ref (L + 8), .ref (L + 9)]), xz 9, xz 9, xz 81, .inl (2, 3, .inr (.inr (.inr (.inr (va_up (va_up (va_up (fun _ => none) 0 (some (L + 12))) 1 (some (L + 36))) 2 (some (L + 60))))))), .inl (3, 3, .inr (.inr (.inr (.inr (va_up (va_up (va_up (fun _ => none) 0 (some (L + 16))) 1 (some (L + 40))) 2 (some (L + 64))))))), .inr (5, [.int 0, .int 0, .ref (L + 13), .ref (L + 14), .ref (L + 15)]), xz 9, xz 9, xz 81, .inr (3, [.ref (L + 17), .ref (L + 18)]), .inl (4, 7, .inr (.inr (.inr (.inr (va_up (va_up (va_up (va_up (va_up (va_up (va_up (fun _ => none) 0 (some (L + 22))) 1 (some (L + 24))) 2 (some (L + 26))) 3 (some (L + 28))) 4 (some (L + 30))) 5 (some (L + 32))) 6 (some (L + 34))))))), .inr (5, [.int 0, .int 0, .ref (L + 19), .ref (L + 20), .ref (L + 21)]), xz 9, xz 9, xz 81, .inr (2, [.int 0, .int 0, .int 0, .int 0, .ref (L + 23)]), xz 9, .inr (2, [.int 0, .int 0, .int 0, .int 0, .ref (L + 25)]), xz 9, .inr (2, [.int 0, .int 0, .int 0, .int 0, .ref (L + 27)]), xz 9, .inr (2, [.int 0, .int 0, .int 0, .int 0, .ref (L + 29)]), xz 9, .inr (2, [.int 0, .int 0, .int 0, .int 0, .ref (L + 31)]), xz 9, .inr (2, [.int 0, .int 0, .int 0, .int 0, .ref (L + 33)]), xz 9, .inr (2, [.int 0, .int 0, .int 0, .int 0, .ref (L + 35)]), xz 9, .inr (5, [.int 0, .int 0, .ref (L + 37), .ref (L + 38), .ref (L + 39)]), xz 9, xz 9, xz 81, .inr (3, [.ref (L + 41), .ref (L + 42)]), .inl (4, 7, .inr (.inr (.inr (.inr (va_up (va_up (va_up (va_up (va_up (va_up (va_up (fun _ => none) 0 (some (L + 46))) 1 (some (L + 48))) 2 (some (L + 50))) 3 (some (L + 52))) 4 (some (L + 54))) 5 (some (L + 56))) 6 (some (L + 58))))))), .inr (5, [.int 0, .int 0, .ref (L + 43), .ref (L + 44), .ref (L + 45)]), xz 9, xz 9, xz 81, .inr (2, [.int 0, .int 0, .int 0, .int 0, .ref (L + 47)]), xz 9, .inr (2, [.int 0, .int 0, .int 0, .int 0, .ref (L + 49)]), xz 9, .inr (2, [.int 0, .int 0, .int 0, .int 0, .ref (L + 51)]), xz 9, .inr (2, [.int 0, .int 0, .int 0, .int 0, .ref (L + 53)]), xz 9, .inr (2, [.int 0, .int 0, .int 0, .int 0, .ref (L + 55)]), xz 9, .inr (2, [.int 0, .int 0, .int 0, .int 0, .ref (L + 57)]), xz 9, .inr (2, [.int 0, .int 0, .int 0, .int 0, .ref (L + 59)]), xz 9, .inr (5, [.int 0, .int 0, .ref (L + 61), .ref (L + 62), .ref (L + 63)]), xz 9, xz 9, xz 81, .inr (3, [.ref (L + 65), .ref (L + 66)]), .inl (4, 7, .inr (.inr (.inr (.inr (va_up (va_up (va_up (va_up (va_up (va_up (va_up (fun _ => none) 0 (some (L + 70))) 1 (some (L + 72))) 2 (some (L + 74))) 3 (some (L + 76))) 4 (some (L + 78))) 5 (some (L + 80))) 6 (some (L + 82))))))), .inr (5, [.int 0, .int 0, .ref (L + 67), .ref (L + 68), .ref (L + 69)]), xz 9, xz 9, xz 81, .inr (2, [.int 0, .int 0, .int 0, .int 0, .ref (L + 71)]), xz 9, .inr (2, [.int 0, .int 0, .int 0, .int 0, .ref (L + 73)]), xz 9, .inr (2, [.int 0, .int 0, .int 0, .int 0, .ref (L + 75)]), xz 9, .inr (2, [.int 0, .int 0, .int 0, .int 0, .ref (L + 77)]), xz 9, .inr (2, [.int 0, .int 0, .int 0, .int 0, .ref (L + 79)]), xz 9, .inr (2, [.int 0, .int 0, .int 0, .int 0, .ref (L + 81)]), xz 9, .inr (2, [.int 0, .int 0, .int 0, .int 0, .ref (L + 83)]), xz 9, .inr (7, [.ref (L + 85), .ref (L + 86), .ref (L + 87), .ref (L + 88), .ref (L + 89)]), xz 4608, xz 4608, xz 4608, xz 512, xz 512, .inr (0, [.ref (L + 91), .ref (L + 95), .ref (L + 96), .ref (L + 97)]), .inr (5, [.int 0, .int 0, .ref (L + 92), .ref (L + 93), .ref (L + 94)]), xz 9, xz 9, xz 81, xz 9, xz 4096, xz 4096, .inr (4, [.int 0, .int 0, .ref (L + 99), .ref (L + 100)]), xz 10, .inl (2, 10, .inr (.inr (.inr (.inr (va_up (va_up (va_up (va_up (va_up (va_up (va_up (va_up (va_up (va_up (fun _ => none) 0 (some (L + 101))) 1 (some (L + 105))) 2 (some (L + 109))) 3 (some (L + 113))) 4 (some (L + 117))) 5 (some (L + 121))) 6 (some (L + 125))) 7 (some (L + 129))) 8 (some (L + 133))) 9 (some (L + 137))))))), .inr (5, [.int 0, .int 0, .ref (L + 102), .ref (L + 103), .ref (L + 104)]), xz 9, xz 9, xz 81, .inr (5, [.int 0, .int 0, .ref (L + 106), .ref (L + 107), .ref (L + 108)]), xz 9, xz 9, xz 81, .inr (5, [.int 0, .int 0, .ref (L + 110), .ref (L + 111), .ref (L + 112)]), xz 9, xz 9, xz 81, .inr (5, [.int 0, .int 0, .ref (L + 114), .ref (L + 115), .ref (L + 116)]), xz 9, xz 9, xz 81, .inr (5, [.int 0, .int 0, .ref (L + 118), .ref (L + 119), .ref (L + 120)]), xz 9, xz 9, xz 81, .inr (5, [.int 0, .int 0, .ref (L + 122), .ref (L + 123), .ref (L + 124)]), xz 9, xz 9, xz 81, .inr (5, [.int 0, .int 0, .ref (L + 126), .ref (L + 127), .ref (L + 128)]), xz 9, xz 9, xz 81, .inr (5, [.int 0, .int 0, .ref (L + 130), .ref (L + 131), .ref (L + 132)]), xz 9, xz 9, xz 81, .inr (5, [.int 0, .int 0, .ref (L + 134), .ref (L + 135), .ref (L + 136)]), xz 9, xz 9, xz 81, .inr (5, [.int 0, .int 0, .ref (L + 138), .ref (L + 139), .ref (L + 140)]), xz 9, xz 9, xz 81, .inr (5, [.int 0, .int 0, .null, .null, .null])])) dX11_init_136 rfl ok_5 w_124 w_56 w_5 nf_5 rfl (xpl hP rfl) (List.append_assoc _ _ _) (Nat.le_of_ble_eq_true rfl) (Nat.le_of_ble_eq_true rfl) ?_
  refine xi_dup dX11_init_139 rfl ?_
  refine xi_callIN (as := []) (rest := [.ref (L + 141), .ref L]) dX11_init_140 (ct_X5_init G (P ++ [.inr (8, [.ref (L + 1), .ref (L + 3), .ref (L + 5), .ref (L + 10), .ref (L + 11), .ref (L + 84), .ref (L + 90), .ref (L + 98), .null, .null]), .inr (1, [.ref (L + 2), .int 0]), xzb 400, .inr (1, [.ref (L + 4), .int 0]), xzb 256, .inr (6, [.ref (L + 6), .int 0, .int (-1), .ref (L + 1), .int 0, .int 0, .int 0, .int 0]), .inr (5, [.int 0, .int 0, .ref (L + 7), .ref (L + 8), .ref (L + 9)]), xz 9, xz 9, xz 81, .inl (2, 3, .inr (.inr (.inr (.inr (va_up (va_up (va_up (fun _ => none) 0 (some (L + 12))) 1 (some (L + 36))) 2 (some (L + 60))))))), .inl (3, 3, .inr (.inr (.inr (.inr (va_up (va_up (va_up (fun _ => none) 0 (some (L + 16))) 1 (some (L + 40))) 2 (some (L + 64))))))), .inr (5, [.int 0, .int 0, .ref (L + 13), .ref (L + 14), .ref (L + 15)]), xz 9, xz 9, xz 81, .inr (3, [.ref (L + 17), .ref (L + 18)]), .inl (4, 7, .inr (.inr (.inr (.inr (va_up (va_up (va_up (va_up (va_up (va_up (va_up (fun _ => none) 0 (some (L + 22))) 1 (some (L + 24))) 2 (some (L + 26))) 3 (some (L + 28))) 4 (some (L + 30))) 5 (some (L + 32))) 6 (some (L + 34))))))), .inr (5, [.int 0, .int 0, .ref (L + 19), .ref (L + 20), .ref (L + 21)]), xz 9, xz 9, xz 81, .inr (2, [.int 0, .int 0, .int 0, .int 0, .ref (L + 23)]), xz 9, .inr (2, [.int 0, .int 0, .int 0, .int 0, .ref (L + 25)]), xz 9, .inr (2, [.int 0, .int 0, .int 0, .int 0, .ref (L + 27)]), xz 9, .inr (2, [.int 0, .int 0, .int 0, .int 0, .ref (L + 29)]), xz 9, .inr (2, [.int 0, .int 0, .int 0, .int 0, .ref (L + 31)]), xz 9, .inr (2, [.int 0, .int 0, .int 0, .int 0, .ref (L + 33)]), xz 9, .inr (2, [.int 0, .int 0, .int 0, .int 0, .ref (L + 35)]), xz 9, .inr (5, [.int 0, .int 0, .ref (L + 37), .ref (L + 38), .ref (L + 39)]), xz 9, xz 9, xz 81, .inr (3, [.ref (L + 41), .ref (L + 42)]), .inl (4, 7, .inr (.inr (.inr (.inr (va_up (va_up (va_up (va_up (va_up (va_up (va_up (fun _ => none) 0 (some (L + 46))) 1 (some (L + 48))) 2 (some (L + 50))) 3 (some (L + 52))) 4 (some (L + 54))) 5 (some (L + 56))) 6 (some (L + 58))))))), .inr (5, [.int 0, .int 0, .ref (L + 43), .ref (L + 44), .ref (L + 45)]), xz 9, xz 9, xz 81, .inr (2, [.int 0, .int 0, .int 0, .int 0, .ref (L + 47)]), xz 9, .inr (2, [.int 0, .int 0, .int 0, .int 0, .ref (L + 49)]), xz 9, .inr (2, [.int 0, .int 0, .int 0, .int 0, .ref (L + 51)]), xz 9, .inr (2, [.int 0, .int 0, .int 0, .int 0, .ref (L + 53)]), xz 9, .inr (2, [.int 0, .int 0, .int 0, .int 0, .ref (L + 55)]), xz 9, .inr (2, [.int 0, .int 0, .int 0, .int 0, .ref (L + 57)]), xz 9, .inr (2, [.int 0, .int 0, .int 0, .int 0, .ref (L + 59)]), xz 9, .inr (5, [.int 0, .int 0, .ref (L + 61), .ref (L + 62), .ref (L + 63)]), xz 9, xz 9, xz 81, .inr (3, [.ref (L + 65), .ref (L + 66)]), .inl (4, 7, .inr (.inr (.inr (.inr (va_up (va_up (va_up (va_up (va_up (va_up (va_up (fun _ => none) 0 (some (L + 70))) 1 (some (L + 72))) 2 (some (L + 74))) 3 (some (L + 76))) 4 (some (L + 78))) 5 (some (L + 80))) 6 (some (L + 82))))))), .inr (5, [.int 0, .int 0, .ref (L + 67), .ref (L + 68), .ref (L + 69)]), xz 9, xz 9, xz 81, .inr (2, [.int 0, .int 0, .int 0, .int 0, .ref (L + 71)]), xz 9, .inr (2, [.int 0, .int 0, .int 0, .int 0, .ref (L + 73)]), xz 9, .inr (2, [.int 0, .int 0, .int 0, .int 0, .ref (L + 75)]), xz 9, .inr (2, [.int 0, .int 0, .int 0, .int 0, .ref (L + 77)]), xz 9, .inr (2, [.int 0, .int 0, .int 0, .int 0, .ref (L + 79)]), xz 9, .inr (2, [.int 0, .int 0, .int 0, .int 0, .ref (L + 81)]), xz 9, .inr (2, [.int 0, .int 0, .int 0, .int 0, .ref (L + 83)]), xz 9, .inr (7, [.ref (L + 85), .ref (L + 86), .ref (L + 87), .ref (L + 88), .ref (L + 89)]), xz 4608, xz 4608, xz 4608, xz 512, xz 512, .inr (0, [.ref (L + 91), .ref (L + 95), .ref (L + 96), .ref (L + 97)]), .inr (5, [.int 0, .int 0, .ref (L + 92), .ref (L + 93), .ref (L + 94)]), xz 9, xz 9, xz 81, xz 9, xz 4096, xz 4096, .inr (4, [.int 0, .int 0, .ref (L + 99), .ref (L + 100)]), xz 10, .inl (2, 10, .inr (.inr (.inr (.inr (va_up (va_up (va_up (va_up (va_up (va_up (va_up (va_up (va_up (va_up (fun _ => none) 0 (some (L + 101))) 1 (some (L + 105))) 2 (some (L + 109))) 3 (some (L + 113))) 4 (some (L + 117))) 5 (some (L + 121))) 6 (some (L + 125))) 7 (some (L + 129))) 8 (some (L + 133))) 9 (some (L + 137))))))), .inr (5, [.int 0, .int 0, .ref (L + 102), .ref (L + 103), .ref (L + 104)]), xz 9, xz 9, xz 81, .inr (5, [.int 0, .int 0, .ref (L + 106), .ref (L + 107), .ref (L + 108)]), xz 9, xz 9, xz 81, .inr (5, [.int 0, .int 0, .ref (L + 110), .ref (L + 111), .ref (L + 112)]), xz 9, xz 9, xz 81, .inr (5, [.int 0, .int 0, .ref (L + 114), .ref (L + 115), .ref (L + 116)]), xz 9, xz 9, xz 81, .inr (5, [.int 0, .int 0, .ref (L + 118), .ref (L + 119), .ref (L + 120)]), xz 9, xz 9, xz 81, .inr (5, [.int 0, .int 0, .ref (L + 122), .ref (L + 123), .ref (L + 124)]), xz 9, xz 9, xz 81, .inr (5, [.int 0, .int 0, .ref (L + 126), .ref (L + 127), .ref (L + 128)]), xz 9, xz 9, xz 81, .inr (5, [.int 0, .int 0, .ref (L + 130), .ref (L + 131), .ref (L + 132)]), xz 9, xz 9, xz 81, .inr (5, [.int 0, .int 0, .ref (L + 134), .ref (L + 135), .ref (L + 136)]), xz 9, xz 9, xz 81, .inr (5, [.int 0, .int 0, .ref (L + 138), .ref (L + 139), .ref (L + 140)]), xz 9, xz 9, xz 81]) (L + 141) (xpl hP rfl) _ (List.append_assoc P [.inr (8, [.ref (L + 1), .ref (L + 3), .ref (L + 5), .ref (L + 10), .ref (L + 11), .ref (L + 84), .ref (L + 90), .ref (L + 98), .null, .null]), .inr (1, [.ref (L + 2), .int 0]), xzb 400, .inr (1, [.ref (L + 4), .int 0]), xzb 256, .inr (6, [.ref (L + 6), .int 0, .int (-1), .ref (L + 1), .int 0, .int 0, .int 0, .int 0]), .inr (5, [.int 0, .int 0, .ref (L + 7), .ref (L + 8), .ref (L + 9)]), xz 9, xz 9, xz 81, .inl (2, 3, .inr (.inr (.inr (.inr (va_up (va_up (va_up (fun _ => none) 0 (some (L + 12))) 1 (some (L + 36))) 2 (some (L + 60))))))), .inl (3, 3, .inr (.inr (.inr (.inr (va_up (va_up (va_up (fun _ => none) 0 (some (L + 16))) 1 (some (L + 40))) 2 (some (L + 64))))))), .inr (5, [.int 0, .int 0, .ref (L + 13), .ref (L + 14), .ref (L + 15)]), xz 9, xz 9, xz 81, .inr (3, [.ref (L + 17), .ref (L + 18)]), .inl (4, 7, .inr (.inr (.inr (.inr (va_up (va_up (va_up (va_up (va_up (va_up (va_up (fun _ => none) 0 (some (L + 22))) 1 (some (L + 24))) 2 (some (L + 26))) 3 (some (L + 28))) 4 (some (L + 30))) 5 (some (L + 32))) 6 (some (L + 34))))))), .inr (5, [.int 0, .int 0, .ref (L + 19), .ref (L + 20), .ref (L + 21)]), xz 9, xz 9, xz 81, .inr (2, [.int 0, .int 0, .int 0, .int 0, .ref (L + 23)]), xz 9, .inr (2, [.int 0, .int 0, .int 0, .int 0, .ref (L + 25)]), xz 9, .inr (2, [.int 0, .int 0, .int 0, .int 0, .ref (L + 27)]), xz 9, .inr (2, [.int 0, .int 0, .int 0, .int 0, .ref (L + 29)]), xz 9, .inr (2, [.int 0, .int 0, .int 0, .int 0, .ref (L + 31)]), xz 9, .inr (2, [.int 0, .int 0, .int 0, .int 0, .ref (L + 33)]), xz 9, .inr (2, [.int 0, .int 0, .int 0, .int 0, .ref (L + 35)]), xz 9, .inr (5, [.int 0, .int 0, .ref (L + 37), .ref (L + 38), .ref (L + 39)]), xz 9, xz 9, xz 81, .inr (3, [.ref (L + 41), .ref (L + 42)]), .inl (4, 7, .inr (.inr (.inr (.inr (va_up (va_up (va_up (va_up (va_up (va_up (va_up (fun _ => none) 0 (some (L + 46))) 1 (some (L + 48))) 2 (some (L + 50))) 3 (some (L + 52))) 4 (some (L + 54))) 5 (some (L + 56))) 6 (some (L + 58))))))), .inr (5, [.int 0, .int 0, .ref (L + 43), .ref (L + 44), .ref (L + 45)]), xz 9, xz 9, xz 81, .inr (2, [.int 0, .int 0, .int 0, .int 0, .ref (L + 47)]), xz 9, .inr (2, [.int 0, .int 0, .int 0, .int 0, .ref (L + 49)]), xz 9, .inr (2, [.int 0, .int 0, .int 0, .int 0, .ref (L + 51)]), xz 9, .inr (2, [.int 0, .int 0, .int 0, .int 0, .ref (L + 53)]), xz 9, .inr (2, [.int 0, .int 0, .int 0, .int 0, .ref (L + 55)]), xz 9, .inr (2, [.int 0, .int 0, .int 0, .int 0, .ref (L + 57)]), xz 9, .inr (2, [.int 0, .int 0, .int 0, .int 0, .ref (L + 59)]), xz 9, .inr (5, [.int 0, .int 0, .ref (L + 61), .ref (L + 62), .ref (L + 63)]), xz 9, xz 9, xz 81, .inr (3, [.ref (L + 65), .ref (L + 66)]), .inl (4, 7, .inr (.inr (.inr (.inr (va_up (va_up (va_up (va_up (va_up (va_up (va_up (fun _ => none) 0 (some (L + 70))) 1 (some (L + 72))) 2 (some (L + 74))) 3 (some (L + 76))) 4 (some (L + 78))) 5 (some (L + 80))) 6 (some (L + 82))))))), .inr (5, [.int 0, .int 0, .ref (L + 67), .ref (L + 68), .ref (L + 69)]), xz 9, xz 9, xz 81, .inr (2, [.int 0, .int 0, .int 0, .int 0, .ref (L + 71)]), xz 9, .inr (2, [.int 0, .int 0, .int 0, .int 0, .ref (L + 73)]), xz 9, .inr (2, [.int 0, .int 0, .int 0, .int 0, .ref (L + 75)]), xz 9, .inr (2, [.int 0, .int 0, .int 0, .int 0, .ref (L + 77)]), xz 9, .inr (2, [.int 0, .int 0, .int 0, .int 0, .ref (L + 79)]), xz 9, .inr (2, [.int 0, .int 0, .int 0, .int 0, .ref (L + 81)]), xz 9, .inr (2, [.int 0, .int 0, .int 0, .int 0, .ref (L + 83)]), xz 9, .inr (7, [.ref (L + 85), .ref (L + 86), .ref (L + 87), .ref (L + 88), .ref (L + 89)]), xz 4608, xz 4608, xz 4608, xz 512, xz 512, .inr (0, [.ref (L + 91), .ref (L + 95), .ref (L + 96), .ref (L + 97)]), .inr (5, [.int 0, .int 0, .ref (L + 92), .ref (L + 93), .ref (L + 94)]), xz 9, xz 9, xz 81, xz 9, xz 4096, xz 4096, .inr (4, [.int 0, .int 0, .ref (L + 99), .ref (L + 100)]), xz 10, .inl (2, 10, .inr (.inr (.inr (.inr (va_up (va_up (va_up (va_up (va_up (va_up (va_up (va_up (va_up (va_up (fun _ => none) 0 (some (L + 101))) 1 (some (L + 105))) 2 (some (L + 109))) 3 (some (L + 113))) 4 (some (L + 117))) 5 (some (L + 121))) 6 (some (L + 125))) 7 (some (L + 129))) 8 (some (L + 133))) 9 (some (L + 137))))))), .inr (5, [.int 0, .int 0, .ref (L + 102), .ref (L + 103), .ref (L + 104)]), xz 9, xz 9, xz 81, .inr (5, [.int 0, .int 0, .ref (L + 106), .ref (L + 107), .ref (L + 108)]), xz 9, xz 9, xz 81, .inr (5, [.int 0, .int 0, .ref (L + 110), .ref (L + 111), .ref (L + 112)]), xz 9, xz 9, xz 81, .inr (5, [.int 0, .int 0, .ref (L + 114), .ref (L + 115), .ref (L + 116)]), xz 9, xz 9, xz 81, .inr (5, [.int 0, .int 0, .ref (L + 118), .ref (L + 119), .ref (L + 120)]), xz 9, xz 9, xz 81, .inr (5, [.int 0, .int 0, .ref (L + 122), .ref (L + 123), .ref (L + 124)]), xz 9, xz 9, xz 81, .inr (5, [.int 0, .int 0, .ref (L + 126), .ref (L + 127), .ref (L + 128)]), xz 9, xz 9, xz 81, .inr (5, [.int 0, .int 0, .ref (L + 130), .ref (L + 131), .ref (L + 132)]), xz 9, xz 9, xz 81, .inr (5, [.int 0, .int 0, .ref (L + 134), .ref (L + 135), .ref (L + 136)]), xz 9, xz 9, xz 81, .inr (5, [.int 0, .int 0, .ref (L + 138), .ref (L + 139), .ref (L + 140)]), xz 9, xz 9, xz 81] _).symm ) mkX5_init w_58 wn_128 rfl rfl rfl rfl (Nat.le_of_ble_eq_true rfl) (Nat.le_of_ble_eq_true rfl) (Nat.le_of_ble_eq_true rfl) (Nat.le_of_ble_eq_true rfl) (Nat.le_of_ble_eq_true rfl) ?_
  intro v M2 hq
  obtain ⟨rfl, hM2⟩ := hq
  rw [List.append_assoc] at hM2
  subst hM2
  show xW _ _ _ _ 143 _ [.ref (L + 141), .ref L] (P ++ [.inr (8, [.ref (L + 1), .ref (L + 3), .ref (L + 5), .ref (L + 10), .ref (L + 11), .ref (L + 84), .ref (L + 90), .ref (L + 98), .null, .null]), .inr (1, [.ref (L + 2), .int 0]), xzb 400, .inr (1, [.ref (L + 4), .int 0]), xzb 256, .inr (6, [.ref (L + 6), .int 0, .int (-1), .ref (L + 1), .int 0, .int 0, .int 0, .int 0]), .inr (5, [.int 0, .int 0, .ref (L + 7), .ref (L + 8), .ref (L + 9)]), xz 9, xz 9, xz 81, .inl (2, 3, .inr (.inr (.inr (.inr (va_up (va_up (va_up (fun _ => none) 0 (some (L + 12))) 1 (some (L + 36))) 2 (some (L + 60))))))), .inl (3, 3, .inr (.inr (.inr (.inr (va_up (va_up (va_up (fun _ => none) 0 (some (L + 16))) 1 (some (L + 40))) 2 (some (L + 64))))))), .inr (5, [.int 0, .int 0, .ref (L + 13), .ref (L + 14), .ref (L + 15)]), xz 9, xz 9, xz 81, .inr (3, [.ref (L + 17), .ref (L + 18)]), .inl (4, 7, .inr (.inr (.inr (.inr (va_up (va_up (va_up (va_up (va_up (va_up (va_up (fun _ => none) 0 (some (L + 22))) 1 (some (L + 24))) 2 (some (L + 26))) 3 (some (L + 28))) 4 (some (L + 30))) 5 (some (L + 32))) 6 (some (L + 34))))))), .inr (5, [.int 0, .int 0, .ref (L + 19), .ref (L + 20), .ref (L + 21)]), xz 9, xz 9, xz 81, .inr (2, [.int 0, .int 0, .int 0, .int 0, .ref (L + 23)]), xz 9, .inr (2, [.int 0, .int 0, .int 0, .int 0, .ref (L + 25)]), xz 9, .inr (2, [.int 0, .int 0, .int 0, .int 0, .ref (L + 27)]), xz 9, .inr (2, [.int 0, .int 0, .int 0, .int 0, .ref (L + 29)]), xz 9, .inr (2, [.int 0, .int 0, .int 0, .int 0, .ref (L + 31)]), xz 9, .inr (2, [.int 0, .int 0, .int 0, .int 0, .ref (L + 33)]), xz 9, .inr (2, [.int 0, .int 0, .int 0, .int 0, .ref (L + 35)]), xz 9, .inr (5, [.int 0, .int 0, .ref (L + 37), .ref (L + 38), .ref (L + 39)]), xz 9, xz 9, xz 81, .inr (3, [.ref (L + 41), .ref (L + 42)]), .inl (4, 7, .inr (.inr (.inr (.inr (va_up (va_up (va_up (va_up (va_up (va_up (va_up (fun _ => none) 0 (some (L + 46))) 1 (some (L + 48))) 2 (some (L + 50))) 3 (some (L + 52))) 4 (some (L + 54))) 5 (some (L + 56))) 6 (some (L + 58))))))), .inr (5, [.int 0, .int 0, .ref (L + 43), .ref (L + 44), .ref (L + 45)]), xz 9, xz 9, xz 81, .inr (2, [.int 0, .int 0, .int 0, .int 0, .ref (L + 47)]), xz 9, .inr (2, [.int 0, .int 0, .int 0, .int 0, .ref (L + 49)]), xz 9, .inr (2, [.int 0, .int 0, .int 0, .int 0, .ref (L + 51)]), xz 9, .inr (2, [.int 0, .int 0, .int 0, .int 0, .ref (L + 53)]), xz 9, .inr (2, [.int 0, .int 0, .int 0, .int 0, .ref (L + 55)]), xz 9, .inr (2, [.int 0, .int 0, .int 0, .int 0, .ref (L + 57)]), xz 9, .inr (2, [.int 0, .int 0, .int 0, .int 0, .ref (L + 59)]), xz 9, .inr (5, [.int 0, .int 0, .ref (L + 61), .ref (L + 62), .ref (L + 63)]), xz 9, xz 9, xz 81, .inr (3, [.ref (L + 65), .ref (L + 66)]), .inl (4, 7, .inr (.inr (.inr (.inr (va_up (va_up (va_up (va_up (va_up (va_up (va_up (fun _ => none) 0 (some (L + 70))) 1 (some (L + 72))) 2 (some (L + 74))) 3 (some (L + 76))) 4 (some (L + 78))) 5 (some (L + 80))) 6 (some (L + 82))))))), .inr (5, [.int 0, .int 0, .ref (L + 67), .ref (L + 68), .ref (L + 69)]), xz 9, xz 9, xz 81, .inr (2, [.int 0, .int 0, .int 0, .int 0, .ref (L + 71)]), xz 9, .inr (2, [.int 0, .int 0, .int 0, .int 0, .ref (L + 73)]), xz 9, .inr (2, [.int 0, .int 0, .int 0, .int 0, .ref (L + 75)]), xz 9, .inr (2, [.int 0, .int 0, .int 0, .int 0, .ref (L + 77)]), xz 9, .inr (2, [.int 0, .int 0, .int 0, .int 0, .ref (L + 79)]), xz 9, .inr (2, [.int 0, .int 0, .int 0, .int 0, .ref (L + 81)]), xz 9, .inr (2, [.int 0, .int 0, .int 0, .int 0, .ref (L + 83)]), xz 9, .inr (7, [.ref (L + 85), .ref (L + 86), .ref (L + 87), .ref (L + 88), .ref (L + 89)]), xz 4608, xz 4608, xz 4608, xz 512, xz 512, .inr (0, [.ref (L + 91), .ref (L + 95), .ref (L + 96), .ref (L + 97)]), .inr (5, [.int 0, .int 0, .ref (L + 92), .ref (L + 93), .ref (L + 94)]), xz 9, xz 9, xz 81, xz 9, xz 4096, xz 4096, .inr (4, [.int 0, .int 0, .ref (L + 99), .ref (L + 100)]), xz 10, .inl (2, 10, .inr (.inr (.inr (.inr (va_up (va_up (va_up (va_up (va_up (va_up (va_up (va_up (va_up (va_up (fun _ => none) 0 (some (L + 101))) 1 (some (L + 105))) 2 (some (L + 109))) 3 (some (L + 113))) 4 (some (L + 117))) 5 (some (L + 121))) 6 (some (L + 125))) 7 (some (L + 129))) 8 (some (L + 133))) 9 (some (L + 137))))))), .inr (5, [.int 0, .int 0, .ref (L + 102), .ref (L + 103), .ref (L + 104)]), xz 9, xz 9, xz 81, .inr (5, [.int 0, .int 0, .ref (L + 106), .ref (L + 107), .ref (L + 108)]), xz 9, xz 9, xz 81, .inr (5, [.int 0, .int 0, .ref (L + 110), .ref (L + 111), .ref (L + 112)]), xz 9, xz 9, xz 81, .inr (5, [.int 0, .int 0, .ref (L + 114), .ref (L + 115), .ref (L + 116)]), xz 9, xz 9, xz 81, .inr (5, [.int 0, .int 0, .ref (L + 118), .ref (L + 119), .ref (L + 120)]), xz 9, xz 9, xz 81, .inr (5, [.int 0, .int 0, .ref (L + 122), .ref (L + 123), .ref (L + 124)]), xz 9, xz 9, xz 81, .inr (5, [.int 0, .int 0, .ref (L + 126), .ref (L + 127), .ref (L + 128)]), xz 9, xz 9, xz 81, .inr (5, [.int 0, .int 0, .ref (L + 130), .ref (L + 131), .ref (L + 132)]), xz 9, xz 9, xz 81, .inr (5, [.int 0, .int 0, .ref (L + 134), .ref (L + 135), .ref (L + 136)]), xz 9, xz 9, xz 81, .inr (5, [.int 0, .int 0, .ref (L + 138), .ref (L + 139), .ref (L + 140)]), xz 9, xz 9, xz 81, .inr (5, [.int 0, .int 0, .ref (L + 142), .ref (L + 143), .ref (L + 144)]), xz 9, xz 9, xz 81]) _ _
  refine xi_putF (f := 8) (ty := (.object "ThinRow$Net")) (M' := (P ++ [.inr (8, [.ref (L + 1), .ref (L + 3), .ref (L + 5), .ref (L + 10), .ref (L + 11), .ref (L + 84), .ref (L + 90), .ref (L + 98), .ref (L + 141), .null]), .inr (1, [.ref (L + 2), .int 0]), xzb 400, .inr (1, [.ref (L + 4), .int 0]), xzb 256, .inr (6, [.ref (L + 6), .int 0, .int (-1), .ref (L + 1), .int 0, .int 0, .int 0, .int 0]), .inr (5, [.int 0, .int 0, .ref (L + 7), .ref (L + 8), .ref (L + 9)]), xz 9, xz 9, xz 81, .inl (2, 3, .inr (.inr (.inr (.inr (va_up (va_up (va_up (fun _ => none) 0 (some (L + 12))) 1 (some (L + 36))) 2 (some (L + 60))))))), .inl (3, 3, .inr (.inr (.inr (.inr (va_up (va_up (va_up (fun _ => none) 0 (some (L + 16))) 1 (some (L + 40))) 2 (some (L + 64))))))), .inr (5, [.int 0, .int 0, .ref (L + 13), .ref (L + 14), .ref (L + 15)]), xz 9, xz 9, xz 81, .inr (3, [.ref (L + 17), .ref (L + 18)]), .inl (4, 7, .inr (.inr (.inr (.inr (va_up (va_up (va_up (va_up (va_up (va_up (va_up (fun _ => none) 0 (some (L + 22))) 1 (some (L + 24))) 2 (some (L + 26))) 3 (some (L + 28))) 4 (some (L + 30))) 5 (some (L + 32))) 6 (some (L + 34))))))), .inr (5, [.int 0, .int 0, .ref (L + 19), .ref (L + 20), .ref (L + 21)]), xz 9, xz 9, xz 81, .inr (2, [.int 0, .int 0, .int 0, .int 0, .ref (L + 23)]), xz 9, .inr (2, [.int 0, .int 0, .int 0, .int 0, .ref (L + 25)]), xz 9, .inr (2, [.int 0, .int 0, .int 0, .int 0, .ref (L + 27)]), xz 9, .inr (2, [.int 0, .int 0, .int 0, .int 0, .ref (L + 29)]), xz 9, .inr (2, [.int 0, .int 0, .int 0, .int 0, .ref (L + 31)]), xz 9, .inr (2, [.int 0, .int 0, .int 0, .int 0, .ref (L + 33)]), xz 9, .inr (2, [.int 0, .int 0, .int 0, .int 0, .ref (L + 35)]), xz 9, .inr (5, [.int 0, .int 0, .ref (L + 37), .ref (L + 38), .ref (L + 39)]), xz 9, xz 9, xz 81, .inr (3, [.ref (L + 41), .ref (L + 42)]), .inl (4, 7, .inr (.inr (.inr (.inr (va_up (va_up (va_up (va_up (va_up (va_up (va_up (fun _ => none) 0 (some (L + 46))) 1 (some (L + 48))) 2 (some (L + 50))) 3 (some (L + 52))) 4 (some (L + 54))) 5 (some (L + 56))) 6 (some (L + 58))))))), .inr (5, [.int 0, .int 0, .ref (L + 43), .ref (L + 44), .ref (L + 45)]), xz 9, xz 9, xz 81, .inr (2, [.int 0, .int 0, .int 0, .int 0, .ref (L + 47)]), xz 9, .inr (2, [.int 0, .int 0, .int 0, .int 0, .ref (L + 49)]), xz 9, .inr (2, [.int 0, .int 0, .int 0, .int 0, .ref (L + 51)]), xz 9, .inr (2, [.int 0, .int 0, .int 0, .int 0, .ref (L + 53)]), xz 9, .inr (2, [.int 0, .int 0, .int 0, .int 0, .ref (L + 55)]), xz 9, .inr (2, [.int 0, .int 0, .int 0, .int 0, .ref (L + 57)]), xz 9, .inr (2, [.int 0, .int 0, .int 0, .int 0, .ref (L + 59)]), xz 9, .inr (5, [.int 0, .int 0, .ref (L + 61), .ref (L + 62), .ref (L + 63)]), xz 9, xz 9, xz 81, .inr (3, [.ref (L + 65), .ref (L + 66)]), .inl (4, 7, .inr (.inr (.inr (.inr (va_up (va_up (va_up (va_up (va_up (va_up (va_up (fun _ => none) 0 (some (L + 70))) 1 (some (L + 72))) 2 (some (L + 74))) 3 (some (L + 76))) 4 (some (L + 78))) 5 (some (L + 80))) 6 (some (L + 82))))))), .inr (5, [.int 0, .int 0, .ref (L + 67), .ref (L + 68), .ref (L + 69)]), xz 9, xz 9, xz 81, .inr (2, [.int 0, .int 0, .int 0, .int 0, .ref (L + 71)]), xz 9, .inr (2, [.int 0, .int 0, .int 0, .int 0, .ref (L + 73)]), xz 9, .inr (2, [.int 0, .int 0, .int 0, .int 0, .ref (L + 75)]), xz 9, .inr (2, [.int 0, .int 0, .int 0, .int 0, .ref (L + 77)]), xz 9, .inr (2, [.int 0, .int 0, .int 0, .int 0, .ref (L + 79)]), xz 9, .inr (2, [.int 0, .int 0, .int 0, .int 0, .ref (L + 81)]), xz 9, .inr (2, [.int 0, .int 0, .int 0, .int 0, .ref (L + 83)]), xz 9, .inr (7, [.ref (L + 85), .ref (L + 86), .ref (L + 87), .ref (L + 88), .ref (L + 89)]), xz 4608, xz 4608, xz 4608, xz 512, xz 512, .inr (0, [.ref (L + 91), .ref (L + 95), .ref (L + 96), .ref (L + 97)]), .inr (5, [.int 0, .int 0, .ref (L + 92), .ref (L + 93), .ref (L + 94)]), xz 9, xz 9, xz 81, xz 9, xz 4096, xz 4096, .inr (4, [.int 0, .int 0, .ref (L + 99), .ref (L + 100)]), xz 10, .inl (2, 10, .inr (.inr (.inr (.inr (va_up (va_up (va_up (va_up (va_up (va_up (va_up (va_up (va_up (va_up (fun _ => none) 0 (some (L + 101))) 1 (some (L + 105))) 2 (some (L + 109))) 3 (some (L + 113))) 4 (some (L + 117))) 5 (some (L + 121))) 6 (some (L + 125))) 7 (some (L + 129))) 8 (some (L + 133))) 9 (some (L + 137))))))), .inr (5, [.int 0, .int 0, .ref (L + 102), .ref (L + 103), .ref (L + 104)]), xz 9, xz 9, xz 81, .inr (5, [.int 0, .int 0, .ref (L + 106), .ref (L + 107), .ref (L + 108)]), xz 9, xz 9, xz 81, .inr (5, [.int 0, .int 0, .ref (L + 110), .ref (L + 111), .ref (L + 112)]), xz 9, xz 9, xz 81, .inr (5, [.int 0, .int 0, .ref (L + 114), .ref (L + 115), .ref (L + 116)]), xz 9, xz 9, xz 81, .inr (5, [.int 0, .int 0, .ref (L + 118), .ref (L + 119), .ref (L + 120)]), xz 9, xz 9, xz 81, .inr (5, [.int 0, .int 0, .ref (L + 122), .ref (L + 123), .ref (L + 124)]), xz 9, xz 9, xz 81, .inr (5, [.int 0, .int 0, .ref (L + 126), .ref (L + 127), .ref (L + 128)]), xz 9, xz 9, xz 81, .inr (5, [.int 0, .int 0, .ref (L + 130), .ref (L + 131), .ref (L + 132)]), xz 9, xz 9, xz 81, .inr (5, [.int 0, .int 0, .ref (L + 134), .ref (L + 135), .ref (L + 136)]), xz 9, xz 9, xz 81, .inr (5, [.int 0, .int 0, .ref (L + 138), .ref (L + 139), .ref (L + 140)]), xz 9, xz 9, xz 81, .inr (5, [.int 0, .int 0, .ref (L + 142), .ref (L + 143), .ref (L + 144)]), xz 9, xz 9, xz 81])) dX11_init_143 (xpg0 hP rfl) rfl ok_8 (by decide) w_250 rfl rfl rfl pf_LThinRow_Net_ (fun _ h => by cases h) rfl rfl (Nat.le_of_ble_eq_true rfl) (xps0 hP) ?_
  refine xi_aload_n 1 dX11_init_146 rfl ?_
  refine xi_new (i := (L + 145)) (ci := 5) (fs := [.int 0, .int 0, .null, .null, .null]) (M' := (P ++ [.inr (8, [.ref (L + 1), .ref (L + 3), .ref (L + 5), .ref (L + 10), .ref (L + 11), .ref (L + 84), .ref (L + 90), .ref (L + 98), .ref (L + 141), .null]), .inr (1, [.ref (L + 2), .int 0]), xzb 400, .inr (1, [.ref (L + 4), .int 0]), xzb 256, .inr (6, [.ref (L + 6), .int 0, .int (-1), .ref (L + 1), .int 0, .int 0, .int 0, .int 0]), .inr (5, [.int 0, .int 0, .ref (L + 7), .ref (L + 8), .ref (L + 9)]), xz 9, xz 9, xz 81, .inl (2, 3, .inr (.inr (.inr (.inr (va_up (va_up (va_up (fun _ => none) 0 (some (L + 12))) 1 (some (L + 36))) 2 (some (L + 60))))))), .inl (3, 3, .inr (.inr (.inr (.inr (va_up (va_up (va_up (fun _ => none) 0 (some (L + 16))) 1 (some (L + 40))) 2 (some (L + 64))))))), .inr (5, [.int 0, .int 0, .ref (L + 13), .ref (L + 14), .ref (L + 15)]), xz 9, xz 9, xz 81, .inr (3, [.ref (L + 17), .ref (L + 18)]), .inl (4, 7, .inr (.inr (.inr (.inr (va_up (va_up (va_up (va_up (va_up (va_up (va_up (fun _ => none) 0 (some (L + 22))) 1 (some (L + 24))) 2 (some (L + 26))) 3 (some (L + 28))) 4 (some (L + 30))) 5 (some (L + 32))) 6 (some (L + 34))))))), .inr (5, [.int 0, .int 0, .ref (L + 19), .ref (L + 20), .ref (L + 21)]), xz 9, xz 9, xz 81, .inr (2, [.int 0, .int 0, .int 0, .int 0, .ref (L + 23)]), xz 9, .inr (2, [.int 0, .int 0, .int 0, .int 0, .ref (L + 25)]), xz 9, .inr (2, [.int 0, .int 0, .int 0, .int 0, .ref (L + 27)]), xz 9, .inr (2, [.int 0, .int 0, .int 0, .int 0, .ref (L + 29)]), xz 9, .inr (2, [.int 0, .int 0, .int 0, .int 0, .ref (L + 31)]), xz 9, .inr (2, [.int 0, .int 0, .int 0, .int 0, .ref (L + 33)]), xz 9, .inr (2, [.int 0, .int 0, .int 0, .int 0, .ref (L + 35)]), xz 9, .inr (5, [.int 0, .int 0, .ref (L + 37), .ref (L + 38), .ref (L + 39)]), xz 9, xz 9, xz 81, .inr (3, [.ref (L + 41), .ref (L + 42)]), .inl (4, 7, .inr (.inr (.inr (.inr (va_up (va_up (va_up (va_up (va_up (va_up (va_up (fun _ => none) 0 (some (L + 46))) 1 (some (L + 48))) 2 (some (L + 50))) 3 (some (L + 52))) 4 (some (L + 54))) 5 (some (L + 56))) 6 (some (L + 58))))))), .inr (5, [.int 0, .int 0, .ref (L + 43), .ref (L + 44), .ref (L + 45)]), xz 9, xz 9, xz 81, .inr (2, [.int 0, .int 0, .int 0, .int 0, .ref (L + 47)]), xz 9, .inr (2, [.int 0, .int 0, .int 0, .int 0, .ref (L + 49)]), xz 9, .inr (2, [.int 0, .int 0, .int 0, .int 0, .ref (L + 51)]), xz 9, .inr (2, [.int 0, .int 0, .int 0, .int 0, .ref (L + 53)]), xz 9, .inr (2, [.int 0, .int 0, .int 0, .int 0, .ref (L + 55)]), xz 9, .inr (2, [.int 0, .int 0, .int 0, .int 0, .ref (L + 57)]), xz 9, .inr (2, [.int 0, .int 0, .int 0, .int 0, .ref (L + 59)]), xz 9, .inr (5, [.int 0, .int 0, .ref (L + 61), .ref (L + 62), .ref (L + 63)]), xz 9, xz 9, xz 81, .inr (3, [.ref (L + 65), .ref (L + 66)]), .inl (4, 7, .inr (.inr (.inr (.inr (va_up (va_up (va_up (va_up (va_up (va_up (va_up (fun _ => none) 0 (some (L + 70))) 1 (some (L + 72))) 2 (some (L + 74))) 3 (some (L + 76))) 4 (some (L + 78))) 5 (some (L + 80))) 6 (some (L + 82))))))), .inr (5, [.int 0, .int 0, .ref (L + 67), .ref (L + 68), .ref (L + 69)]), xz 9, xz 9, xz 81, .inr (2, [.int 0, .int 0, .int 0, .int 0, .ref (L + 71)]), xz 9, .inr (2, [.int 0, .int 0, .int 0, .int 0, .ref (L + 73)]), xz 9, .inr (2, [.int 0, .int 0, .int 0, .int 0, .ref (L + 75)]), xz 9, .inr (2, [.int 0, .int 0, .int 0, .int 0, .ref (L + 77)]), xz 9, .inr (2, [.int 0, .int 0, .int 0, .int 0, .ref (L + 79)]), xz 9, .inr (2, [.int 0, .int 0, .int 0, .int 0, .ref (L + 81)]), xz 9, .inr (2, [.int 0, .int 0, .int 0, .int 0, .ref (L + 83)]), xz 9, .inr (7, [.ref (L + 85), .ref (L + 86), .ref (L + 87), .ref (L + 88), .ref (L + 89)]), xz 4608, xz 4608, xz 4608, xz 512, xz 512, .inr (0, [.ref (L + 91), .ref (L + 95), .ref (L + 96), .ref (L + 97)]), .inr (5, [.int 0, .int 0, .ref (L + 92), .ref (L + 93), .ref (L + 94)]), xz 9, xz 9, xz 81, xz 9, xz 4096, xz 4096, .inr (4, [.int 0, .int 0, .ref (L + 99), .ref (L + 100)]), xz 10, .inl (2, 10, .inr (.inr (.inr (.inr (va_up (va_up (va_up (va_up (va_up (va_up (va_up (va_up (va_up (va_up (fun _ => none) 0 (some (L + 101))) 1 (some (L + 105))) 2 (some (L + 109))) 3 (some (L + 113))) 4 (some (L + 117))) 5 (some (L + 121))) 6 (some (L + 125))) 7 (some (L + 129))) 8 (some (L + 133))) 9 (some (L + 137))))))), .inr (5, [.int 0, .int 0, .ref (L + 102), .ref (L + 103), .ref (L + 104)]), xz 9, xz 9, xz 81, .inr (5, [.int 0, .int 0, .ref (L + 106), .ref (L + 107), .ref (L + 108)]), xz 9, xz 9, xz 81, .inr (5, [.int 0, .int 0, .ref (L + 110), .ref (L + 111), .ref (L + 112)]), xz 9, xz 9, xz 81, .inr (5, [.int 0, .int 0, .ref (L + 114), .ref (L + 115), .ref (L + 116)]), xz 9, xz 9, xz 81, .inr (5, [.int 0, .int 0, .ref (L + 118), .ref (L + 119), .ref (L + 120)]), xz 9, xz 9, xz 81, .inr (5, [.int 0, .int 0, .ref (L + 122), .ref (L + 123), .ref (L + 124)]), xz 9, xz 9, xz 81, .inr (5, [.int 0, .int 0, .ref (L + 126), .ref (L + 127), .ref (L + 128)]), xz 9, xz 9, xz 81, .inr (5, [.int 0, .int 0, .ref (L + 130), .ref (L + 131), .ref (L + 132)]), xz 9, xz 9, xz 81, .inr (5, [.int 0, .int 0, .ref (L + 134), .ref (L + 135), .ref (L + 136)]), xz 9, xz 9, xz 81, .inr (5, [.int 0, .int 0, .ref (L + 138), .ref (L + 139), .ref (L + 140)]), xz 9, xz 9, xz 81, .inr (5, [.int 0, .int 0, .ref (L + 142), .ref (L + 143), .ref (L + 144)]), xz 9, xz 9, xz 81, .inr (5, [.int 0, .int 0, .null, .null, .null])])) dX11_init_147 rfl ok_5 w_124 w_56 w_5 nf_5 rfl (xpl hP rfl) (List.append_assoc _ _ _) (Nat.le_of_ble_eq_true rfl) (Nat.le_of_ble_eq_true rfl) ?_
  refine xi_dup dX11_init_150 rfl ?_
  refine xi_callIN (as := []) (rest := [.ref (L + 145), .ref L]) dX11_init_151 (ct_X5_init G (P ++ [.inr (8, [.ref (L + 1), .ref (L + 3), .ref (L + 5), .ref (L + 10), .ref (L + 11), .ref (L + 84), .ref (L + 90), .ref (L + 98), .ref (L + 141), .null]), .inr (1, [.ref (L + 2), .int 0]), xzb 400, .inr (1, [.ref (L + 4), .int 0]), xzb 256, .inr (6, [.ref (L + 6), .int 0, .int (-1), .ref (L + 1), .int 0, .int 0, .int 0, .int 0]), .inr (5, [.int 0, .int 0, .ref (L + 7), .ref (L + 8), .ref (L + 9)]), xz 9, xz 9, xz 81, .inl (2, 3, .inr (.inr (.inr (.inr (va_up (va_up (va_up (fun _ => none) 0 (some (L + 12))) 1 (some (L + 36))) 2 (some (L + 60))))))), .inl (3, 3, .inr (.inr (.inr (.inr (va_up (va_up (va_up (fun _ => none) 0 (some (L + 16))) 1 (some (L + 40))) 2 (some (L + 64))))))), .inr (5, [.int 0, .int 0, .ref (L + 13), .ref (L + 14), .ref (L + 15)]), xz 9, xz 9, xz 81, .inr (3, [.ref (L + 17), .ref (L + 18)]), .inl (4, 7, .inr (.inr (.inr (.inr (va_up (va_up (va_up (va_up (va_up (va_up (va_up (fun _ => none) 0 (some (L + 22))) 1 (some (L + 24))) 2 (some (L + 26))) 3 (some (L + 28))) 4 (some (L + 30))) 5 (some (L + 32))) 6 (some (L + 34))))))), .inr (5, [.int 0, .int 0, .ref (L + 19), .ref (L + 20), .ref (L + 21)]), xz 9, xz 9, xz 81, .inr (2, [.int 0, .int 0, .int 0, .int 0, .ref (L + 23)]), xz 9, .inr (2, [.int 0, .int 0, .int 0, .int 0, .ref (L + 25)]), xz 9, .inr (2, [.int 0, .int 0, .int 0, .int 0, .ref (L + 27)]), xz 9, .inr (2, [.int 0, .int 0, .int 0, .int 0, .ref (L + 29)]), xz 9, .inr (2, [.int 0, .int 0, .int 0, .int 0, .ref (L + 31)]), xz 9, .inr (2, [.int 0, .int 0, .int 0, .int 0, .ref (L + 33)]), xz 9, .inr (2, [.int 0, .int 0, .int 0, .int 0, .ref (L + 35)]), xz 9, .inr (5, [.int 0, .int 0, .ref (L + 37), .ref (L + 38), .ref (L + 39)]), xz 9, xz 9, xz 81, .inr (3, [.ref (L + 41), .ref (L + 42)]), .inl (4, 7, .inr (.inr (.inr (.inr (va_up (va_up (va_up (va_up (va_up (va_up (va_up (fun _ => none) 0 (some (L + 46))) 1 (some (L + 48))) 2 (some (L + 50))) 3 (some (L + 52))) 4 (some (L + 54))) 5 (some (L + 56))) 6 (some (L + 58))))))), .inr (5, [.int 0, .int 0, .ref (L + 43), .ref (L + 44), .ref (L + 45)]), xz 9, xz 9, xz 81, .inr (2, [.int 0, .int 0, .int 0, .int 0, .ref (L + 47)]), xz 9, .inr (2, [.int 0, .int 0, .int 0, .int 0, .ref (L + 49)]), xz 9, .inr (2, [.int 0, .int 0, .int 0, .int 0, .ref (L + 51)]), xz 9, .inr (2, [.int 0, .int 0, .int 0, .int 0, .ref (L + 53)]), xz 9, .inr (2, [.int 0, .int 0, .int 0, .int 0, .ref (L + 55)]), xz 9, .inr (2, [.int 0, .int 0, .int 0, .int 0, .ref (L + 57)]), xz 9, .inr (2, [.int 0, .int 0, .int 0, .int 0, .ref (L + 59)]), xz 9, .inr (5, [.int 0, .int 0, .ref (L + 61), .ref (L + 62), .ref (L + 63)]), xz 9, xz 9, xz 81, .inr (3, [.ref (L + 65), .ref (L + 66)]), .inl (4, 7, .inr (.inr (.inr (.inr (va_up (va_up (va_up (va_up (va_up (va_up (va_up (fun _ => none) 0 (some (L + 70))) 1 (some (L + 72))) 2 (some (L + 74))) 3 (some (L + 76))) 4 (some (L + 78))) 5 (some (L + 80))) 6 (some (L + 82))))))), .inr (5, [.int 0, .int 0, .ref (L + 67), .ref (L + 68), .ref (L + 69)]), xz 9, xz 9, xz 81, .inr (2, [.int 0, .int 0, .int 0, .int 0, .ref (L + 71)]), xz 9, .inr (2, [.int 0, .int 0, .int 0, .int 0, .ref (L + 73)]), xz 9, .inr (2, [.int 0, .int 0, .int 0, .int 0, .ref (L + 75)]), xz 9, .inr (2, [.int 0, .int 0, .int 0, .int 0, .ref (L + 77)]), xz 9, .inr (2, [.int 0, .int 0, .int 0, .int 0, .ref (L + 79)]), xz 9, .inr (2, [.int 0, .int 0, .int 0, .int 0, .ref (L + 81)]), xz 9, .inr (2, [.int 0, .int 0, .int 0, .int 0, .ref (L + 83)]), xz 9, .inr (7, [.ref (L + 85), .ref (L + 86), .ref (L + 87), .ref (L + 88), .ref (L + 89)]), xz 4608, xz 4608, xz 4608, xz 512, xz 512, .inr (0, [.ref (L + 91), .ref (L + 95), .ref (L + 96), .ref (L + 97)]), .inr (5, [.int 0, .int 0, .ref (L + 92), .ref (L + 93), .ref (L + 94)]), xz 9, xz 9, xz 81, xz 9, xz 4096, xz 4096, .inr (4, [.int 0, .int 0, .ref (L + 99), .ref (L + 100)]), xz 10, .inl (2, 10, .inr (.inr (.inr (.inr (va_up (va_up (va_up (va_up (va_up (va_up (va_up (va_up (va_up (va_up (fun _ => none) 0 (some (L + 101))) 1 (some (L + 105))) 2 (some (L + 109))) 3 (some (L + 113))) 4 (some (L + 117))) 5 (some (L + 121))) 6 (some (L + 125))) 7 (some (L + 129))) 8 (some (L + 133))) 9 (some (L + 137))))))), .inr (5, [.int 0, .int 0, .ref (L + 102), .ref (L + 103), .ref (L + 104)]), xz 9, xz 9, xz 81, .inr (5, [.int 0, .int 0, .ref (L + 106), .ref (L + 107), .ref (L + 108)]), xz 9, xz 9, xz 81, .inr (5, [.int 0, .int 0, .ref (L + 110), .ref (L + 111), .ref (L + 112)]), xz 9, xz 9, xz 81, .inr (5, [.int 0, .int 0, .ref (L + 114), .ref (L + 115), .ref (L + 116)]), xz 9, xz 9, xz 81, .inr (5, [.int 0, .int 0, .ref (L + 118), .ref (L + 119), .ref (L + 120)]), xz 9, xz 9, xz 81, .inr (5, [.int 0, .int 0, .ref (L + 122), .ref (L + 123), .ref (L + 124)]), xz 9, xz 9, xz 81, .inr (5, [.int 0, .int 0, .ref (L + 126), .ref (L + 127), .ref (L + 128)]), xz 9, xz 9, xz 81, .inr (5, [.int 0, .int 0, .ref (L + 130), .ref (L + 131), .ref (L + 132)]), xz 9, xz 9, xz 81, .inr (5, [.int 0, .int 0, .ref (L + 134), .ref (L + 135), .ref (L + 136)]), xz 9, xz 9, xz 81, .inr (5, [.int 0, .int 0, .ref (L + 138), .ref (L + 139), .ref (L + 140)]), xz 9, xz 9, xz 81, .inr (5, [.int 0, .int 0, .ref (L + 142), .ref (L + 143), .ref (L + 144)]), xz 9, xz 9, xz 81]) (L + 145) (xpl hP rfl) _ (List.append_assoc P [.inr (8, [.ref (L + 1), .ref (L + 3), .ref (L + 5), .ref (L + 10), .ref (L + 11), .ref (L + 84), .ref (L + 90), .ref (L + 98), .ref (L + 141), .null]), .inr (1, [.ref (L + 2), .int 0]), xzb 400, .inr (1, [.ref (L + 4), .int 0]), xzb 256, .inr (6, [.ref (L + 6), .int 0, .int (-1), .ref (L + 1), .int 0, .int 0, .int 0, .int 0]), .inr (5, [.int 0, .int 0, .ref (L + 7), .ref (L + 8), .ref (L + 9)]), xz 9, xz 9, xz 81, .inl (2, 3, .inr (.inr (.inr (.inr (va_up (va_up (va_up (fun _ => none) 0 (some (L + 12))) 1 (some (L + 36))) 2 (some (L + 60))))))), .inl (3, 3, .inr (.inr (.inr (.inr (va_up (va_up (va_up (fun _ => none) 0 (some (L + 16))) 1 (some (L + 40))) 2 (some (L + 64))))))), .inr (5, [.int 0, .int 0, .ref (L + 13), .ref (L + 14), .ref (L + 15)]), xz 9, xz 9, xz 81, .inr (3, [.ref (L + 17), .ref (L + 18)]), .inl (4, 7, .inr (.inr (.inr (.inr (va_up (va_up (va_up (va_up (va_up (va_up (va_up (fun _ => none) 0 (some (L + 22))) 1 (some (L + 24))) 2 (some (L + 26))) 3 (some (L + 28))) 4 (some (L + 30))) 5 (some (L + 32))) 6 (some (L + 34))))))), .inr (5, [.int 0, .int 0, .ref (L + 19), .ref (L + 20), .ref (L + 21)]), xz 9, xz 9, xz 81, .inr (2, [.int 0, .int 0, .int 0, .int 0, .ref (L + 23)]), xz 9, .inr (2, [.int 0, .int 0, .int 0, .int 0, .ref (L + 25)]), xz 9, .inr (2, [.int 0, .int 0, .int 0, .int 0, .ref (L + 27)]), xz 9, .inr (2, [.int 0, .int 0, .int 0, .int 0, .ref (L + 29)]), xz 9, .inr (2, [.int 0, .int 0, .int 0, .int 0, .ref (L + 31)]), xz 9, .inr (2, [.int 0, .int 0, .int 0, .int 0, .ref (L + 33)]), xz 9, .inr (2, [.int 0, .int 0, .int 0, .int 0, .ref (L + 35)]), xz 9, .inr (5, [.int 0, .int 0, .ref (L + 37), .ref (L + 38), .ref (L + 39)]), xz 9, xz 9, xz 81, .inr (3, [.ref (L + 41), .ref (L + 42)]), .inl (4, 7, .inr (.inr (.inr (.inr (va_up (va_up (va_up (va_up (va_up (va_up (va_up (fun _ => none) 0 (some (L + 46))) 1 (some (L + 48))) 2 (some (L + 50))) 3 (some (L + 52))) 4 (some (L + 54))) 5 (some (L + 56))) 6 (some (L + 58))))))), .inr (5, [.int 0, .int 0, .ref (L + 43), .ref (L + 44), .ref (L + 45)]), xz 9, xz 9, xz 81, .inr (2, [.int 0, .int 0, .int 0, .int 0, .ref (L + 47)]), xz 9, .inr (2, [.int 0, .int 0, .int 0, .int 0, .ref (L + 49)]), xz 9, .inr (2, [.int 0, .int 0, .int 0, .int 0, .ref (L + 51)]), xz 9, .inr (2, [.int 0, .int 0, .int 0, .int 0, .ref (L + 53)]), xz 9, .inr (2, [.int 0, .int 0, .int 0, .int 0, .ref (L + 55)]), xz 9, .inr (2, [.int 0, .int 0, .int 0, .int 0, .ref (L + 57)]), xz 9, .inr (2, [.int 0, .int 0, .int 0, .int 0, .ref (L + 59)]), xz 9, .inr (5, [.int 0, .int 0, .ref (L + 61), .ref (L + 62), .ref (L + 63)]), xz 9, xz 9, xz 81, .inr (3, [.ref (L + 65), .ref (L + 66)]), .inl (4, 7, .inr (.inr (.inr (.inr (va_up (va_up (va_up (va_up (va_up (va_up (va_up (fun _ => none) 0 (some (L + 70))) 1 (some (L + 72))) 2 (some (L + 74))) 3 (some (L + 76))) 4 (some (L + 78))) 5 (some (L + 80))) 6 (some (L + 82))))))), .inr (5, [.int 0, .int 0, .ref (L + 67), .ref (L + 68), .ref (L + 69)]), xz 9, xz 9, xz 81, .inr (2, [.int 0, .int 0, .int 0, .int 0, .ref (L + 71)]), xz 9, .inr (2, [.int 0, .int 0, .int 0, .int 0, .ref (L + 73)]), xz 9, .inr (2, [.int 0, .int 0, .int 0, .int 0, .ref (L + 75)]), xz 9, .inr (2, [.int 0, .int 0, .int 0, .int 0, .ref (L + 77)]), xz 9, .inr (2, [.int 0, .int 0, .int 0, .int 0, .ref (L + 79)]), xz 9, .inr (2, [.int 0, .int 0, .int 0, .int 0, .ref (L + 81)]), xz 9, .inr (2, [.int 0, .int 0, .int 0, .int 0, .ref (L + 83)]), xz 9, .inr (7, [.ref (L + 85), .ref (L + 86), .ref (L + 87), .ref (L + 88), .ref (L + 89)]), xz 4608, xz 4608, xz 4608, xz 512, xz 512, .inr (0, [.ref (L + 91), .ref (L + 95), .ref (L + 96), .ref (L + 97)]), .inr (5, [.int 0, .int 0, .ref (L + 92), .ref (L + 93), .ref (L + 94)]), xz 9, xz 9, xz 81, xz 9, xz 4096, xz 4096, .inr (4, [.int 0, .int 0, .ref (L + 99), .ref (L + 100)]), xz 10, .inl (2, 10, .inr (.inr (.inr (.inr (va_up (va_up (va_up (va_up (va_up (va_up (va_up (va_up (va_up (va_up (fun _ => none) 0 (some (L + 101))) 1 (some (L + 105))) 2 (some (L + 109))) 3 (some (L + 113))) 4 (some (L + 117))) 5 (some (L + 121))) 6 (some (L + 125))) 7 (some (L + 129))) 8 (some (L + 133))) 9 (some (L + 137))))))), .inr (5, [.int 0, .int 0, .ref (L + 102), .ref (L + 103), .ref (L + 104)]), xz 9, xz 9, xz 81, .inr (5, [.int 0, .int 0, .ref (L + 106), .ref (L + 107), .ref (L + 108)]), xz 9, xz 9, xz 81, .inr (5, [.int 0, .int 0, .ref (L + 110), .ref (L + 111), .ref (L + 112)]), xz 9, xz 9, xz 81, .inr (5, [.int 0, .int 0, .ref (L + 114), .ref (L + 115), .ref (L + 116)]), xz 9, xz 9, xz 81, .inr (5, [.int 0, .int 0, .ref (L + 118), .ref (L + 119), .ref (L + 120)]), xz 9, xz 9, xz 81, .inr (5, [.int 0, .int 0, .ref (L + 122), .ref (L + 123), .ref (L + 124)]), xz 9, xz 9, xz 81, .inr (5, [.int 0, .int 0, .ref (L + 126), .ref (L + 127), .ref (L + 128)]), xz 9, xz 9, xz 81, .inr (5, [.int 0, .int 0, .ref (L + 130), .ref (L + 131), .ref (L + 132)]), xz 9, xz 9, xz 81, .inr (5, [.int 0, .int 0, .ref (L + 134), .ref (L + 135), .ref (L + 136)]), xz 9, xz 9, xz 81, .inr (5, [.int 0, .int 0, .ref (L + 138), .ref (L + 139), .ref (L + 140)]), xz 9, xz 9, xz 81, .inr (5, [.int 0, .int 0, .ref (L + 142), .ref (L + 143), .ref (L + 144)]), xz 9, xz 9, xz 81] _).symm ) mkX5_init w_58 wn_128 rfl rfl rfl rfl (Nat.le_of_ble_eq_true rfl) (Nat.le_of_ble_eq_true rfl) (Nat.le_of_ble_eq_true rfl) (Nat.le_of_ble_eq_true rfl) (Nat.le_of_ble_eq_true rfl) ?_
  intro v M2 hq
  obtain ⟨rfl, hM2⟩ := hq
  rw [List.append_assoc] at hM2
  subst hM2
  show xW _ _ _ _ 154 _ [.ref (L + 145), .ref L] (P ++ [.inr (8, [.ref (L + 1), .ref (L + 3), .ref (L + 5), .ref (L + 10), .ref (L + 11), .ref (L + 84), .ref (L + 90), .ref (L + 98), .ref (L + 141), .null]), .inr (1, [.ref (L + 2), .int 0]), xzb 400, .inr (1, [.ref (L + 4), .int 0]), xzb 256, .inr (6, [.ref (L + 6), .int 0, .int (-1), .ref (L + 1), .int 0, .int 0, .int 0, .int 0]), .inr (5, [.int 0, .int 0, .ref (L + 7), .ref (L + 8), .ref (L + 9)]), xz 9, xz 9, xz 81, .inl (2, 3, .inr (.inr (.inr (.inr (va_up (va_up (va_up (fun _ => none) 0 (some (L + 12))) 1 (some (L + 36))) 2 (some (L + 60))))))), .inl (3, 3, .inr (.inr (.inr (.inr (va_up (va_up (va_up (fun _ => none) 0 (some (L + 16))) 1 (some (L + 40))) 2 (some (L + 64))))))), .inr (5, [.int 0, .int 0, .ref (L + 13), .ref (L + 14), .ref (L + 15)]), xz 9, xz 9, xz 81, .inr (3, [.ref (L + 17), .ref (L + 18)]), .inl (4, 7, .inr (.inr (.inr (.inr (va_up (va_up (va_up (va_up (va_up (va_up (va_up (fun _ => none) 0 (some (L + 22))) 1 (some (L + 24))) 2 (some (L + 26))) 3 (some (L + 28))) 4 (some (L + 30))) 5 (some (L + 32))) 6 (some (L + 34))))))), .inr (5, [.int 0, .int 0, .ref (L + 19), .ref (L + 20), .ref (L + 21)]), xz 9, xz 9, xz 81, .inr (2, [.int 0, .int 0, .int 0, .int 0, .ref (L + 23)]), xz 9, .inr (2, [.int 0, .int 0, .int 0, .int 0, .ref (L + 25)]), xz 9, .inr (2, [.int 0, .int 0, .int 0, .int 0, .ref (L + 27)]), xz 9, .inr (2, [.int 0, .int 0, .int 0, .int 0, .ref (L + 29)]), xz 9, .inr (2, [.int 0, .int 0, .int 0, .int 0, .ref (L + 31)]), xz 9, .inr (2, [.int 0, .int 0, .int 0, .int 0, .ref (L + 33)]), xz 9, .inr (2, [.int 0, .int 0, .int 0, .int 0, .ref (L + 35)]), xz 9, .inr (5, [.int 0, .int 0, .ref (L + 37), .ref (L + 38), .ref (L + 39)]), xz 9, xz 9, xz 81, .inr (3, [.ref (L + 41), .ref (L + 42)]), .inl (4, 7, .inr (.inr (.inr (.inr (va_up (va_up (va_up (va_up (va_up (va_up (va_up (fun _ => none) 0 (some (L + 46))) 1 (some (L + 48))) 2 (some (L + 50))) 3 (some (L + 52))) 4 (some (L + 54))) 5 (some (L + 56))) 6 (some (L + 58))))))), .inr (5, [.int 0, .int 0, .ref (L + 43), .ref (L + 44), .ref (L + 45)]), xz 9, xz 9, xz 81, .inr (2, [.int 0, .int 0, .int 0, .int 0, .ref (L + 47)]), xz 9, .inr (2, [.int 0, .int 0, .int 0, .int 0, .ref (L + 49)]), xz 9, .inr (2, [.int 0, .int 0, .int 0, .int 0, .ref (L + 51)]), xz 9, .inr (2, [.int 0, .int 0, .int 0, .int 0, .ref (L + 53)]), xz 9, .inr (2, [.int 0, .int 0, .int 0, .int 0, .ref (L + 55)]), xz 9, .inr (2, [.int 0, .int 0, .int 0, .int 0, .ref (L + 57)]), xz 9, .inr (2, [.int 0, .int 0, .int 0, .int 0, .ref (L + 59)]), xz 9, .inr (5, [.int 0, .int 0, .ref (L + 61), .ref (L + 62), .ref (L + 63)]), xz 9, xz 9, xz 81, .inr (3, [.ref (L + 65), .ref (L + 66)]), .inl (4, 7, .inr (.inr (.inr (.inr (va_up (va_up (va_up (va_up (va_up (va_up (va_up (fun _ => none) 0 (some (L + 70))) 1 (some (L + 72))) 2 (some (L + 74))) 3 (some (L + 76))) 4 (some (L + 78))) 5 (some (L + 80))) 6 (some (L + 82))))))), .inr (5, [.int 0, .int 0, .ref (L + 67), .ref (L + 68), .ref (L + 69)]), xz 9, xz 9, xz 81, .inr (2, [.int 0, .int 0, .int 0, .int 0, .ref (L + 71)]), xz 9, .inr (2, [.int 0, .int 0, .int 0, .int 0, .ref (L + 73)]), xz 9, .inr (2, [.int 0, .int 0, .int 0, .int 0, .ref (L + 75)]), xz 9, .inr (2, [.int 0, .int 0, .int 0, .int 0, .ref (L + 77)]), xz 9, .inr (2, [.int 0, .int 0, .int 0, .int 0, .ref (L + 79)]), xz 9, .inr (2, [.int 0, .int 0, .int 0, .int 0, .ref (L + 81)]), xz 9, .inr (2, [.int 0, .int 0, .int 0, .int 0, .ref (L + 83)]), xz 9, .inr (7, [.ref (L + 85), .ref (L + 86), .ref (L + 87), .ref (L + 88), .ref (L + 89)]), xz 4608, xz 4608, xz 4608, xz 512, xz 512, .inr (0, [.ref (L + 91), .ref (L + 95), .ref (L + 96), .ref (L + 97)]), .inr (5, [.int 0, .int 0, .ref (L + 92), .ref (L + 93), .ref (L + 94)]), xz 9, xz 9, xz 81, xz 9, xz 4096, xz 4096, .inr (4, [.int 0, .int 0, .ref (L + 99), .ref (L + 100)]), xz 10, .inl (2, 10, .inr (.inr (.inr (.inr (va_up (va_up (va_up (va_up (va_up (va_up (va_up (va_up (va_up (va_up (fun _ => none) 0 (some (L + 101))) 1 (some (L + 105))) 2 (some (L + 109))) 3 (some (L + 113))) 4 (some (L + 117))) 5 (some (L + 121))) 6 (some (L + 125))) 7 (some (L + 129))) 8 (some (L + 133))) 9 (some (L + 137))))))), .inr (5, [.int 0, .int 0, .ref (L + 102), .ref (L + 103), .ref (L + 104)]), xz 9, xz 9, xz 81, .inr (5, [.int 0, .int 0, .ref (L + 106), .ref (L + 107), .ref (L + 108)]), xz 9, xz 9, xz 81, .inr (5, [.int 0, .int 0, .ref (L + 110), .ref (L + 111), .ref (L + 112)]), xz 9, xz 9, xz 81, .inr (5, [.int 0, .int 0, .ref (L + 114), .ref (L + 115), .ref (L + 116)]), xz 9, xz 9, xz 81, .inr (5, [.int 0, .int 0, .ref (L + 118), .ref (L + 119), .ref (L + 120)]), xz 9, xz 9, xz 81, .inr (5, [.int 0, .int 0, .ref (L + 122), .ref (L + 123), .ref (L + 124)]), xz 9, xz 9, xz 81, .inr (5, [.int 0, .int 0, .ref (L + 126), .ref (L + 127), .ref (L + 128)]), xz 9, xz 9, xz 81, .inr (5, [.int 0, .int 0, .ref (L + 130), .ref (L + 131), .ref (L + 132)]), xz 9, xz 9, xz 81, .inr (5, [.int 0, .int 0, .ref (L + 134), .ref (L + 135), .ref (L + 136)]), xz 9, xz 9, xz 81, .inr (5, [.int 0, .int 0, .ref (L + 138), .ref (L + 139), .ref (L + 140)]), xz 9, xz 9, xz 81, .inr (5, [.int 0, .int 0, .ref (L + 142), .ref (L + 143), .ref (L + 144)]), xz 9, xz 9, xz 81, .inr (5, [.int 0, .int 0, .ref (L + 146), .ref (L + 147), .ref (L + 148)]), xz 9, xz 9, xz 81]) _ _
  refine xi_putF (f := 9) (ty := (.object "ThinRow$Net")) (M' := (P ++ [.inr (8, [.ref (L + 1), .ref (L + 3), .ref (L + 5), .ref (L + 10), .ref (L + 11), .ref (L + 84), .ref (L + 90), .ref (L + 98), .ref (L + 141), .ref (L + 145)]), .inr (1, [.ref (L + 2), .int 0]), xzb 400, .inr (1, [.ref (L + 4), .int 0]), xzb 256, .inr (6, [.ref (L + 6), .int 0, .int (-1), .ref (L + 1), .int 0, .int 0, .int 0, .int 0]), .inr (5, [.int 0, .int 0, .ref (L + 7), .ref (L + 8), .ref (L + 9)]), xz 9, xz 9, xz 81, .inl (2, 3, .inr (.inr (.inr (.inr (va_up (va_up (va_up (fun _ => none) 0 (some (L + 12))) 1 (some (L + 36))) 2 (some (L + 60))))))), .inl (3, 3, .inr (.inr (.inr (.inr (va_up (va_up (va_up (fun _ => none) 0 (some (L + 16))) 1 (some (L + 40))) 2 (some (L + 64))))))), .inr (5, [.int 0, .int 0, .ref (L + 13), .ref (L + 14), .ref (L + 15)]), xz 9, xz 9, xz 81, .inr (3, [.ref (L + 17), .ref (L + 18)]), .inl (4, 7, .inr (.inr (.inr (.inr (va_up (va_up (va_up (va_up (va_up (va_up (va_up (fun _ => none) 0 (some (L + 22))) 1 (some (L + 24))) 2 (some (L + 26))) 3 (some (L + 28))) 4 (some (L + 30))) 5 (some (L + 32))) 6 (some (L + 34))))))), .inr (5, [.int 0, .int 0, .ref (L + 19), .ref (L + 20), .ref (L + 21)]), xz 9, xz 9, xz 81, .inr (2, [.int 0, .int 0, .int 0, .int 0, .ref (L + 23)]), xz 9, .inr (2, [.int 0, .int 0, .int 0, .int 0, .ref (L + 25)]), xz 9, .inr (2, [.int 0, .int 0, .int 0, .int 0, .ref (L + 27)]), xz 9, .inr (2, [.int 0, .int 0, .int 0, .int 0, .ref (L + 29)]), xz 9, .inr (2, [.int 0, .int 0, .int 0, .int 0, .ref (L + 31)]), xz 9, .inr (2, [.int 0, .int 0, .int 0, .int 0, .ref (L + 33)]), xz 9, .inr (2, [.int 0, .int 0, .int 0, .int 0, .ref (L + 35)]), xz 9, .inr (5, [.int 0, .int 0, .ref (L + 37), .ref (L + 38), .ref (L + 39)]), xz 9, xz 9, xz 81, .inr (3, [.ref (L + 41), .ref (L + 42)]), .inl (4, 7, .inr (.inr (.inr (.inr (va_up (va_up (va_up (va_up (va_up (va_up (va_up (fun _ => none) 0 (some (L + 46))) 1 (some (L + 48))) 2 (some (L + 50))) 3 (some (L + 52))) 4 (some (L + 54))) 5 (some (L + 56))) 6 (some (L + 58))))))), .inr (5, [.int 0, .int 0, .ref (L + 43), .ref (L + 44), .ref (L + 45)]), xz 9, xz 9, xz 81, .inr (2, [.int 0, .int 0, .int 0, .int 0, .ref (L + 47)]), xz 9, .inr (2, [.int 0, .int 0, .int 0, .int 0, .ref (L + 49)]), xz 9, .inr (2, [.int 0, .int 0, .int 0, .int 0, .ref (L + 51)]), xz 9, .inr (2, [.int 0, .int 0, .int 0, .int 0, .ref (L + 53)]), xz 9, .inr (2, [.int 0, .int 0, .int 0, .int 0, .ref (L + 55)]), xz 9, .inr (2, [.int 0, .int 0, .int 0, .int 0, .ref (L + 57)]), xz 9, .inr (2, [.int 0, .int 0, .int 0, .int 0, .ref (L + 59)]), xz 9, .inr (5, [.int 0, .int 0, .ref (L + 61), .ref (L + 62), .ref (L + 63)]), xz 9, xz 9, xz 81, .inr (3, [.ref (L + 65), .ref (L + 66)]), .inl (4, 7, .inr (.inr (.inr (.inr (va_up (va_up (va_up (va_up (va_up (va_up (va_up (fun _ => none) 0 (some (L + 70))) 1 (some (L + 72))) 2 (some (L + 74))) 3 (some (L + 76))) 4 (some (L + 78))) 5 (some (L + 80))) 6 (some (L + 82))))))), .inr (5, [.int 0, .int 0, .ref (L + 67), .ref (L + 68), .ref (L + 69)]), xz 9, xz 9, xz 81, .inr (2, [.int 0, .int 0, .int 0, .int 0, .ref (L + 71)]), xz 9, .inr (2, [.int 0, .int 0, .int 0, .int 0, .ref (L + 73)]), xz 9, .inr (2, [.int 0, .int 0, .int 0, .int 0, .ref (L + 75)]), xz 9, .inr (2, [.int 0, .int 0, .int 0, .int 0, .ref (L + 77)]), xz 9, .inr (2, [.int 0, .int 0, .int 0, .int 0, .ref (L + 79)]), xz 9, .inr (2, [.int 0, .int 0, .int 0, .int 0, .ref (L + 81)]), xz 9, .inr (2, [.int 0, .int 0, .int 0, .int 0, .ref (L + 83)]), xz 9, .inr (7, [.ref (L + 85), .ref (L + 86), .ref (L + 87), .ref (L + 88), .ref (L + 89)]), xz 4608, xz 4608, xz 4608, xz 512, xz 512, .inr (0, [.ref (L + 91), .ref (L + 95), .ref (L + 96), .ref (L + 97)]), .inr (5, [.int 0, .int 0, .ref (L + 92), .ref (L + 93), .ref (L + 94)]), xz 9, xz 9, xz 81, xz 9, xz 4096, xz 4096, .inr (4, [.int 0, .int 0, .ref (L + 99), .ref (L + 100)]), xz 10, .inl (2, 10, .inr (.inr (.inr (.inr (va_up (va_up (va_up (va_up (va_up (va_up (va_up (va_up (va_up (va_up (fun _ => none) 0 (some (L + 101))) 1 (some (L + 105))) 2 (some (L + 109))) 3 (some (L + 113))) 4 (some (L + 117))) 5 (some (L + 121))) 6 (some (L + 125))) 7 (some (L + 129))) 8 (some (L + 133))) 9 (some (L + 137))))))), .inr (5, [.int 0, .int 0, .ref (L + 102), .ref (L + 103), .ref (L + 104)]), xz 9, xz 9, xz 81, .inr (5, [.int 0, .int 0, .ref (L + 106), .ref (L + 107), .ref (L + 108)]), xz 9, xz 9, xz 81, .inr (5, [.int 0, .int 0, .ref (L + 110), .ref (L + 111), .ref (L + 112)]), xz 9, xz 9, xz 81, .inr (5, [.int 0, .int 0, .ref (L + 114), .ref (L + 115), .ref (L + 116)]), xz 9, xz 9, xz 81, .inr (5, [.int 0, .int 0, .ref (L + 118), .ref (L + 119), .ref (L + 120)]), xz 9, xz 9, xz 81, .inr (5, [.int 0, .int 0, .ref (L + 122), .ref (L + 123), .ref (L + 124)]), xz 9, xz 9, xz 81, .inr (5, [.int 0, .int 0, .ref (L + 126), .ref (L + 127), .ref (L + 128)]), xz 9, xz 9, xz 81, .inr (5, [.int 0, .int 0, .ref (L + 130), .ref (L + 131), .ref (L + 132)]), xz 9, xz 9, xz 81, .inr (5, [.int 0, .int 0, .ref (L + 134), .ref (L + 135), .ref (L + 136)]), xz 9, xz 9, xz 81, .inr (5, [.int 0, .int 0, .ref (L + 138), .ref (L + 139), .ref (L + 140)]), xz 9, xz 9, xz 81, .inr (5, [.int 0, .int 0, .ref (L + 142), .ref (L + 143), .ref (L + 144)]), xz 9, xz 9, xz 81, .inr (5, [.int 0, .int 0, .ref (L + 146), .ref (L + 147), .ref (L + 148)]), xz 9, xz 9, xz 81])) dX11_init_154 (xpg0 hP rfl) rfl ok_8 (by decide) w_251 rfl rfl rfl pf_LThinRow_Net_ (fun _ h => by cases h) rfl rfl (Nat.le_of_ble_eq_true rfl) (xps0 hP) ?_
  exact xi_vret dX11_init_157 rfl (Nat.le_of_ble_eq_true rfl) (Nat.le_of_ble_eq_true rfl) ⟨rfl, rfl⟩
set_option maxHeartbeats 4000000 in
set_option maxRecDepth 100000 in
theorem ct_X12_init (G : xG) (P : xMem) (L : Nat) (hP : P.length = L) (M : xMem) (hM : M = P ++ [.inr (9, [.null, .null, .null, .int 0, .null, .int 0, .int 0, .int 0, .int 0, .int 0, .int 0, .int 0, .int 0, .null, .null, .null, .null, .int 0, .int 0, .int 0, .null, .null, .null, .null, .null, .int 0])]) : xC G mX12_init 0 13 9825 [.ref L] M (fun v M2 => v = none ∧ M2 = (P ++ [.inr (9, [.ref (L + 1), .ref (L + 2), .ref (L + 3), .int 0, .ref (L + 4), .int 0, .int 0, .int (-1), .int 0, .int 0, .int 0, .int 0, .int 0, .ref (L + 5), .ref (L + 6), .ref (L + 7), .ref (L + 8), .int 0, .int 0, .int 0, .ref (L + 9), .ref (L + 10), .ref (L + 11), .ref (L + 12), .ref (L + 13), .int 0]), xz 273, xz 273, xz 2730, xz 400, xz 9, xz 512, xz 512, xz 4608, xz 9, xz 9, xz 9, xz 81, xz 400])) := by
  subst hM
  refine xC.of (by decide) (Nat.le_of_ble_eq_true rfl) ?_
  show xW _ _ _ _ 0 [(0, .ref L)] [] _ 0 0
  refine xi_aload_n 0 dX12_init_0 rfl ?_
  refine xi_obj dX12_init_1 w_1007 w_28 w_obj (Nat.le_of_ble_eq_true rfl) (Nat.le_of_ble_eq_true rfl) (Nat.le_of_ble_eq_true rfl) ?_
  refine xi_aload_n 0 dX12_init_4 rfl ?_
  refine xi_sipush (v := 273) dX12_init_5 (by decide) ?_
  refine xi_newI (i := (L + 1)) (N := 273) (M' := (P ++ [.inr (9, [.null, .null, .null, .int 0, .null, .int 0, .int 0, .int 0, .int 0, .int 0, .int 0, .int 0, .int 0, .null, .null, .null, .null, .int 0, .int 0, .int 0, .null, .null, .null, .null, .null, .int 0]), xz 273])) dX12_init_8 w_95 (by decide) (by decide) (Nat.le_of_ble_eq_true rfl) (xpl hP rfl) (List.append_assoc _ _ _) (Nat.le_of_ble_eq_true rfl) (Nat.le_of_ble_eq_true rfl) ?_
  refine xi_putF (f := 0) (ty := (.array .int)) (M' := (P ++ [.inr (9, [.ref (L + 1), .null, .null, .int 0, .null, .int 0, .int 0, .int 0, .int 0, .int 0, .int 0, .int 0, .int 0, .null, .null, .null, .null, .int 0, .int 0, .int 0, .null, .null, .null, .null, .null, .int 0]), xz 273])) dX12_init_10 (xpg0 hP rfl) rfl ok_9 (by decide) w_1008 rfl rfl rfl pf__I (fun _ h => by cases h) rfl rfl (Nat.le_of_ble_eq_true rfl) (xps0 hP) ?_
  refine xi_aload_n 0 dX12_init_13 rfl ?_
  refine xi_sipush (v := 273) dX12_init_14 (by decide) ?_
  refine xi_newI (i := (L + 2)) (N := 273) (M' := (P ++ [.inr (9, [.ref (L + 1), .null, .null, .int 0, .null, .int 0, .int 0, .int 0, .int 0, .int 0, .int 0, .int 0, .int 0, .null, .null, .null, .null, .int 0, .int 0, .int 0, .null, .null, .null, .null, .null, .int 0]), xz 273, xz 273])) dX12_init_17 w_95 (by decide) (by decide) (Nat.le_of_ble_eq_true rfl) (xpl hP rfl) (List.append_assoc _ _ _) (Nat.le_of_ble_eq_true rfl) (Nat.le_of_ble_eq_true rfl) ?_
  refine xi_putF (f := 1) (ty := (.array .int)) (M' := (P ++ [.inr (9, [.ref (L + 1), .ref (L + 2), .null, .int 0, .null, .int 0, .int 0, .int 0, .int 0, .int 0, .int 0, .int 0, .int 0, .null, .null, .null, .null, .int 0, .int 0, .int 0, .null, .null, .null, .null, .null, .int 0]), xz 273, xz 273])) dX12_init_19 (xpg0 hP rfl) rfl ok_9 (by decide) w_1009 rfl rfl rfl pf__I (fun _ h => by cases h) rfl rfl (Nat.le_of_ble_eq_true rfl) (xps0 hP) ?_
  refine xi_aload_n 0 dX12_init_22 rfl ?_
  refine xi_sipush (v := 2730) dX12_init_23 (by decide) ?_
  refine xi_newI (i := (L + 3)) (N := 2730) (M' := (P ++ [.inr (9, [.ref (L + 1), .ref (L + 2), .null, .int 0, .null, .int 0, .int 0, .int 0, .int 0, .int 0, .int 0, .int 0, .int 0, .null, .null, .null, .null, .int 0, .int 0, .int 0, .null, .null, .null, .null, .null, .int 0]), xz 273, xz 273, xz 2730])) dX12_init_26 w_95 (by decide) (by decide) (Nat.le_of_ble_eq_true rfl) (xpl hP rfl) (List.append_assoc _ _ _) (Nat.le_of_ble_eq_true rfl) (Nat.le_of_ble_eq_true rfl) ?_
  refine xi_putF (f := 2) (ty := (.array .int)) (M' := (P ++ [.inr (9, [.ref (L + 1), .ref (L + 2), .ref (L + 3), .int 0, .null, .int 0, .int 0, .int 0, .int 0, .int 0, .int 0, .int 0, .int 0, .null, .null, .null, .null, .int 0, .int 0, .int 0, .null, .null, .null, .null, .null, .int 0]), xz 273, xz 273, xz 2730])) dX12_init_28 (xpg0 hP rfl) rfl ok_9 (by decide) w_1010 rfl rfl rfl pf__I (fun _ h => by cases h) rfl rfl (Nat.le_of_ble_eq_true rfl) (xps0 hP) ?_
  refine xi_aload_n 0 dX12_init_31 rfl ?_
  refine xi_sipush (v := 400) dX12_init_32 (by decide) ?_
  refine xi_newI (i := (L + 4)) (N := 400) (M' := (P ++ [.inr (9, [.ref (L + 1), .ref (L + 2), .ref (L + 3), .int 0, .null, .int 0, .int 0, .int 0, .int 0, .int 0, .int 0, .int 0, .int 0, .null, .null, .null, .null, .int 0, .int 0, .int 0, .null, .null, .null, .null, .null, .int 0]), xz 273, xz 273, xz 2730, xz 400])) dX12_init_35 w_95 (by decide) (by decide) (Nat.le_of_ble_eq_true rfl) (xpl hP rfl) (List.append_assoc _ _ _) (Nat.le_of_ble_eq_true rfl) (Nat.le_of_ble_eq_true rfl) ?_
  refine xi_putF (f := 4) (ty := (.array .int)) (M' := (P ++ [.inr (9, [.ref (L + 1), .ref (L + 2), .ref (L + 3), .int 0, .ref (L + 4), .int 0, .int 0, .int 0, .int 0, .int 0, .int 0, .int 0, .int 0, .null, .null, .null, .null, .int 0, .int 0, .int 0, .null, .null, .null, .null, .null, .int 0]), xz 273, xz 273, xz 2730, xz 400])) dX12_init_37 (xpg0 hP rfl) rfl ok_9 (by decide) w_1012 rfl rfl rfl pf__I (fun _ h => by cases h) rfl rfl (Nat.le_of_ble_eq_true rfl) (xps0 hP) ?_
  refine xi_aload_n 0 dX12_init_40 rfl ?_
  refine xi_iconst (v := (-1)) dX12_init_41 (by decide) ?_
  refine xi_put (f := 7) (ty := .int) (M' := (P ++ [.inr (9, [.ref (L + 1), .ref (L + 2), .ref (L + 3), .int 0, .ref (L + 4), .int 0, .int 0, .int (-1), .int 0, .int 0, .int 0, .int 0, .int 0, .null, .null, .null, .null, .int 0, .int 0, .int 0, .null, .null, .null, .null, .null, .int 0]), xz 273, xz 273, xz 2730, xz 400])) dX12_init_42 (xpg0 hP rfl) rfl ok_9 (by decide) w_1015 rfl pf_I (fun _ h => by cases h) rfl rfl (Nat.le_of_ble_eq_true rfl) (xps0 hP) ?_
  refine xi_aload_n 0 dX12_init_45 rfl ?_
  refine xi_bipush (v := 9) dX12_init_46 (by decide) ?_
  refine xi_newI (i := (L + 5)) (N := 9) (M' := (P ++ [.inr (9, [.ref (L + 1), .ref (L + 2), .ref (L + 3), .int 0, .ref (L + 4), .int 0, .int 0, .int (-1), .int 0, .int 0, .int 0, .int 0, .int 0, .null, .null, .null, .null, .int 0, .int 0, .int 0, .null, .null, .null, .null, .null, .int 0]), xz 273, xz 273, xz 2730, xz 400, xz 9])) dX12_init_48 w_95 (by decide) (by decide) (Nat.le_of_ble_eq_true rfl) (xpl hP rfl) (List.append_assoc _ _ _) (Nat.le_of_ble_eq_true rfl) (Nat.le_of_ble_eq_true rfl) ?_
  refine xi_putF (f := 13) (ty := (.array .int)) (M' := (P ++ [.inr (9, [.ref (L + 1), .ref (L + 2), .ref (L + 3), .int 0, .ref (L + 4), .int 0, .int 0, .int (-1), .int 0, .int 0, .int 0, .int 0, .int 0, .ref (L + 5), .null, .null, .null, .int 0, .int 0, .int 0, .null, .null, .null, .null, .null, .int 0]), xz 273, xz 273, xz 2730, xz 400, xz 9])) dX12_init_50 (xpg0 hP rfl) rfl ok_9 (by decide) w_1021 rfl rfl rfl pf__I (fun _ h => by cases h) rfl rfl (Nat.le_of_ble_eq_true rfl) (xps0 hP) ?_
  refine xi_aload_n 0 dX12_init_53 rfl ?_
  refine xi_sipush (v := 512) dX12_init_54 (by decide) ?_
  refine xi_newI (i := (L + 6)) (N := 512) (M' := (P ++ [.inr (9, [.ref (L + 1), .ref (L + 2), .ref (L + 3), .int 0, .ref (L + 4), .int 0, .int 0, .int (-1), .int 0, .int 0, .int 0, .int 0, .int 0, .ref (L + 5), .null, .null, .null, .int 0, .int 0, .int 0, .null, .null, .null, .null, .null, .int 0]), xz 273, xz 273, xz 2730, xz 400, xz 9, xz 512])) dX12_init_57 w_95 (by decide) (by decide) (Nat.le_of_ble_eq_true rfl) (xpl hP rfl) (List.append_assoc _ _ _) (Nat.le_of_ble_eq_true rfl) (Nat.le_of_ble_eq_true rfl) ?_
  refine xi_putF (f := 14) (ty := (.array .int)) (M' := (P ++ [.inr (9, [.ref (L + 1), .ref (L + 2), .ref (L + 3), .int 0, .ref (L + 4), .int 0, .int 0, .int (-1), .int 0, .int 0, .int 0, .int 0, .int 0, .ref (L + 5), .ref (L + 6), .null, .null, .int 0, .int 0, .int 0, .null, .null, .null, .null, .null, .int 0]), xz 273, xz 273, xz 2730, xz 400, xz 9, xz 512])) dX12_init_59 (xpg0 hP rfl) rfl ok_9 (by decide) w_1022 rfl rfl rfl pf__I (fun _ h => by cases h) rfl rfl (Nat.le_of_ble_eq_true rfl) (xps0 hP) ?_
  refine xi_aload_n 0 dX12_init_62 rfl ?_
  refine xi_sipush (v := 512) dX12_init_63 (by decide) ?_
  refine xi_newI (i := (L + 7)) (N := 512) (M' := (P ++ [.inr (9, [.ref (L + 1), .ref (L + 2), .ref (L + 3), .int 0, .ref (L + 4), .int 0, .int 0, .int (-1), .int 0, .int 0, .int 0, .int 0, .int 0, .ref (L + 5), .ref (L + 6), .null, .null, .int 0, .int 0, .int 0, .null, .null, .null, .null, .null, .int 0]), xz 273, xz 273, xz 2730, xz 400, xz 9, xz 512, xz 512])) dX12_init_66 w_95 (by decide) (by decide) (Nat.le_of_ble_eq_true rfl) (xpl hP rfl) (List.append_assoc _ _ _) (Nat.le_of_ble_eq_true rfl) (Nat.le_of_ble_eq_true rfl) ?_
  refine xi_putF (f := 15) (ty := (.array .int)) (M' := (P ++ [.inr (9, [.ref (L + 1), .ref (L + 2), .ref (L + 3), .int 0, .ref (L + 4), .int 0, .int 0, .int (-1), .int 0, .int 0, .int 0, .int 0, .int 0, .ref (L + 5), .ref (L + 6), .ref (L + 7), .null, .int 0, .int 0, .int 0, .null, .null, .null, .null, .null, .int 0]), xz 273, xz 273, xz 2730, xz 400, xz 9, xz 512, xz 512])) dX12_init_68 (xpg0 hP rfl) rfl ok_9 (by decide) w_1023 rfl rfl rfl pf__I (fun _ h => by cases h) rfl rfl (Nat.le_of_ble_eq_true rfl) (xps0 hP) ?_
  refine xi_aload_n 0 dX12_init_71 rfl ?_
  refine xi_sipush (v := 4608) dX12_init_72 (by decide) ?_
  refine xi_newI (i := (L + 8)) (N := 4608) (M' := (P ++ [.inr (9, [.ref (L + 1), .ref (L + 2), .ref (L + 3), .int 0, .ref (L + 4), .int 0, .int 0, .int (-1), .int 0, .int 0, .int 0, .int 0, .int 0, .ref (L + 5), .ref (L + 6), .ref (L + 7), .null, .int 0, .int 0, .int 0, .null, .null, .null, .null, .null, .int 0]), xz 273, xz 273, xz 2730, xz 400, xz 9, xz 512, xz 512, xz 4608])) dX12_init_75 w_95 (by decide) (by decide) (Nat.le_of_ble_eq_true rfl) (xpl hP rfl) (List.append_assoc _ _ _) (Nat.le_of_ble_eq_true rfl) (Nat.le_of_ble_eq_true rfl) ?_
  refine xi_putF (f := 16) (ty := (.array .int)) (M' := (P ++ [.inr (9, [.ref (L + 1), .ref (L + 2), .ref (L + 3), .int 0, .ref (L + 4), .int 0, .int 0, .int (-1), .int 0, .int 0, .int 0, .int 0, .int 0, .ref (L + 5), .ref (L + 6), .ref (L + 7), .ref (L + 8), .int 0, .int 0, .int 0, .null, .null, .null, .null, .null, .int 0]), xz 273, xz 273, xz 2730, xz 400, xz 9, xz 512, xz 512, xz 4608])) dX12_init_77 (xpg0 hP rfl) rfl ok_9 (by decide) w_1024 rfl rfl rfl pf__I (fun _ h => by cases h) rfl rfl (Nat.le_of_ble_eq_true rfl) (xps0 hP) ?_
  refine xi_aload_n 0 dX12_init_80 rfl ?_
  refine xi_bipush (v := 9) dX12_init_81 (by decide) ?_
  refine xi_newI (i := (L + 9)) (N := 9) (M' := (P ++ [.inr (9, [.ref (L + 1), .ref (L + 2), .ref (L + 3), .int 0, .ref (L + 4), .int 0, .int 0, .int (-1), .int 0, .int 0, .int 0, .int 0, .int 0, .ref (L + 5), .ref (L + 6), .ref (L + 7), .ref (L + 8), .int 0, .int 0, .int 0, .null, .null, .null, .null, .null, .int 0]), xz 273, xz 273, xz 2730, xz 400, xz 9, xz 512, xz 512, xz 4608, xz 9])) dX12_init_83 w_95 (by decide) (by decide) (Nat.le_of_ble_eq_true rfl) (xpl hP rfl) (List.append_assoc _ _ _) (Nat.le_of_ble_eq_true rfl) (Nat.le_of_ble_eq_true rfl) ?_
  refine xi_putF (f := 20) (ty := (.array .int)) (M' := (P ++ [.inr (9, [.ref (L + 1), .ref (L + 2), .ref (L + 3), .int 0, .ref (L + 4), .int 0, .int 0, .int (-1), .int 0, .int 0, .int 0, .int 0, .int 0, .ref (L + 5), .ref (L + 6), .ref (L + 7), .ref (L + 8), .int 0, .int 0, .int 0, .ref (L + 9), .null, .null, .null, .null, .int 0]), xz 273, xz 273, xz 2730, xz 400, xz 9, xz 512, xz 512, xz 4608, xz 9])) dX12_init_85 (xpg0 hP rfl) rfl ok_9 (by decide) w_1028 rfl rfl rfl pf__I (fun _ h => by cases h) rfl rfl (Nat.le_of_ble_eq_true rfl) (xps0 hP) ?_
  refine xi_aload_n 0 dX12_init_88 rfl ?_
  refine xi_bipush (v := 9) dX12_init_89 (by decide) ?_
  refine xi_newI (i := (L + 10)) (N := 9) (M' := (P ++ [.inr (9, [.ref (L + 1), .ref (L + 2), .ref (L + 3), .int 0, .ref (L + 4), .int 0, .int 0, .int (-1), .int 0, .int 0, .int 0, .int 0, .int 0, .ref (L + 5), .ref (L + 6), .ref (L + 7), .ref (L + 8), .int 0, .int 0, .int 0, .ref (L + 9), .null, .null, .null, .null, .int 0]), xz 273, xz 273, xz 2730, xz 400, xz 9, xz 512, xz 512, xz 4608, xz 9, xz 9])) dX12_init_91 w_95 (by decide) (by decide) (Nat.le_of_ble_eq_true rfl) (xpl hP rfl) (List.append_assoc _ _ _) (Nat.le_of_ble_eq_true rfl) (Nat.le_of_ble_eq_true rfl) ?_
  refine xi_putF (f := 21) (ty := (.array .int)) (M' := (P ++ [.inr (9, [.ref (L + 1), .ref (L + 2), .ref (L + 3), .int 0, .ref (L + 4), .int 0, .int 0, .int (-1), .int 0, .int 0, .int 0, .int 0, .int 0, .ref (L + 5), .ref (L + 6), .ref (L + 7), .ref (L + 8), .int 0, .int 0, .int 0, .ref (L + 9), .ref (L + 10), .null, .null, .null, .int 0]), xz 273, xz 273, xz 2730, xz 400, xz 9, xz 512, xz 512, xz 4608, xz 9, xz 9])) dX12_init_93 (xpg0 hP rfl) rfl ok_9 (by decide) w_1029 rfl rfl rfl pf__I (fun _ h => by cases h) rfl rfl (Nat.le_of_ble_eq_true rfl) (xps0 hP) ?_
  refine xi_aload_n 0 dX12_init_96 rfl ?_
  refine xi_bipush (v := 9) dX12_init_97 (by decide) ?_
  refine xi_newI (i := (L + 11)) (N := 9) (M' := (P ++ [.inr (9, [.ref (L + 1), .ref (L + 2), .ref (L + 3), .int 0, .ref (L + 4), .int 0, .int 0, .int (-1), .int 0, .int 0, .int 0, .int 0, .int 0, .ref (L + 5), .ref (L + 6), .ref (L + 7), .ref (L + 8), .int 0, .int 0, .int 0, .ref (L + 9), .ref (L + 10), .null, .null, .null, .int 0]), xz 273, xz 273, xz 2730, xz 400, xz 9, xz 512, xz 512, xz 4608, xz 9, xz 9, xz 9])) dX12_init_99 w_95 (by decide) (by decide) (Nat.le_of_ble_eq_true rfl) (xpl hP rfl) (List.append_assoc _ _ _) (Nat.le_of_ble_eq_true rfl) (Nat.le_of_ble_eq_true rfl) ?_
  refine xi_putF (f := 22) (ty := (.array .int)) (M' := (P ++ [.inr (9, [.ref (L + 1), .ref (L + 2), .ref (L + 3), .int 0, .ref (L + 4), .int 0, .int 0, .int (-1), .int 0, .int 0, .int 0, .int 0, .int 0, .ref (L + 5), .ref (L + 6), .ref (L + 7), .ref (L + 8), .int 0, .int 0, .int 0, .ref (L + 9), .ref (L + 10), .ref (L + 11), .null, .null, .int 0]), xz 273, xz 273, xz 2730, xz 400, xz 9, xz 512, xz 512, xz 4608, xz 9, xz 9, xz 9])) dX12_init_101 (xpg0 hP rfl) rfl ok_9 (by decide) w_1030 rfl rfl rfl pf__I (fun _ h => by cases h) rfl rfl (Nat.le_of_ble_eq_true rfl) (xps0 hP) ?_
  refine xi_aload_n 0 dX12_init_104 rfl ?_
  refine xi_bipush (v := 81) dX12_init_105 (by decide) ?_
  refine xi_newI (i := (L + 12)) (N := 81) (M' := (P ++ [.inr (9, [.ref (L + 1), .ref (L + 2), .ref (L + 3), .int 0, .ref (L + 4), .int 0, .int 0, .int (-1), .int 0, .int 0, .int 0, .int 0, .int 0, .ref (L + 5), .ref (L + 6), .ref (L + 7), .ref (L + 8), .int 0, .int 0, .int 0, .ref (L + 9), .ref (L + 10), .ref (L + 11), .null, .null, .int 0]), xz 273, xz 273, xz 2730, xz 400, xz 9, xz 512, xz 512, xz 4608, xz 9, xz 9, xz 9, xz 81])) dX12_init_107 w_95 (by decide) (by decide) (Nat.le_of_ble_eq_true rfl) (xpl hP rfl) (List.append_assoc _ _ _) (Nat.le_of_ble_eq_true rfl) (Nat.le_of_ble_eq_true rfl) ?_
  refine xi_putF (f := 23) (ty := (.array .int)) (M' := (P ++ [.inr (9, [.ref (L + 1), .ref (L + 2), .ref (L + 3), .int 0, .ref (L + 4), .int 0, .int 0, .int (-1), .int 0, .int 0, .int 0, .int 0, .int 0, .ref (L + 5), .ref (L + 6), .ref (L + 7), .ref (L + 8), .int 0, .int 0, .int 0, .ref (L + 9), .ref (L + 10), .ref (L + 11), .ref (L + 12), .null, .int 0]), xz 273, xz 273, xz 2730, xz 400, xz 9, xz 512, xz 512, xz 4608, xz 9, xz 9, xz 9, xz 81])) dX12_init_109 (xpg0 hP rfl) rfl ok_9 (by decide) w_1031 rfl rfl rfl pf__I (fun _ h => by cases h) rfl rfl (Nat.le_of_ble_eq_true rfl) (xps0 hP) ?_
  refine xi_aload_n 0 dX12_init_112 rfl ?_
  refine xi_sipush (v := 400) dX12_init_113 (by decide) ?_
  refine xi_newI (i := (L + 13)) (N := 400) (M' := (P ++ [.inr (9, [.ref (L + 1), .ref (L + 2), .ref (L + 3), .int 0, .ref (L + 4), .int 0, .int 0, .int (-1), .int 0, .int 0, .int 0, .int 0, .int 0, .ref (L + 5), .ref (L + 6), .ref (L + 7), .ref (L + 8), .int 0, .int 0, .int 0, .ref (L + 9), .ref (L + 10), .ref (L + 11), .ref (L + 12), .null, .int 0]), xz 273, xz 273, xz 2730, xz 400, xz 9, xz 512, xz 512, xz 4608, xz 9, xz 9, xz 9, xz 81, xz 400])) dX12_init_116 w_95 (by decide) (by decide) (Nat.le_of_ble_eq_true rfl) (xpl hP rfl) (List.append_assoc _ _ _) (Nat.le_of_ble_eq_true rfl) (Nat.le_of_ble_eq_true rfl) ?_
  refine xi_putF (f := 24) (ty := (.array .int)) (M' := (P ++ [.inr (9, [.ref (L + 1), .ref (L + 2), .ref (L + 3), .int 0, .ref (L + 4), .int 0, .int 0, .int (-1), .int 0, .int 0, .int 0, .int 0, .int 0, .ref (L + 5), .ref (L + 6), .ref (L + 7), .ref (L + 8), .int 0, .int 0, .int 0, .ref (L + 9), .ref (L + 10), .ref (L + 11), .ref (L + 12), .ref (L + 13), .int 0]), xz 273, xz 273, xz 2730, xz 400, xz 9, xz 512, xz 512, xz 4608, xz 9, xz 9, xz 9, xz 81, xz 400])) dX12_init_118 (xpg0 hP rfl) rfl ok_9 (by decide) w_1032 rfl rfl rfl pf__I (fun _ h => by cases h) rfl rfl (Nat.le_of_ble_eq_true rfl) (xps0 hP) ?_
  exact xi_vret dX12_init_121 rfl (Nat.le_of_ble_eq_true rfl) (Nat.le_of_ble_eq_true rfl) ⟨rfl, rfl⟩
end
section
/-! the memory behind both constructors: what is written in it are parameters -/
def MX (n : Int32) (f : Nat → Int32) (rd mo : va_E) (g w t : Nat → Int32) : xMem := [.inr (8, [.ref 1, .ref 3, .ref 5, .ref 10, .ref 11, .ref 84, .ref 90, .ref 98, .ref 141, .ref 145]), .inr (1, [.ref 2, .int n]), .inl (1, 400, .inl f), .inr (1, [.ref 4, .int 0]), xzb 256, rd, .inr (5, [.int 0, .int 0, .ref 7, .ref 8, .ref 9]), xz 9, xz 9, xz 81, .inl (2, 3, .inr (.inr (.inr (.inr (va_up (va_up (va_up (fun _ => none) 0 (some 12)) 1 (some 36)) 2 (some 60)))))), .inl (3, 3, .inr (.inr (.inr (.inr (va_up (va_up (va_up (fun _ => none) 0 (some 16)) 1 (some 40)) 2 (some 64)))))), .inr (5, [.int 0, .int 0, .ref 13, .ref 14, .ref 15]), xz 9, xz 9, xz 81, .inr (3, [.ref 17, .ref 18]), .inl (4, 7, .inr (.inr (.inr (.inr (va_up (va_up (va_up (va_up (va_up (va_up (va_up (fun _ => none) 0 (some 22)) 1 (some 24)) 2 (some 26)) 3 (some 28)) 4 (some 30)) 5 (some 32)) 6 (some 34)))))), .inr (5, [.int 0, .int 0, .ref 19, .ref 20, .ref 21]), xz 9, xz 9, xz 81, .inr (2, [.int 0, .int 0, .int 0, .int 0, .ref 23]), xz 9, .inr (2, [.int 0, .int 0, .int 0, .int 0, .ref 25]), xz 9, .inr (2, [.int 0, .int 0, .int 0, .int 0, .ref 27]), xz 9, .inr (2, [.int 0, .int 0, .int 0, .int 0, .ref 29]), xz 9, .inr (2, [.int 0, .int 0, .int 0, .int 0, .ref 31]), xz 9, .inr (2, [.int 0, .int 0, .int 0, .int 0, .ref 33]), xz 9, .inr (2, [.int 0, .int 0, .int 0, .int 0, .ref 35]), xz 9, .inr (5, [.int 0, .int 0, .ref 37, .ref 38, .ref 39]), xz 9, xz 9, xz 81, .inr (3, [.ref 41, .ref 42]), .inl (4, 7, .inr (.inr (.inr (.inr (va_up (va_up (va_up (va_up (va_up (va_up (va_up (fun _ => none) 0 (some 46)) 1 (some 48)) 2 (some 50)) 3 (some 52)) 4 (some 54)) 5 (some 56)) 6 (some 58)))))), .inr (5, [.int 0, .int 0, .ref 43, .ref 44, .ref 45]), xz 9, xz 9, xz 81, .inr (2, [.int 0, .int 0, .int 0, .int 0, .ref 47]), xz 9, .inr (2, [.int 0, .int 0, .int 0, .int 0, .ref 49]), xz 9, .inr (2, [.int 0, .int 0, .int 0, .int 0, .ref 51]), xz 9, .inr (2, [.int 0, .int 0, .int 0, .int 0, .ref 53]), xz 9, .inr (2, [.int 0, .int 0, .int 0, .int 0, .ref 55]), xz 9, .inr (2, [.int 0, .int 0, .int 0, .int 0, .ref 57]), xz 9, .inr (2, [.int 0, .int 0, .int 0, .int 0, .ref 59]), xz 9, .inr (5, [.int 0, .int 0, .ref 61, .ref 62, .ref 63]), xz 9, xz 9, xz 81, .inr (3, [.ref 65, .ref 66]), .inl (4, 7, .inr (.inr (.inr (.inr (va_up (va_up (va_up (va_up (va_up (va_up (va_up (fun _ => none) 0 (some 70)) 1 (some 72)) 2 (some 74)) 3 (some 76)) 4 (some 78)) 5 (some 80)) 6 (some 82)))))), .inr (5, [.int 0, .int 0, .ref 67, .ref 68, .ref 69]), xz 9, xz 9, xz 81, .inr (2, [.int 0, .int 0, .int 0, .int 0, .ref 71]), xz 9, .inr (2, [.int 0, .int 0, .int 0, .int 0, .ref 73]), xz 9, .inr (2, [.int 0, .int 0, .int 0, .int 0, .ref 75]), xz 9, .inr (2, [.int 0, .int 0, .int 0, .int 0, .ref 77]), xz 9, .inr (2, [.int 0, .int 0, .int 0, .int 0, .ref 79]), xz 9, .inr (2, [.int 0, .int 0, .int 0, .int 0, .ref 81]), xz 9, .inr (2, [.int 0, .int 0, .int 0, .int 0, .ref 83]), xz 9, .inr (7, [.ref 85, .ref 86, .ref 87, .ref 88, .ref 89]), xz 4608, xz 4608, xz 4608, xz 512, xz 512, .inr (0, [.ref 91, .ref 95, .ref 96, .ref 97]), .inr (5, [.int 0, .int 0, .ref 92, .ref 93, .ref 94]), xz 9, xz 9, xz 81, xz 9, xz 4096, xz 4096, .inr (4, [.int 0, .int 0, .ref 99, .ref 100]), xz 10, .inl (2, 10, .inr (.inr (.inr (.inr (va_up (va_up (va_up (va_up (va_up (va_up (va_up (va_up (va_up (va_up (fun _ => none) 0 (some 101)) 1 (some 105)) 2 (some 109)) 3 (some 113)) 4 (some 117)) 5 (some 121)) 6 (some 125)) 7 (some 129)) 8 (some 133)) 9 (some 137)))))), .inr (5, [.int 0, .int 0, .ref 102, .ref 103, .ref 104]), xz 9, xz 9, xz 81, .inr (5, [.int 0, .int 0, .ref 106, .ref 107, .ref 108]), xz 9, xz 9, xz 81, .inr (5, [.int 0, .int 0, .ref 110, .ref 111, .ref 112]), xz 9, xz 9, xz 81, .inr (5, [.int 0, .int 0, .ref 114, .ref 115, .ref 116]), xz 9, xz 9, xz 81, .inr (5, [.int 0, .int 0, .ref 118, .ref 119, .ref 120]), xz 9, xz 9, xz 81, .inr (5, [.int 0, .int 0, .ref 122, .ref 123, .ref 124]), xz 9, xz 9, xz 81, .inr (5, [.int 0, .int 0, .ref 126, .ref 127, .ref 128]), xz 9, xz 9, xz 81, .inr (5, [.int 0, .int 0, .ref 130, .ref 131, .ref 132]), xz 9, xz 9, xz 81, .inr (5, [.int 0, .int 0, .ref 134, .ref 135, .ref 136]), xz 9, xz 9, xz 81, .inr (5, [.int 0, .int 0, .ref 138, .ref 139, .ref 140]), xz 9, xz 9, xz 81, .inr (5, [.int 0, .int 0, .ref 142, .ref 143, .ref 144]), xz 9, xz 9, xz 81, .inr (5, [.int 0, .int 0, .ref 146, .ref 147, .ref 148]), xz 9, xz 9, xz 81, mo, .inl (0, 273, .inl g), .inl (0, 273, .inl w), xz 2730, .inl (0, 400, .inl t), xz 9, xz 512, xz 512, xz 4608, xz 9, xz 9, xz 9, xz 81, xz 400]
abbrev rd0 : va_E := .inr (6, [.ref 6, .int 0, .int (-1), .ref 1, .int 0, .int 0, .int 0, .int 0])
abbrev mo0 : va_E := .inr (9, [.ref 150, .ref 151, .ref 152, .int 0, .ref 153, .int 0, .int 0, .int (-1), .int 0, .int 0, .int 0, .int 0, .int 0, .ref 154, .ref 155, .ref 156, .ref 157, .int 0, .int 0, .int 0, .ref 158, .ref 159, .ref 160, .ref 161, .ref 162, .int 0])
abbrev M0 : xMem := (MX 0 (fun _ => 0) rd0 mo0 (fun _ => 0) (fun _ => 0) (fun _ => 0))
theorem sl4 (x : Int32) : x = 0 ∨ x = 1 ∨ x = 2 ∨ (x < 0 ∨ 3 ≤ x) := by
  by_cases h : x < 0
  · exact Or.inr (Or.inr (Or.inr (Or.inl h)))
  · by_cases h2 : 3 ≤ x
    · exact Or.inr (Or.inr (Or.inr (Or.inr h2)))
    · obtain ⟨j, hj, rfl⟩ := nI_of h
      have h3 : j < 3 := Nat.lt_of_not_le fun q => h2 (show nI 3 ≤ nI j from nI_le q hj)
      rcases (show j = 0 ∨ j = 1 ∨ j = 2 by omega) with rfl | rfl | rfl
      · exact Or.inl rfl
      · exact Or.inr (Or.inl rfl)
      · exact Or.inr (Or.inr (Or.inl rfl))
theorem sl5 (x : Int32) : x = 0 ∨ x = 1 ∨ x = 2 ∨ x = 3 ∨ (x.toInt < 0 ∨ 3 < x.toInt) := by
  by_cases h : x < 0
  · exact Or.inr (Or.inr (Or.inr (Or.inr (Or.inl (by rw [Int32.lt_iff_toInt_lt] at h; exact h)))))
  · obtain ⟨j, hj, rfl⟩ := nI_of h
    by_cases h2 : 3 < j
    · exact Or.inr (Or.inr (Or.inr (Or.inr (Or.inr (by rw [nI_toInt hj]; omega)))))
    · rcases (show j = 0 ∨ j = 1 ∨ j = 2 ∨ j = 3 by omega) with rfl | rfl | rfl | rfl
      · exact Or.inl rfl
      · exact Or.inr (Or.inl rfl)
      · exact Or.inr (Or.inr (Or.inl rfl))
      · exact Or.inr (Or.inr (Or.inr (Or.inl rfl)))
set_option maxHeartbeats 4000000 in
set_option maxRecDepth 100000 in
theorem fx_isSlot_0 (G : xG) : xC G mX11_isSlot 0 0 0 [.int 0] (MX 0 (fun _ => 0) rd0 mo0 (fun _ => 0) (fun _ => 0) (fun _ => 0)) (fun v M2 => v = some (.int 1) ∧ M2 = (MX 0 (fun _ => 0) rd0 mo0 (fun _ => 0) (fun _ => 0) (fun _ => 0))) := by
  refine xC.of (by decide) (Nat.le_of_ble_eq_true rfl) ?_
  show xW _ _ _ _ 0 [(0, .int 0)] [] _ 0 0
  refine xi_iload_n 0 dX11_isSlot_0 rfl ?_
  refine xi_if_lt_f (tgt := 13) dX11_isSlot_1 (by decide) (by decide) ?_
  refine xi_iload_n 0 dX11_isSlot_4 rfl ?_
  refine xi_iconst (v := 3) dX11_isSlot_5 (by decide) ?_
  refine xi_icmp_ge_f (tgt := 13) dX11_isSlot_6 (by decide) (by decide) ?_
  refine xi_iconst (v := 1) dX11_isSlot_9 (by decide) ?_
  refine xi_goto (tgt := 14) dX11_isSlot_10 (by decide) ?_
  exact xi_iret dX11_isSlot_14 rfl (by decide) (Nat.le_of_ble_eq_true rfl) (Nat.le_of_ble_eq_true rfl) ⟨rfl, rfl⟩
set_option maxHeartbeats 4000000 in
set_option maxRecDepth 100000 in
theorem fx_isSlot_1 (G : xG) : xC G mX11_isSlot 0 0 0 [.int 1] (MX 0 (fun _ => 0) rd0 mo0 (fun _ => 0) (fun _ => 0) (fun _ => 0)) (fun v M2 => v = some (.int 1) ∧ M2 = (MX 0 (fun _ => 0) rd0 mo0 (fun _ => 0) (fun _ => 0) (fun _ => 0))) := by
  refine xC.of (by decide) (Nat.le_of_ble_eq_true rfl) ?_
  show xW _ _ _ _ 0 [(0, .int 1)] [] _ 0 0
  refine xi_iload_n 0 dX11_isSlot_0 rfl ?_
  refine xi_if_lt_f (tgt := 13) dX11_isSlot_1 (by decide) (by decide) ?_
  refine xi_iload_n 0 dX11_isSlot_4 rfl ?_
  refine xi_iconst (v := 3) dX11_isSlot_5 (by decide) ?_
  refine xi_icmp_ge_f (tgt := 13) dX11_isSlot_6 (by decide) (by decide) ?_
  refine xi_iconst (v := 1) dX11_isSlot_9 (by decide) ?_
  refine xi_goto (tgt := 14) dX11_isSlot_10 (by decide) ?_
  exact xi_iret dX11_isSlot_14 rfl (by decide) (Nat.le_of_ble_eq_true rfl) (Nat.le_of_ble_eq_true rfl) ⟨rfl, rfl⟩
set_option maxHeartbeats 4000000 in
set_option maxRecDepth 100000 in
theorem fx_isSlot_2 (G : xG) : xC G mX11_isSlot 0 0 0 [.int 2] (MX 0 (fun _ => 0) rd0 mo0 (fun _ => 0) (fun _ => 0) (fun _ => 0)) (fun v M2 => v = some (.int 1) ∧ M2 = (MX 0 (fun _ => 0) rd0 mo0 (fun _ => 0) (fun _ => 0) (fun _ => 0))) := by
  refine xC.of (by decide) (Nat.le_of_ble_eq_true rfl) ?_
  show xW _ _ _ _ 0 [(0, .int 2)] [] _ 0 0
  refine xi_iload_n 0 dX11_isSlot_0 rfl ?_
  refine xi_if_lt_f (tgt := 13) dX11_isSlot_1 (by decide) (by decide) ?_
  refine xi_iload_n 0 dX11_isSlot_4 rfl ?_
  refine xi_iconst (v := 3) dX11_isSlot_5 (by decide) ?_
  refine xi_icmp_ge_f (tgt := 13) dX11_isSlot_6 (by decide) (by decide) ?_
  refine xi_iconst (v := 1) dX11_isSlot_9 (by decide) ?_
  refine xi_goto (tgt := 14) dX11_isSlot_10 (by decide) ?_
  exact xi_iret dX11_isSlot_14 rfl (by decide) (Nat.le_of_ble_eq_true rfl) (Nat.le_of_ble_eq_true rfl) ⟨rfl, rfl⟩
set_option maxHeartbeats 4000000 in
set_option maxRecDepth 100000 in
theorem fx_isSlot_out (G : xG) (a1 : Int32) (h : a1 < 0 ∨ 3 ≤ a1) : xC G mX11_isSlot 0 0 0 [.int a1] (MX 0 (fun _ => 0) rd0 mo0 (fun _ => 0) (fun _ => 0) (fun _ => 0)) (fun v M2 => v = some (.int 0) ∧ M2 = (MX 0 (fun _ => 0) rd0 mo0 (fun _ => 0) (fun _ => 0) (fun _ => 0))) := by
  refine xC.of (by decide) (Nat.le_of_ble_eq_true rfl) ?_
  show xW _ _ _ _ 0 [(0, .int a1)] [] _ 0 0
  refine xi_iload_n 0 dX11_isSlot_0 rfl ?_
  refine xi_if_lt (tgt := 13) dX11_isSlot_1 (by decide) (fun c1 => ?_) (fun c1 => ?_)
  · refine xi_iconst (v := 0) dX11_isSlot_13 (by decide) ?_
    exact xi_iret dX11_isSlot_14 rfl (by decide) (Nat.le_of_ble_eq_true rfl) (Nat.le_of_ble_eq_true rfl) ⟨rfl, rfl⟩
  · refine xi_iload_n 0 dX11_isSlot_4 rfl ?_
    refine xi_iconst (v := 3) dX11_isSlot_5 (by decide) ?_
    refine xi_icmp_ge (tgt := 13) dX11_isSlot_6 (by decide) (fun c2 => ?_) (fun c2 => ?_)
    · refine xi_iconst (v := 0) dX11_isSlot_13 (by decide) ?_
      exact xi_iret dX11_isSlot_14 rfl (by decide) (Nat.le_of_ble_eq_true rfl) (Nat.le_of_ble_eq_true rfl) ⟨rfl, rfl⟩
    · refine xi_iconst (v := 1) dX11_isSlot_9 (by decide) ?_
      refine xi_goto (tgt := 14) dX11_isSlot_10 (by decide) ?_
      exact (h.elim c1 c2).elim
set_option maxHeartbeats 4000000 in
set_option maxRecDepth 100000 in
theorem fx_netIn_0 (G : xG) : xC G mX11_netIn 1 0 0 [.ref 0, .int 0] (MX 0 (fun _ => 0) rd0 mo0 (fun _ => 0) (fun _ => 0) (fun _ => 0)) (fun v M2 => v = some (.null) ∧ M2 = (MX 0 (fun _ => 0) rd0 mo0 (fun _ => 0) (fun _ => 0) (fun _ => 0))) := by
  refine xC.of (by decide) (Nat.le_of_ble_eq_true rfl) ?_
  show xW _ _ _ _ 0 [(0, .ref 0), (1, .int 0)] [] _ 0 0
  refine xi_iload_n 1 dX11_netIn_0 rfl ?_
  refine xi_callS (as := [.int 0]) (rest := []) dX11_netIn_1 (fx_isSlot_0 G) mkX11_isSlot w_299 w_298 rfl rfl (Nat.le_of_ble_eq_true rfl) (Nat.le_of_ble_eq_true rfl) (Nat.le_of_ble_eq_true rfl) (Nat.le_of_ble_eq_true rfl) (Nat.le_of_ble_eq_true rfl) ?_
  intro v M2 hq
  obtain ⟨rfl, rfl⟩ := hq
  show xW _ _ _ _ 4 _ [.int 1] (MX 0 (fun _ => 0) rd0 mo0 (fun _ => 0) (fun _ => 0) (fun _ => 0)) _ _
  refine xi_if_eq_f (tgt := 28) dX11_netIn_4 (by decide) (by decide) ?_
  refine xi_aload_n 0 dX11_netIn_7 rfl ?_
  refine xi_get (f := 3) dX11_netIn_8 rfl rfl ok_8 (by decide) w_245 rfl ?_
  refine xi_iload_n 1 dX11_netIn_11 rfl ?_
  refine xi_aaload (v := .ref 12) dX11_netIn_12 rfl rfl (by unfold vp_in; decide) rfl ?_
  refine xi_get (f := 0) dX11_netIn_13 rfl rfl ok_5 (by decide) w_66 rfl ?_
  refine xi_if_le_t (tgt := 28) dX11_netIn_16 (by decide) (by decide) ?_
  refine xi_null dX11_netIn_28 ?_
  exact xi_aretN dX11_netIn_29 rfl (Or.inl ⟨_, rfl⟩) (Nat.le_of_ble_eq_true rfl) (Nat.le_of_ble_eq_true rfl) ⟨rfl, rfl⟩
set_option maxHeartbeats 4000000 in
set_option maxRecDepth 100000 in
theorem fx_netIn_1 (G : xG) : xC G mX11_netIn 1 0 0 [.ref 0, .int 1] (MX 0 (fun _ => 0) rd0 mo0 (fun _ => 0) (fun _ => 0) (fun _ => 0)) (fun v M2 => v = some (.null) ∧ M2 = (MX 0 (fun _ => 0) rd0 mo0 (fun _ => 0) (fun _ => 0) (fun _ => 0))) := by
  refine xC.of (by decide) (Nat.le_of_ble_eq_true rfl) ?_
  show xW _ _ _ _ 0 [(0, .ref 0), (1, .int 1)] [] _ 0 0
  refine xi_iload_n 1 dX11_netIn_0 rfl ?_
  refine xi_callS (as := [.int 1]) (rest := []) dX11_netIn_1 (fx_isSlot_1 G) mkX11_isSlot w_299 w_298 rfl rfl (Nat.le_of_ble_eq_true rfl) (Nat.le_of_ble_eq_true rfl) (Nat.le_of_ble_eq_true rfl) (Nat.le_of_ble_eq_true rfl) (Nat.le_of_ble_eq_true rfl) ?_
  intro v M2 hq
  obtain ⟨rfl, rfl⟩ := hq
  show xW _ _ _ _ 4 _ [.int 1] (MX 0 (fun _ => 0) rd0 mo0 (fun _ => 0) (fun _ => 0) (fun _ => 0)) _ _
  refine xi_if_eq_f (tgt := 28) dX11_netIn_4 (by decide) (by decide) ?_
  refine xi_aload_n 0 dX11_netIn_7 rfl ?_
  refine xi_get (f := 3) dX11_netIn_8 rfl rfl ok_8 (by decide) w_245 rfl ?_
  refine xi_iload_n 1 dX11_netIn_11 rfl ?_
  refine xi_aaload (v := .ref 36) dX11_netIn_12 rfl rfl (by unfold vp_in; decide) rfl ?_
  refine xi_get (f := 0) dX11_netIn_13 rfl rfl ok_5 (by decide) w_66 rfl ?_
  refine xi_if_le_t (tgt := 28) dX11_netIn_16 (by decide) (by decide) ?_
  refine xi_null dX11_netIn_28 ?_
  exact xi_aretN dX11_netIn_29 rfl (Or.inl ⟨_, rfl⟩) (Nat.le_of_ble_eq_true rfl) (Nat.le_of_ble_eq_true rfl) ⟨rfl, rfl⟩
set_option maxHeartbeats 4000000 in
set_option maxRecDepth 100000 in
theorem fx_netIn_2 (G : xG) : xC G mX11_netIn 1 0 0 [.ref 0, .int 2] (MX 0 (fun _ => 0) rd0 mo0 (fun _ => 0) (fun _ => 0) (fun _ => 0)) (fun v M2 => v = some (.null) ∧ M2 = (MX 0 (fun _ => 0) rd0 mo0 (fun _ => 0) (fun _ => 0) (fun _ => 0))) := by
  refine xC.of (by decide) (Nat.le_of_ble_eq_true rfl) ?_
  show xW _ _ _ _ 0 [(0, .ref 0), (1, .int 2)] [] _ 0 0
  refine xi_iload_n 1 dX11_netIn_0 rfl ?_
  refine xi_callS (as := [.int 2]) (rest := []) dX11_netIn_1 (fx_isSlot_2 G) mkX11_isSlot w_299 w_298 rfl rfl (Nat.le_of_ble_eq_true rfl) (Nat.le_of_ble_eq_true rfl) (Nat.le_of_ble_eq_true rfl) (Nat.le_of_ble_eq_true rfl) (Nat.le_of_ble_eq_true rfl) ?_
  intro v M2 hq
  obtain ⟨rfl, rfl⟩ := hq
  show xW _ _ _ _ 4 _ [.int 1] (MX 0 (fun _ => 0) rd0 mo0 (fun _ => 0) (fun _ => 0) (fun _ => 0)) _ _
  refine xi_if_eq_f (tgt := 28) dX11_netIn_4 (by decide) (by decide) ?_
  refine xi_aload_n 0 dX11_netIn_7 rfl ?_
  refine xi_get (f := 3) dX11_netIn_8 rfl rfl ok_8 (by decide) w_245 rfl ?_
  refine xi_iload_n 1 dX11_netIn_11 rfl ?_
  refine xi_aaload (v := .ref 60) dX11_netIn_12 rfl rfl (by unfold vp_in; decide) rfl ?_
  refine xi_get (f := 0) dX11_netIn_13 rfl rfl ok_5 (by decide) w_66 rfl ?_
  refine xi_if_le_t (tgt := 28) dX11_netIn_16 (by decide) (by decide) ?_
  refine xi_null dX11_netIn_28 ?_
  exact xi_aretN dX11_netIn_29 rfl (Or.inl ⟨_, rfl⟩) (Nat.le_of_ble_eq_true rfl) (Nat.le_of_ble_eq_true rfl) ⟨rfl, rfl⟩
set_option maxHeartbeats 4000000 in
set_option maxRecDepth 100000 in
theorem fx_netIn_out (G : xG) (a1 : Int32) (h : a1 < 0 ∨ 3 ≤ a1) : xC G mX11_netIn 1 0 0 [.ref 0, .int a1] (MX 0 (fun _ => 0) rd0 mo0 (fun _ => 0) (fun _ => 0) (fun _ => 0)) (fun v M2 => v = some (.null) ∧ M2 = (MX 0 (fun _ => 0) rd0 mo0 (fun _ => 0) (fun _ => 0) (fun _ => 0))) := by
  refine xC.of (by decide) (Nat.le_of_ble_eq_true rfl) ?_
  show xW _ _ _ _ 0 [(0, .ref 0), (1, .int a1)] [] _ 0 0
  refine xi_iload_n 1 dX11_netIn_0 rfl ?_
  refine xi_callS (as := [.int a1]) (rest := []) dX11_netIn_1 (fx_isSlot_out G _ h) mkX11_isSlot w_299 w_298 rfl rfl (Nat.le_of_ble_eq_true rfl) (Nat.le_of_ble_eq_true rfl) (Nat.le_of_ble_eq_true rfl) (Nat.le_of_ble_eq_true rfl) (Nat.le_of_ble_eq_true rfl) ?_
  intro v M2 hq
  obtain ⟨rfl, rfl⟩ := hq
  show xW _ _ _ _ 4 _ [.int 0] (MX 0 (fun _ => 0) rd0 mo0 (fun _ => 0) (fun _ => 0) (fun _ => 0)) _ _
  refine xi_if_eq_t (tgt := 28) dX11_netIn_4 (by decide) (by decide) ?_
  refine xi_null dX11_netIn_28 ?_
  exact xi_aretN dX11_netIn_29 rfl (Or.inl ⟨_, rfl⟩) (Nat.le_of_ble_eq_true rfl) (Nat.le_of_ble_eq_true rfl) ⟨rfl, rfl⟩
theorem fx_netIn (G : xG) (a1 : Int32) : xC G mX11_netIn 1 0 0 [.ref 0, .int a1] M0 (fun v M2 => v = some (.null) ∧ M2 = M0) := by
  rcases sl4 a1 with rfl | rfl | rfl | h
  · exact fx_netIn_0 G
  · exact fx_netIn_1 G
  · exact fx_netIn_2 G
  · exact fx_netIn_out G a1 h
set_option maxHeartbeats 4000000 in
set_option maxRecDepth 100000 in
theorem fx_findingOf (G : xG) (a1 a2 : Int32) : xC G mX11_findingOf 2 0 0 [.ref 0, .int a1, .int a2] (MX 0 (fun _ => 0) rd0 mo0 (fun _ => 0) (fun _ => 0) (fun _ => 0)) (fun v M2 => v = some (.null) ∧ M2 = (MX 0 (fun _ => 0) rd0 mo0 (fun _ => 0) (fun _ => 0) (fun _ => 0))) := by
  refine xC.of (by decide) (Nat.le_of_ble_eq_true rfl) ?_
  show xW _ _ _ _ 0 [(0, .ref 0), (1, .int a1), (2, .int a2)] [] _ 0 0
  refine xi_aload_n 0 dX11_findingOf_0 rfl ?_
  refine xi_iload_n 1 dX11_findingOf_1 rfl ?_
  refine xi_callV (as := [.int a1]) (rest := []) dX11_findingOf_2 (fx_netIn G a1) mkX11_netIn w_491 ws_15 w_489 rfl rfl rfl rfl rfl (Nat.le_of_ble_eq_true rfl) (Nat.le_of_ble_eq_true rfl) (Nat.le_of_ble_eq_true rfl) (Nat.le_of_ble_eq_true rfl) (Nat.le_of_ble_eq_true rfl) ?_
  intro v M2 hq
  obtain ⟨rfl, rfl⟩ := hq
  show xW _ _ _ _ 5 _ [.null] (MX 0 (fun _ => 0) rd0 mo0 (fun _ => 0) (fun _ => 0) (fun _ => 0)) _ _
  refine xi_astore_nN (lv' := [(3, .null), (0, .ref 0), (1, .int a1), (2, .int a2)]) dX11_findingOf_5 (by decide) rfl ?_
  refine xi_aload_nN 0 dX11_findingOf_6 rfl ?_
  refine xi_ifnullN (tgt := 17) dX11_findingOf_7 (by decide) ?_
  refine xi_null dX11_findingOf_17 ?_
  exact xi_aretN dX11_findingOf_18 rfl (Or.inl ⟨_, rfl⟩) (Nat.le_of_ble_eq_true rfl) (Nat.le_of_ble_eq_true rfl) ⟨rfl, rfl⟩
set_option maxHeartbeats 4000000 in
set_option maxRecDepth 100000 in
theorem fx_look (G : xG) (a1 a2 : Int32) : xC G mX11_look 3 0 0 [.ref 0, .int a1, .int a2] (MX 0 (fun _ => 0) rd0 mo0 (fun _ => 0) (fun _ => 0) (fun _ => 0)) (fun v M2 => v = some (.int (-2)) ∧ M2 = (MX 0 (fun _ => 0) rd0 mo0 (fun _ => 0) (fun _ => 0) (fun _ => 0))) := by
  refine xC.of (by decide) (Nat.le_of_ble_eq_true rfl) ?_
  show xW _ _ _ _ 0 [(0, .ref 0), (1, .int a1), (2, .int a2)] [] _ 0 0
  refine xi_aload_n 0 dX11_look_0 rfl ?_
  refine xi_iload_n 1 dX11_look_1 rfl ?_
  refine xi_callV (as := [.int a1]) (rest := []) dX11_look_2 (fx_netIn G a1) mkX11_netIn w_491 ws_15 w_489 rfl rfl rfl rfl rfl (Nat.le_of_ble_eq_true rfl) (Nat.le_of_ble_eq_true rfl) (Nat.le_of_ble_eq_true rfl) (Nat.le_of_ble_eq_true rfl) (Nat.le_of_ble_eq_true rfl) ?_
  intro v M2 hq
  obtain ⟨rfl, rfl⟩ := hq
  show xW _ _ _ _ 5 _ [.null] (MX 0 (fun _ => 0) rd0 mo0 (fun _ => 0) (fun _ => 0) (fun _ => 0)) _ _
  refine xi_astore_nN (lv' := [(3, .null), (0, .ref 0), (1, .int a1), (2, .int a2)]) dX11_look_5 (by decide) rfl ?_
  refine xi_aload_nN 0 dX11_look_6 rfl ?_
  refine xi_ifnonnullN dX11_look_7 ?_
  refine xi_bipush (v := (-2)) dX11_look_10 (by decide) ?_
  exact xi_iret dX11_look_12 rfl rfl (Nat.le_of_ble_eq_true rfl) (Nat.le_of_ble_eq_true rfl) ⟨rfl, rfl⟩
set_option maxHeartbeats 4000000 in
set_option maxRecDepth 100000 in
theorem fx_near (G : xG) (a1 a2 : Int32) : xC G mX11_near 3 0 0 [.ref 0, .int a1, .int a2] (MX 0 (fun _ => 0) rd0 mo0 (fun _ => 0) (fun _ => 0) (fun _ => 0)) (fun v M2 => v = some (.int (-2)) ∧ M2 = (MX 0 (fun _ => 0) rd0 mo0 (fun _ => 0) (fun _ => 0) (fun _ => 0))) := by
  refine xC.of (by decide) (Nat.le_of_ble_eq_true rfl) ?_
  show xW _ _ _ _ 0 [(0, .ref 0), (1, .int a1), (2, .int a2)] [] _ 0 0
  refine xi_aload_n 0 dX11_near_0 rfl ?_
  refine xi_iload_n 1 dX11_near_1 rfl ?_
  refine xi_callV (as := [.int a1]) (rest := []) dX11_near_2 (fx_netIn G a1) mkX11_netIn w_491 ws_15 w_489 rfl rfl rfl rfl rfl (Nat.le_of_ble_eq_true rfl) (Nat.le_of_ble_eq_true rfl) (Nat.le_of_ble_eq_true rfl) (Nat.le_of_ble_eq_true rfl) (Nat.le_of_ble_eq_true rfl) ?_
  intro v M2 hq
  obtain ⟨rfl, rfl⟩ := hq
  show xW _ _ _ _ 5 _ [.null] (MX 0 (fun _ => 0) rd0 mo0 (fun _ => 0) (fun _ => 0) (fun _ => 0)) _ _
  refine xi_astore_nN (lv' := [(3, .null), (0, .ref 0), (1, .int a1), (2, .int a2)]) dX11_near_5 (by decide) rfl ?_
  refine xi_aload_nN 0 dX11_near_6 rfl ?_
  refine xi_ifnullN (tgt := 18) dX11_near_7 (by decide) ?_
  refine xi_bipush (v := (-2)) dX11_near_18 (by decide) ?_
  refine xi_goto (tgt := 29) dX11_near_20 (by decide) ?_
  exact xi_iret dX11_near_29 rfl rfl (Nat.le_of_ble_eq_true rfl) (Nat.le_of_ble_eq_true rfl) ⟨rfl, rfl⟩
set_option maxHeartbeats 4000000 in
set_option maxRecDepth 100000 in
theorem fx_line (G : xG) (a1 a2 a3 : Int32) : xC G mX11_line 3 0 0 [.ref 0, .int a1, .int a2, .int a3] (MX 0 (fun _ => 0) rd0 mo0 (fun _ => 0) (fun _ => 0) (fun _ => 0)) (fun v M2 => v = some (.int (-2)) ∧ M2 = (MX 0 (fun _ => 0) rd0 mo0 (fun _ => 0) (fun _ => 0) (fun _ => 0))) := by
  refine xC.of (by decide) (Nat.le_of_ble_eq_true rfl) ?_
  show xW _ _ _ _ 0 [(0, .ref 0), (1, .int a1), (2, .int a2), (3, .int a3)] [] _ 0 0
  refine xi_aload_n 0 dX11_line_0 rfl ?_
  refine xi_iload_n 1 dX11_line_1 rfl ?_
  refine xi_callV (as := [.int a1]) (rest := []) dX11_line_2 (fx_netIn G a1) mkX11_netIn w_491 ws_15 w_489 rfl rfl rfl rfl rfl (Nat.le_of_ble_eq_true rfl) (Nat.le_of_ble_eq_true rfl) (Nat.le_of_ble_eq_true rfl) (Nat.le_of_ble_eq_true rfl) (Nat.le_of_ble_eq_true rfl) ?_
  intro v M2 hq
  obtain ⟨rfl, rfl⟩ := hq
  show xW _ _ _ _ 5 _ [.null] (MX 0 (fun _ => 0) rd0 mo0 (fun _ => 0) (fun _ => 0) (fun _ => 0)) _ _
  refine xi_astoreN (lv' := [(4, .null), (0, .ref 0), (1, .int a1), (2, .int a2), (3, .int a3)]) dX11_line_5 (by decide) rfl ?_
  refine xi_aloadN 0 dX11_line_7 rfl ?_
  refine xi_ifnullN (tgt := 30) dX11_line_9 (by decide) ?_
  refine xi_bipush (v := (-2)) dX11_line_30 (by decide) ?_
  refine xi_goto (tgt := 42) dX11_line_32 (by decide) ?_
  exact xi_iret dX11_line_42 rfl rfl (Nat.le_of_ble_eq_true rfl) (Nat.le_of_ble_eq_true rfl) ⟨rfl, rfl⟩
set_option maxHeartbeats 4000000 in
set_option maxRecDepth 100000 in
theorem fx_far (G : xG) (a1 a2 a3 : Int32) : xC G mX11_far 3 0 0 [.ref 0, .int a1, .int a2, .int a3] (MX 0 (fun _ => 0) rd0 mo0 (fun _ => 0) (fun _ => 0) (fun _ => 0)) (fun v M2 => v = some (.int (-2)) ∧ M2 = (MX 0 (fun _ => 0) rd0 mo0 (fun _ => 0) (fun _ => 0) (fun _ => 0))) := by
  refine xC.of (by decide) (Nat.le_of_ble_eq_true rfl) ?_
  show xW _ _ _ _ 0 [(0, .ref 0), (1, .int a1), (2, .int a2), (3, .int a3)] [] _ 0 0
  refine xi_aload_n 0 dX11_far_0 rfl ?_
  refine xi_iload_n 1 dX11_far_1 rfl ?_
  refine xi_callV (as := [.int a1]) (rest := []) dX11_far_2 (fx_netIn G a1) mkX11_netIn w_491 ws_15 w_489 rfl rfl rfl rfl rfl (Nat.le_of_ble_eq_true rfl) (Nat.le_of_ble_eq_true rfl) (Nat.le_of_ble_eq_true rfl) (Nat.le_of_ble_eq_true rfl) (Nat.le_of_ble_eq_true rfl) ?_
  intro v M2 hq
  obtain ⟨rfl, rfl⟩ := hq
  show xW _ _ _ _ 5 _ [.null] (MX 0 (fun _ => 0) rd0 mo0 (fun _ => 0) (fun _ => 0) (fun _ => 0)) _ _
  refine xi_astoreN (lv' := [(4, .null), (0, .ref 0), (1, .int a1), (2, .int a2), (3, .int a3)]) dX11_far_5 (by decide) rfl ?_
  refine xi_aloadN 0 dX11_far_7 rfl ?_
  refine xi_ifnullN (tgt := 30) dX11_far_9 (by decide) ?_
  refine xi_bipush (v := (-2)) dX11_far_30 (by decide) ?_
  refine xi_goto (tgt := 42) dX11_far_32 (by decide) ?_
  exact xi_iret dX11_far_42 rfl rfl (Nat.le_of_ble_eq_true rfl) (Nat.le_of_ble_eq_true rfl) ⟨rfl, rfl⟩
set_option maxHeartbeats 4000000 in
set_option maxRecDepth 100000 in
theorem fx_row (G : xG) (a1 a2 : Int32) : xC G mX11_row 3 0 0 [.ref 0, .int a1, .int a2] (MX 0 (fun _ => 0) rd0 mo0 (fun _ => 0) (fun _ => 0) (fun _ => 0)) (fun v M2 => v = some (.int (-2)) ∧ M2 = (MX 0 (fun _ => 0) rd0 mo0 (fun _ => 0) (fun _ => 0) (fun _ => 0))) := by
  refine xC.of (by decide) (Nat.le_of_ble_eq_true rfl) ?_
  show xW _ _ _ _ 0 [(0, .ref 0), (1, .int a1), (2, .int a2)] [] _ 0 0
  refine xi_aload_n 0 dX11_row_0 rfl ?_
  refine xi_iload_n 1 dX11_row_1 rfl ?_
  refine xi_callV (as := [.int a1]) (rest := []) dX11_row_2 (fx_netIn G a1) mkX11_netIn w_491 ws_15 w_489 rfl rfl rfl rfl rfl (Nat.le_of_ble_eq_true rfl) (Nat.le_of_ble_eq_true rfl) (Nat.le_of_ble_eq_true rfl) (Nat.le_of_ble_eq_true rfl) (Nat.le_of_ble_eq_true rfl) ?_
  intro v M2 hq
  obtain ⟨rfl, rfl⟩ := hq
  show xW _ _ _ _ 5 _ [.null] (MX 0 (fun _ => 0) rd0 mo0 (fun _ => 0) (fun _ => 0) (fun _ => 0)) _ _
  refine xi_astore_nN (lv' := [(3, .null), (0, .ref 0), (1, .int a1), (2, .int a2)]) dX11_row_5 (by decide) rfl ?_
  refine xi_aload_nN 0 dX11_row_6 rfl ?_
  refine xi_ifnullN (tgt := 18) dX11_row_7 (by decide) ?_
  refine xi_bipush (v := (-2)) dX11_row_18 (by decide) ?_
  refine xi_goto (tgt := 29) dX11_row_20 (by decide) ?_
  exact xi_iret dX11_row_29 rfl rfl (Nat.le_of_ble_eq_true rfl) (Nat.le_of_ble_eq_true rfl) ⟨rfl, rfl⟩
set_option maxHeartbeats 4000000 in
set_option maxRecDepth 100000 in
theorem fx_place (G : xG) (a1 a2 : Int32) : xC G mX11_place 3 0 0 [.ref 0, .int a1, .int a2] (MX 0 (fun _ => 0) rd0 mo0 (fun _ => 0) (fun _ => 0) (fun _ => 0)) (fun v M2 => v = some (.int (-2)) ∧ M2 = (MX 0 (fun _ => 0) rd0 mo0 (fun _ => 0) (fun _ => 0) (fun _ => 0))) := by
  refine xC.of (by decide) (Nat.le_of_ble_eq_true rfl) ?_
  show xW _ _ _ _ 0 [(0, .ref 0), (1, .int a1), (2, .int a2)] [] _ 0 0
  refine xi_aload_n 0 dX11_place_0 rfl ?_
  refine xi_iload_n 1 dX11_place_1 rfl ?_
  refine xi_callV (as := [.int a1]) (rest := []) dX11_place_2 (fx_netIn G a1) mkX11_netIn w_491 ws_15 w_489 rfl rfl rfl rfl rfl (Nat.le_of_ble_eq_true rfl) (Nat.le_of_ble_eq_true rfl) (Nat.le_of_ble_eq_true rfl) (Nat.le_of_ble_eq_true rfl) (Nat.le_of_ble_eq_true rfl) ?_
  intro v M2 hq
  obtain ⟨rfl, rfl⟩ := hq
  show xW _ _ _ _ 5 _ [.null] (MX 0 (fun _ => 0) rd0 mo0 (fun _ => 0) (fun _ => 0) (fun _ => 0)) _ _
  refine xi_astore_nN (lv' := [(3, .null), (0, .ref 0), (1, .int a1), (2, .int a2)]) dX11_place_5 (by decide) rfl ?_
  refine xi_aload_nN 0 dX11_place_6 rfl ?_
  refine xi_ifnullN (tgt := 18) dX11_place_7 (by decide) ?_
  refine xi_bipush (v := (-2)) dX11_place_18 (by decide) ?_
  refine xi_goto (tgt := 28) dX11_place_20 (by decide) ?_
  exact xi_iret dX11_place_28 rfl rfl (Nat.le_of_ble_eq_true rfl) (Nat.le_of_ble_eq_true rfl) ⟨rfl, rfl⟩
set_option maxHeartbeats 4000000 in
set_option maxRecDepth 100000 in
theorem fx_value (G : xG) (a1 a2 : Int32) : xC G mX11_value 3 0 0 [.ref 0, .int a1, .int a2] (MX 0 (fun _ => 0) rd0 mo0 (fun _ => 0) (fun _ => 0) (fun _ => 0)) (fun v M2 => v = some (.int (-2)) ∧ M2 = (MX 0 (fun _ => 0) rd0 mo0 (fun _ => 0) (fun _ => 0) (fun _ => 0))) := by
  refine xC.of (by decide) (Nat.le_of_ble_eq_true rfl) ?_
  show xW _ _ _ _ 0 [(0, .ref 0), (1, .int a1), (2, .int a2)] [] _ 0 0
  refine xi_aload_n 0 dX11_value_0 rfl ?_
  refine xi_iload_n 1 dX11_value_1 rfl ?_
  refine xi_callV (as := [.int a1]) (rest := []) dX11_value_2 (fx_netIn G a1) mkX11_netIn w_491 ws_15 w_489 rfl rfl rfl rfl rfl (Nat.le_of_ble_eq_true rfl) (Nat.le_of_ble_eq_true rfl) (Nat.le_of_ble_eq_true rfl) (Nat.le_of_ble_eq_true rfl) (Nat.le_of_ble_eq_true rfl) ?_
  intro v M2 hq
  obtain ⟨rfl, rfl⟩ := hq
  show xW _ _ _ _ 5 _ [.null] (MX 0 (fun _ => 0) rd0 mo0 (fun _ => 0) (fun _ => 0) (fun _ => 0)) _ _
  refine xi_astore_nN (lv' := [(3, .null), (0, .ref 0), (1, .int a1), (2, .int a2)]) dX11_value_5 (by decide) rfl ?_
  refine xi_aload_nN 0 dX11_value_6 rfl ?_
  refine xi_ifnullN (tgt := 17) dX11_value_7 (by decide) ?_
  refine xi_bipush (v := (-2)) dX11_value_17 (by decide) ?_
  refine xi_goto (tgt := 27) dX11_value_19 (by decide) ?_
  exact xi_iret dX11_value_27 rfl rfl (Nat.le_of_ble_eq_true rfl) (Nat.le_of_ble_eq_true rfl) ⟨rfl, rfl⟩
set_option maxHeartbeats 4000000 in
set_option maxRecDepth 100000 in
theorem fx_price (G : xG) (a1 a2 a3 : Int32) : xC G mX11_price 3 0 0 [.ref 0, .int a1, .int a2, .int a3] (MX 0 (fun _ => 0) rd0 mo0 (fun _ => 0) (fun _ => 0) (fun _ => 0)) (fun v M2 => v = some (.int (-2)) ∧ M2 = (MX 0 (fun _ => 0) rd0 mo0 (fun _ => 0) (fun _ => 0) (fun _ => 0))) := by
  refine xC.of (by decide) (Nat.le_of_ble_eq_true rfl) ?_
  show xW _ _ _ _ 0 [(0, .ref 0), (1, .int a1), (2, .int a2), (3, .int a3)] [] _ 0 0
  refine xi_aload_n 0 dX11_price_0 rfl ?_
  refine xi_iload_n 1 dX11_price_1 rfl ?_
  refine xi_callV (as := [.int a1]) (rest := []) dX11_price_2 (fx_netIn G a1) mkX11_netIn w_491 ws_15 w_489 rfl rfl rfl rfl rfl (Nat.le_of_ble_eq_true rfl) (Nat.le_of_ble_eq_true rfl) (Nat.le_of_ble_eq_true rfl) (Nat.le_of_ble_eq_true rfl) (Nat.le_of_ble_eq_true rfl) ?_
  intro v M2 hq
  obtain ⟨rfl, rfl⟩ := hq
  show xW _ _ _ _ 5 _ [.null] (MX 0 (fun _ => 0) rd0 mo0 (fun _ => 0) (fun _ => 0) (fun _ => 0)) _ _
  refine xi_astoreN (lv' := [(4, .null), (0, .ref 0), (1, .int a1), (2, .int a2), (3, .int a3)]) dX11_price_5 (by decide) rfl ?_
  refine xi_aloadN 0 dX11_price_7 rfl ?_
  refine xi_ifnullN (tgt := 19) dX11_price_9 (by decide) ?_
  refine xi_bipush (v := (-2)) dX11_price_19 (by decide) ?_
  exact xi_iret dX11_price_21 rfl rfl (Nat.le_of_ble_eq_true rfl) (Nat.le_of_ble_eq_true rfl) ⟨rfl, rfl⟩
set_option maxHeartbeats 4000000 in
set_option maxRecDepth 100000 in
theorem fx_worst (G : xG) (a1 a2 : Int32) : xC G mX11_worst 3 0 0 [.ref 0, .int a1, .int a2] (MX 0 (fun _ => 0) rd0 mo0 (fun _ => 0) (fun _ => 0) (fun _ => 0)) (fun v M2 => v = some (.int (-2)) ∧ M2 = (MX 0 (fun _ => 0) rd0 mo0 (fun _ => 0) (fun _ => 0) (fun _ => 0))) := by
  refine xC.of (by decide) (Nat.le_of_ble_eq_true rfl) ?_
  show xW _ _ _ _ 0 [(0, .ref 0), (1, .int a1), (2, .int a2)] [] _ 0 0
  refine xi_aload_n 0 dX11_worst_0 rfl ?_
  refine xi_iload_n 1 dX11_worst_1 rfl ?_
  refine xi_callV (as := [.int a1]) (rest := []) dX11_worst_2 (fx_netIn G a1) mkX11_netIn w_491 ws_15 w_489 rfl rfl rfl rfl rfl (Nat.le_of_ble_eq_true rfl) (Nat.le_of_ble_eq_true rfl) (Nat.le_of_ble_eq_true rfl) (Nat.le_of_ble_eq_true rfl) (Nat.le_of_ble_eq_true rfl) ?_
  intro v M2 hq
  obtain ⟨rfl, rfl⟩ := hq
  show xW _ _ _ _ 5 _ [.null] (MX 0 (fun _ => 0) rd0 mo0 (fun _ => 0) (fun _ => 0) (fun _ => 0)) _ _
  refine xi_astore_nN (lv' := [(3, .null), (0, .ref 0), (1, .int a1), (2, .int a2)]) dX11_worst_5 (by decide) rfl ?_
  refine xi_aload_nN 0 dX11_worst_6 rfl ?_
  refine xi_ifnullN (tgt := 17) dX11_worst_7 (by decide) ?_
  refine xi_bipush (v := (-2)) dX11_worst_17 (by decide) ?_
  exact xi_iret dX11_worst_19 rfl rfl (Nat.le_of_ble_eq_true rfl) (Nat.le_of_ble_eq_true rfl) ⟨rfl, rfl⟩
set_option maxHeartbeats 4000000 in
set_option maxRecDepth 100000 in
theorem fx_longest (G : xG) (a1 : Int32) : xC G mX11_longest 3 0 0 [.ref 0, .int a1] (MX 0 (fun _ => 0) rd0 mo0 (fun _ => 0) (fun _ => 0) (fun _ => 0)) (fun v M2 => v = some (.int (-2)) ∧ M2 = (MX 0 (fun _ => 0) rd0 mo0 (fun _ => 0) (fun _ => 0) (fun _ => 0))) := by
  refine xC.of (by decide) (Nat.le_of_ble_eq_true rfl) ?_
  show xW _ _ _ _ 0 [(0, .ref 0), (1, .int a1)] [] _ 0 0
  refine xi_aload_n 0 dX11_longest_0 rfl ?_
  refine xi_iload_n 1 dX11_longest_1 rfl ?_
  refine xi_callV (as := [.int a1]) (rest := []) dX11_longest_2 (fx_netIn G a1) mkX11_netIn w_491 ws_15 w_489 rfl rfl rfl rfl rfl (Nat.le_of_ble_eq_true rfl) (Nat.le_of_ble_eq_true rfl) (Nat.le_of_ble_eq_true rfl) (Nat.le_of_ble_eq_true rfl) (Nat.le_of_ble_eq_true rfl) ?_
  intro v M2 hq
  obtain ⟨rfl, rfl⟩ := hq
  show xW _ _ _ _ 5 _ [.null] (MX 0 (fun _ => 0) rd0 mo0 (fun _ => 0) (fun _ => 0) (fun _ => 0)) _ _
  refine xi_astore_nN (lv' := [(2, .null), (0, .ref 0), (1, .int a1)]) dX11_longest_5 (by decide) rfl ?_
  refine xi_aload_nN 0 dX11_longest_6 rfl ?_
  refine xi_ifnonnullN dX11_longest_7 ?_
  refine xi_bipush (v := (-2)) dX11_longest_10 (by decide) ?_
  refine xi_goto (tgt := 19) dX11_longest_12 (by decide) ?_
  exact xi_iret dX11_longest_19 rfl rfl (Nat.le_of_ble_eq_true rfl) (Nat.le_of_ble_eq_true rfl) ⟨rfl, rfl⟩
set_option maxHeartbeats 4000000 in
set_option maxRecDepth 100000 in
theorem fx_least (G : xG) (a1 a2 : Int32) : xC G mX11_least 3 0 0 [.ref 0, .int a1, .int a2] (MX 0 (fun _ => 0) rd0 mo0 (fun _ => 0) (fun _ => 0) (fun _ => 0)) (fun v M2 => v = some (.int (-2)) ∧ M2 = (MX 0 (fun _ => 0) rd0 mo0 (fun _ => 0) (fun _ => 0) (fun _ => 0))) := by
  refine xC.of (by decide) (Nat.le_of_ble_eq_true rfl) ?_
  show xW _ _ _ _ 0 [(0, .ref 0), (1, .int a1), (2, .int a2)] [] _ 0 0
  refine xi_aload_n 0 dX11_least_0 rfl ?_
  refine xi_iload_n 1 dX11_least_1 rfl ?_
  refine xi_iload_n 2 dX11_least_2 rfl ?_
  refine xi_callV (as := [.int a1, .int a2]) (rest := []) dX11_least_3 (fx_findingOf G a1 a2) mkX11_findingOf w_659 ws_16 w_657 rfl rfl rfl rfl rfl (Nat.le_of_ble_eq_true rfl) (Nat.le_of_ble_eq_true rfl) (Nat.le_of_ble_eq_true rfl) (Nat.le_of_ble_eq_true rfl) (Nat.le_of_ble_eq_true rfl) ?_
  intro v M2 hq
  obtain ⟨rfl, rfl⟩ := hq
  show xW _ _ _ _ 6 _ [.null] (MX 0 (fun _ => 0) rd0 mo0 (fun _ => 0) (fun _ => 0) (fun _ => 0)) _ _
  refine xi_astore_nN (lv' := [(3, .null), (0, .ref 0), (1, .int a1), (2, .int a2)]) dX11_least_6 (by decide) rfl ?_
  refine xi_aload_nN 0 dX11_least_7 rfl ?_
  refine xi_ifnonnullN dX11_least_8 ?_
  refine xi_bipush (v := (-2)) dX11_least_11 (by decide) ?_
  refine xi_goto (tgt := 20) dX11_least_13 (by decide) ?_
  exact xi_iret dX11_least_20 rfl rfl (Nat.le_of_ble_eq_true rfl) (Nat.le_of_ble_eq_true rfl) ⟨rfl, rfl⟩
set_option maxHeartbeats 4000000 in
set_option maxRecDepth 100000 in
theorem fx_best (G : xG) (a1 a2 a3 : Int32) : xC G mX11_best 3 0 0 [.ref 0, .int a1, .int a2, .int a3] (MX 0 (fun _ => 0) rd0 mo0 (fun _ => 0) (fun _ => 0) (fun _ => 0)) (fun v M2 => v = some (.int (-2)) ∧ M2 = (MX 0 (fun _ => 0) rd0 mo0 (fun _ => 0) (fun _ => 0) (fun _ => 0))) := by
  refine xC.of (by decide) (Nat.le_of_ble_eq_true rfl) ?_
  show xW _ _ _ _ 0 [(0, .ref 0), (1, .int a1), (2, .int a2), (3, .int a3)] [] _ 0 0
  refine xi_aload_n 0 dX11_best_0 rfl ?_
  refine xi_iload_n 1 dX11_best_1 rfl ?_
  refine xi_iload_n 2 dX11_best_2 rfl ?_
  refine xi_callV (as := [.int a1, .int a2]) (rest := []) dX11_best_3 (fx_findingOf G a1 a2) mkX11_findingOf w_659 ws_16 w_657 rfl rfl rfl rfl rfl (Nat.le_of_ble_eq_true rfl) (Nat.le_of_ble_eq_true rfl) (Nat.le_of_ble_eq_true rfl) (Nat.le_of_ble_eq_true rfl) (Nat.le_of_ble_eq_true rfl) ?_
  intro v M2 hq
  obtain ⟨rfl, rfl⟩ := hq
  show xW _ _ _ _ 6 _ [.null] (MX 0 (fun _ => 0) rd0 mo0 (fun _ => 0) (fun _ => 0) (fun _ => 0)) _ _
  refine xi_astoreN (lv' := [(4, .null), (0, .ref 0), (1, .int a1), (2, .int a2), (3, .int a3)]) dX11_best_6 (by decide) rfl ?_
  refine xi_aloadN 0 dX11_best_8 rfl ?_
  refine xi_ifnullN (tgt := 26) dX11_best_10 (by decide) ?_
  refine xi_bipush (v := (-2)) dX11_best_26 (by decide) ?_
  refine xi_goto (tgt := 38) dX11_best_28 (by decide) ?_
  exact xi_iret dX11_best_38 rfl rfl (Nat.le_of_ble_eq_true rfl) (Nat.le_of_ble_eq_true rfl) ⟨rfl, rfl⟩
set_option maxHeartbeats 4000000 in
set_option maxRecDepth 100000 in
theorem fx_ways (G : xG) (a1 a2 : Int32) : xC G mX11_ways 3 0 0 [.ref 0, .int a1, .int a2] (MX 0 (fun _ => 0) rd0 mo0 (fun _ => 0) (fun _ => 0) (fun _ => 0)) (fun v M2 => v = some (.int (-2)) ∧ M2 = (MX 0 (fun _ => 0) rd0 mo0 (fun _ => 0) (fun _ => 0) (fun _ => 0))) := by
  refine xC.of (by decide) (Nat.le_of_ble_eq_true rfl) ?_
  show xW _ _ _ _ 0 [(0, .ref 0), (1, .int a1), (2, .int a2)] [] _ 0 0
  refine xi_aload_n 0 dX11_ways_0 rfl ?_
  refine xi_iload_n 1 dX11_ways_1 rfl ?_
  refine xi_iload_n 2 dX11_ways_2 rfl ?_
  refine xi_callV (as := [.int a1, .int a2]) (rest := []) dX11_ways_3 (fx_findingOf G a1 a2) mkX11_findingOf w_659 ws_16 w_657 rfl rfl rfl rfl rfl (Nat.le_of_ble_eq_true rfl) (Nat.le_of_ble_eq_true rfl) (Nat.le_of_ble_eq_true rfl) (Nat.le_of_ble_eq_true rfl) (Nat.le_of_ble_eq_true rfl) ?_
  intro v M2 hq
  obtain ⟨rfl, rfl⟩ := hq
  show xW _ _ _ _ 6 _ [.null] (MX 0 (fun _ => 0) rd0 mo0 (fun _ => 0) (fun _ => 0) (fun _ => 0)) _ _
  refine xi_astore_nN (lv' := [(3, .null), (0, .ref 0), (1, .int a1), (2, .int a2)]) dX11_ways_6 (by decide) rfl ?_
  refine xi_aload_nN 0 dX11_ways_7 rfl ?_
  refine xi_ifnonnullN dX11_ways_8 ?_
  refine xi_bipush (v := (-2)) dX11_ways_11 (by decide) ?_
  refine xi_goto (tgt := 20) dX11_ways_13 (by decide) ?_
  exact xi_iret dX11_ways_20 rfl rfl (Nat.le_of_ble_eq_true rfl) (Nat.le_of_ble_eq_true rfl) ⟨rfl, rfl⟩
set_option maxHeartbeats 4000000 in
set_option maxRecDepth 100000 in
theorem fx_within (G : xG) (a1 a2 a3 : Int32) : xC G mX11_within 3 0 0 [.ref 0, .int a1, .int a2, .int a3] (MX 0 (fun _ => 0) rd0 mo0 (fun _ => 0) (fun _ => 0) (fun _ => 0)) (fun v M2 => v = some (.int (-2)) ∧ M2 = (MX 0 (fun _ => 0) rd0 mo0 (fun _ => 0) (fun _ => 0) (fun _ => 0))) := by
  refine xC.of (by decide) (Nat.le_of_ble_eq_true rfl) ?_
  show xW _ _ _ _ 0 [(0, .ref 0), (1, .int a1), (2, .int a2), (3, .int a3)] [] _ 0 0
  refine xi_aload_n 0 dX11_within_0 rfl ?_
  refine xi_iload_n 1 dX11_within_1 rfl ?_
  refine xi_callV (as := [.int a1]) (rest := []) dX11_within_2 (fx_netIn G a1) mkX11_netIn w_491 ws_15 w_489 rfl rfl rfl rfl rfl (Nat.le_of_ble_eq_true rfl) (Nat.le_of_ble_eq_true rfl) (Nat.le_of_ble_eq_true rfl) (Nat.le_of_ble_eq_true rfl) (Nat.le_of_ble_eq_true rfl) ?_
  intro v M2 hq
  obtain ⟨rfl, rfl⟩ := hq
  show xW _ _ _ _ 5 _ [.null] (MX 0 (fun _ => 0) rd0 mo0 (fun _ => 0) (fun _ => 0) (fun _ => 0)) _ _
  refine xi_astoreN (lv' := [(4, .null), (0, .ref 0), (1, .int a1), (2, .int a2), (3, .int a3)]) dX11_within_5 (by decide) rfl ?_
  refine xi_aloadN 0 dX11_within_7 rfl ?_
  refine xi_ifnullN (tgt := 23) dX11_within_9 (by decide) ?_
  refine xi_bipush (v := (-2)) dX11_within_23 (by decide) ?_
  exact xi_iret dX11_within_25 rfl rfl (Nat.le_of_ble_eq_true rfl) (Nat.le_of_ble_eq_true rfl) ⟨rfl, rfl⟩
set_option maxHeartbeats 4000000 in
set_option maxRecDepth 100000 in
theorem fx_firsts (G : xG) (a1 a2 : Int32) : xC G mX11_firsts 3 0 0 [.ref 0, .int a1, .int a2] (MX 0 (fun _ => 0) rd0 mo0 (fun _ => 0) (fun _ => 0) (fun _ => 0)) (fun v M2 => v = some (.int (-2)) ∧ M2 = (MX 0 (fun _ => 0) rd0 mo0 (fun _ => 0) (fun _ => 0) (fun _ => 0))) := by
  refine xC.of (by decide) (Nat.le_of_ble_eq_true rfl) ?_
  show xW _ _ _ _ 0 [(0, .ref 0), (1, .int a1), (2, .int a2)] [] _ 0 0
  refine xi_aload_n 0 dX11_firsts_0 rfl ?_
  refine xi_iload_n 1 dX11_firsts_1 rfl ?_
  refine xi_iload_n 2 dX11_firsts_2 rfl ?_
  refine xi_callV (as := [.int a1, .int a2]) (rest := []) dX11_firsts_3 (fx_findingOf G a1 a2) mkX11_findingOf w_659 ws_16 w_657 rfl rfl rfl rfl rfl (Nat.le_of_ble_eq_true rfl) (Nat.le_of_ble_eq_true rfl) (Nat.le_of_ble_eq_true rfl) (Nat.le_of_ble_eq_true rfl) (Nat.le_of_ble_eq_true rfl) ?_
  intro v M2 hq
  obtain ⟨rfl, rfl⟩ := hq
  show xW _ _ _ _ 6 _ [.null] (MX 0 (fun _ => 0) rd0 mo0 (fun _ => 0) (fun _ => 0) (fun _ => 0)) _ _
  refine xi_astore_nN (lv' := [(3, .null), (0, .ref 0), (1, .int a1), (2, .int a2)]) dX11_firsts_6 (by decide) rfl ?_
  refine xi_aload_nN 0 dX11_firsts_7 rfl ?_
  refine xi_ifnonnullN dX11_firsts_8 ?_
  refine xi_bipush (v := (-2)) dX11_firsts_11 (by decide) ?_
  refine xi_goto (tgt := 20) dX11_firsts_13 (by decide) ?_
  exact xi_iret dX11_firsts_20 rfl rfl (Nat.le_of_ble_eq_true rfl) (Nat.le_of_ble_eq_true rfl) ⟨rfl, rfl⟩
set_option maxHeartbeats 4000000 in
set_option maxRecDepth 100000 in
theorem fx_bound (G : xG) (a1 a2 a3 : Int32) : xC G mX11_bound 3 0 0 [.ref 0, .int a1, .int a2, .int a3] (MX 0 (fun _ => 0) rd0 mo0 (fun _ => 0) (fun _ => 0) (fun _ => 0)) (fun v M2 => v = some (.int (-2)) ∧ M2 = (MX 0 (fun _ => 0) rd0 mo0 (fun _ => 0) (fun _ => 0) (fun _ => 0))) := by
  refine xC.of (by decide) (Nat.le_of_ble_eq_true rfl) ?_
  show xW _ _ _ _ 0 [(0, .ref 0), (1, .int a1), (2, .int a2), (3, .int a3)] [] _ 0 0
  refine xi_aload_n 0 dX11_bound_0 rfl ?_
  refine xi_iload_n 1 dX11_bound_1 rfl ?_
  refine xi_callV (as := [.int a1]) (rest := []) dX11_bound_2 (fx_netIn G a1) mkX11_netIn w_491 ws_15 w_489 rfl rfl rfl rfl rfl (Nat.le_of_ble_eq_true rfl) (Nat.le_of_ble_eq_true rfl) (Nat.le_of_ble_eq_true rfl) (Nat.le_of_ble_eq_true rfl) (Nat.le_of_ble_eq_true rfl) ?_
  intro v M2 hq
  obtain ⟨rfl, rfl⟩ := hq
  show xW _ _ _ _ 5 _ [.null] (MX 0 (fun _ => 0) rd0 mo0 (fun _ => 0) (fun _ => 0) (fun _ => 0)) _ _
  refine xi_astoreN (lv' := [(4, .null), (0, .ref 0), (1, .int a1), (2, .int a2), (3, .int a3)]) dX11_bound_5 (by decide) rfl ?_
  refine xi_aloadN 0 dX11_bound_7 rfl ?_
  refine xi_ifnullN (tgt := 19) dX11_bound_9 (by decide) ?_
  refine xi_bipush (v := (-2)) dX11_bound_19 (by decide) ?_
  exact xi_iret dX11_bound_21 rfl rfl (Nat.le_of_ble_eq_true rfl) (Nat.le_of_ble_eq_true rfl) ⟨rfl, rfl⟩
set_option maxHeartbeats 4000000 in
set_option maxRecDepth 100000 in
theorem fx_minor (G : xG) (a1 : Int32) : xC G mX11_minor 3 0 0 [.ref 0, .int a1] (MX 0 (fun _ => 0) rd0 mo0 (fun _ => 0) (fun _ => 0) (fun _ => 0)) (fun v M2 => v = some (.int (-2)) ∧ M2 = (MX 0 (fun _ => 0) rd0 mo0 (fun _ => 0) (fun _ => 0) (fun _ => 0))) := by
  refine xC.of (by decide) (Nat.le_of_ble_eq_true rfl) ?_
  show xW _ _ _ _ 0 [(0, .ref 0), (1, .int a1)] [] _ 0 0
  refine xi_aload_n 0 dX11_minor_0 rfl ?_
  refine xi_iload_n 1 dX11_minor_1 rfl ?_
  refine xi_callV (as := [.int a1]) (rest := []) dX11_minor_2 (fx_netIn G a1) mkX11_netIn w_491 ws_15 w_489 rfl rfl rfl rfl rfl (Nat.le_of_ble_eq_true rfl) (Nat.le_of_ble_eq_true rfl) (Nat.le_of_ble_eq_true rfl) (Nat.le_of_ble_eq_true rfl) (Nat.le_of_ble_eq_true rfl) ?_
  intro v M2 hq
  obtain ⟨rfl, rfl⟩ := hq
  show xW _ _ _ _ 5 _ [.null] (MX 0 (fun _ => 0) rd0 mo0 (fun _ => 0) (fun _ => 0) (fun _ => 0)) _ _
  refine xi_astore_nN (lv' := [(2, .null), (0, .ref 0), (1, .int a1)]) dX11_minor_5 (by decide) rfl ?_
  refine xi_aload_nN 0 dX11_minor_6 rfl ?_
  refine xi_ifnonnullN dX11_minor_7 ?_
  refine xi_bipush (v := (-2)) dX11_minor_10 (by decide) ?_
  exact xi_iret dX11_minor_12 rfl rfl (Nat.le_of_ble_eq_true rfl) (Nat.le_of_ble_eq_true rfl) ⟨rfl, rfl⟩
set_option maxHeartbeats 4000000 in
set_option maxRecDepth 100000 in
theorem fx_among (G : xG) (a1 a2 a3 : Int32) : xC G mX11_among 3 0 0 [.ref 0, .int a1, .int a2, .int a3] (MX 0 (fun _ => 0) rd0 mo0 (fun _ => 0) (fun _ => 0) (fun _ => 0)) (fun v M2 => v = some (.int (-2)) ∧ M2 = (MX 0 (fun _ => 0) rd0 mo0 (fun _ => 0) (fun _ => 0) (fun _ => 0))) := by
  refine xC.of (by decide) (Nat.le_of_ble_eq_true rfl) ?_
  show xW _ _ _ _ 0 [(0, .ref 0), (1, .int a1), (2, .int a2), (3, .int a3)] [] _ 0 0
  refine xi_aload_n 0 dX11_among_0 rfl ?_
  refine xi_iload_n 1 dX11_among_1 rfl ?_
  refine xi_iload_n 2 dX11_among_2 rfl ?_
  refine xi_callV (as := [.int a1, .int a2]) (rest := []) dX11_among_3 (fx_findingOf G a1 a2) mkX11_findingOf w_659 ws_16 w_657 rfl rfl rfl rfl rfl (Nat.le_of_ble_eq_true rfl) (Nat.le_of_ble_eq_true rfl) (Nat.le_of_ble_eq_true rfl) (Nat.le_of_ble_eq_true rfl) (Nat.le_of_ble_eq_true rfl) ?_
  intro v M2 hq
  obtain ⟨rfl, rfl⟩ := hq
  show xW _ _ _ _ 6 _ [.null] (MX 0 (fun _ => 0) rd0 mo0 (fun _ => 0) (fun _ => 0) (fun _ => 0)) _ _
  refine xi_astoreN (lv' := [(4, .null), (0, .ref 0), (1, .int a1), (2, .int a2), (3, .int a3)]) dX11_among_6 (by decide) rfl ?_
  refine xi_aloadN 0 dX11_among_8 rfl ?_
  refine xi_ifnullN (tgt := 32) dX11_among_10 (by decide) ?_
  refine xi_bipush (v := (-2)) dX11_among_32 (by decide) ?_
  exact xi_iret dX11_among_34 rfl rfl (Nat.le_of_ble_eq_true rfl) (Nat.le_of_ble_eq_true rfl) ⟨rfl, rfl⟩
set_option maxHeartbeats 4000000 in
set_option maxRecDepth 100000 in
theorem fx_split (G : xG) (a1 a2 a3 : Int32) : xC G mX11_split 3 0 0 [.ref 0, .int a1, .int a2, .int a3] (MX 0 (fun _ => 0) rd0 mo0 (fun _ => 0) (fun _ => 0) (fun _ => 0)) (fun v M2 => v = some (.int (-2)) ∧ M2 = (MX 0 (fun _ => 0) rd0 mo0 (fun _ => 0) (fun _ => 0) (fun _ => 0))) := by
  refine xC.of (by decide) (Nat.le_of_ble_eq_true rfl) ?_
  show xW _ _ _ _ 0 [(0, .ref 0), (1, .int a1), (2, .int a2), (3, .int a3)] [] _ 0 0
  refine xi_aload_n 0 dX11_split_0 rfl ?_
  refine xi_iload_n 1 dX11_split_1 rfl ?_
  refine xi_callV (as := [.int a1]) (rest := []) dX11_split_2 (fx_netIn G a1) mkX11_netIn w_491 ws_15 w_489 rfl rfl rfl rfl rfl (Nat.le_of_ble_eq_true rfl) (Nat.le_of_ble_eq_true rfl) (Nat.le_of_ble_eq_true rfl) (Nat.le_of_ble_eq_true rfl) (Nat.le_of_ble_eq_true rfl) ?_
  intro v M2 hq
  obtain ⟨rfl, rfl⟩ := hq
  show xW _ _ _ _ 5 _ [.null] (MX 0 (fun _ => 0) rd0 mo0 (fun _ => 0) (fun _ => 0) (fun _ => 0)) _ _
  refine xi_astoreN (lv' := [(4, .null), (0, .ref 0), (1, .int a1), (2, .int a2), (3, .int a3)]) dX11_split_5 (by decide) rfl ?_
  refine xi_aloadN 0 dX11_split_7 rfl ?_
  refine xi_ifnullN (tgt := 25) dX11_split_9 (by decide) ?_
  refine xi_bipush (v := (-2)) dX11_split_25 (by decide) ?_
  exact xi_iret dX11_split_27 rfl rfl (Nat.le_of_ble_eq_true rfl) (Nat.le_of_ble_eq_true rfl) ⟨rfl, rfl⟩
set_option maxHeartbeats 4000000 in
set_option maxRecDepth 100000 in
theorem fx_halve (G : xG) (a1 : Int32) : xC G mX11_halve 3 0 0 [.ref 0, .int a1] (MX 0 (fun _ => 0) rd0 mo0 (fun _ => 0) (fun _ => 0) (fun _ => 0)) (fun v M2 => v = some (.int (-2)) ∧ M2 = (MX 0 (fun _ => 0) rd0 mo0 (fun _ => 0) (fun _ => 0) (fun _ => 0))) := by
  refine xC.of (by decide) (Nat.le_of_ble_eq_true rfl) ?_
  show xW _ _ _ _ 0 [(0, .ref 0), (1, .int a1)] [] _ 0 0
  refine xi_aload_n 0 dX11_halve_0 rfl ?_
  refine xi_iload_n 1 dX11_halve_1 rfl ?_
  refine xi_callV (as := [.int a1]) (rest := []) dX11_halve_2 (fx_netIn G a1) mkX11_netIn w_491 ws_15 w_489 rfl rfl rfl rfl rfl (Nat.le_of_ble_eq_true rfl) (Nat.le_of_ble_eq_true rfl) (Nat.le_of_ble_eq_true rfl) (Nat.le_of_ble_eq_true rfl) (Nat.le_of_ble_eq_true rfl) ?_
  intro v M2 hq
  obtain ⟨rfl, rfl⟩ := hq
  show xW _ _ _ _ 5 _ [.null] (MX 0 (fun _ => 0) rd0 mo0 (fun _ => 0) (fun _ => 0) (fun _ => 0)) _ _
  refine xi_astore_nN (lv' := [(2, .null), (0, .ref 0), (1, .int a1)]) dX11_halve_5 (by decide) rfl ?_
  refine xi_aload_nN 0 dX11_halve_6 rfl ?_
  refine xi_ifnonnullN dX11_halve_7 ?_
  refine xi_bipush (v := (-2)) dX11_halve_10 (by decide) ?_
  refine xi_goto (tgt := 19) dX11_halve_12 (by decide) ?_
  exact xi_iret dX11_halve_19 rfl rfl (Nat.le_of_ble_eq_true rfl) (Nat.le_of_ble_eq_true rfl) ⟨rfl, rfl⟩
set_option maxHeartbeats 4000000 in
set_option maxRecDepth 100000 in
theorem fx_bag (G : xG) (a1 a2 a3 : Int32) : xC G mX11_bag 3 0 0 [.ref 0, .int a1, .int a2, .int a3] (MX 0 (fun _ => 0) rd0 mo0 (fun _ => 0) (fun _ => 0) (fun _ => 0)) (fun v M2 => v = some (.int (-2)) ∧ M2 = (MX 0 (fun _ => 0) rd0 mo0 (fun _ => 0) (fun _ => 0) (fun _ => 0))) := by
  refine xC.of (by decide) (Nat.le_of_ble_eq_true rfl) ?_
  show xW _ _ _ _ 0 [(0, .ref 0), (1, .int a1), (2, .int a2), (3, .int a3)] [] _ 0 0
  refine xi_aload_n 0 dX11_bag_0 rfl ?_
  refine xi_iload_n 1 dX11_bag_1 rfl ?_
  refine xi_callV (as := [.int a1]) (rest := []) dX11_bag_2 (fx_netIn G a1) mkX11_netIn w_491 ws_15 w_489 rfl rfl rfl rfl rfl (Nat.le_of_ble_eq_true rfl) (Nat.le_of_ble_eq_true rfl) (Nat.le_of_ble_eq_true rfl) (Nat.le_of_ble_eq_true rfl) (Nat.le_of_ble_eq_true rfl) ?_
  intro v M2 hq
  obtain ⟨rfl, rfl⟩ := hq
  show xW _ _ _ _ 5 _ [.null] (MX 0 (fun _ => 0) rd0 mo0 (fun _ => 0) (fun _ => 0) (fun _ => 0)) _ _
  refine xi_astoreN (lv' := [(4, .null), (0, .ref 0), (1, .int a1), (2, .int a2), (3, .int a3)]) dX11_bag_5 (by decide) rfl ?_
  refine xi_aloadN 0 dX11_bag_7 rfl ?_
  refine xi_ifnullN (tgt := 21) dX11_bag_9 (by decide) ?_
  refine xi_bipush (v := (-2)) dX11_bag_21 (by decide) ?_
  exact xi_iret dX11_bag_23 rfl rfl (Nat.le_of_ble_eq_true rfl) (Nat.le_of_ble_eq_true rfl) ⟨rfl, rfl⟩
set_option maxHeartbeats 4000000 in
set_option maxRecDepth 100000 in
theorem fx_filled (G : xG) (a1 a2 : Int32) : xC G mX11_filled 3 0 0 [.ref 0, .int a1, .int a2] (MX 0 (fun _ => 0) rd0 mo0 (fun _ => 0) (fun _ => 0) (fun _ => 0)) (fun v M2 => v = some (.int (-2)) ∧ M2 = (MX 0 (fun _ => 0) rd0 mo0 (fun _ => 0) (fun _ => 0) (fun _ => 0))) := by
  refine xC.of (by decide) (Nat.le_of_ble_eq_true rfl) ?_
  show xW _ _ _ _ 0 [(0, .ref 0), (1, .int a1), (2, .int a2)] [] _ 0 0
  refine xi_aload_n 0 dX11_filled_0 rfl ?_
  refine xi_iload_n 1 dX11_filled_1 rfl ?_
  refine xi_callV (as := [.int a1]) (rest := []) dX11_filled_2 (fx_netIn G a1) mkX11_netIn w_491 ws_15 w_489 rfl rfl rfl rfl rfl (Nat.le_of_ble_eq_true rfl) (Nat.le_of_ble_eq_true rfl) (Nat.le_of_ble_eq_true rfl) (Nat.le_of_ble_eq_true rfl) (Nat.le_of_ble_eq_true rfl) ?_
  intro v M2 hq
  obtain ⟨rfl, rfl⟩ := hq
  show xW _ _ _ _ 5 _ [.null] (MX 0 (fun _ => 0) rd0 mo0 (fun _ => 0) (fun _ => 0) (fun _ => 0)) _ _
  refine xi_astore_nN (lv' := [(3, .null), (0, .ref 0), (1, .int a1), (2, .int a2)]) dX11_filled_5 (by decide) rfl ?_
  refine xi_aload_nN 0 dX11_filled_6 rfl ?_
  refine xi_ifnullN (tgt := 15) dX11_filled_7 (by decide) ?_
  refine xi_bipush (v := (-2)) dX11_filled_15 (by decide) ?_
  refine xi_goto (tgt := 25) dX11_filled_17 (by decide) ?_
  exact xi_iret dX11_filled_25 rfl rfl (Nat.le_of_ble_eq_true rfl) (Nat.le_of_ble_eq_true rfl) ⟨rfl, rfl⟩
set_option maxHeartbeats 4000000 in
set_option maxRecDepth 100000 in
theorem fx_gain (G : xG) (a1 a2 a3 a4 : Int32) : xC G mX11_gain 3 0 0 [.ref 0, .int a1, .int a2, .int a3, .int a4] (MX 0 (fun _ => 0) rd0 mo0 (fun _ => 0) (fun _ => 0) (fun _ => 0)) (fun v M2 => v = some (.int (-1000)) ∧ M2 = (MX 0 (fun _ => 0) rd0 mo0 (fun _ => 0) (fun _ => 0) (fun _ => 0))) := by
  refine xC.of (by decide) (Nat.le_of_ble_eq_true rfl) ?_
  show xW _ _ _ _ 0 [(0, .ref 0), (1, .int a1), (2, .int a2), (3, .int a3), (4, .int a4)] [] _ 0 0
  refine xi_aload_n 0 dX11_gain_0 rfl ?_
  refine xi_iload_n 1 dX11_gain_1 rfl ?_
  refine xi_callV (as := [.int a1]) (rest := []) dX11_gain_2 (fx_netIn G a1) mkX11_netIn w_491 ws_15 w_489 rfl rfl rfl rfl rfl (Nat.le_of_ble_eq_true rfl) (Nat.le_of_ble_eq_true rfl) (Nat.le_of_ble_eq_true rfl) (Nat.le_of_ble_eq_true rfl) (Nat.le_of_ble_eq_true rfl) ?_
  intro v M2 hq
  obtain ⟨rfl, rfl⟩ := hq
  show xW _ _ _ _ 5 _ [.null] (MX 0 (fun _ => 0) rd0 mo0 (fun _ => 0) (fun _ => 0) (fun _ => 0)) _ _
  refine xi_astoreN (lv' := [(5, .null), (0, .ref 0), (1, .int a1), (2, .int a2), (3, .int a3), (4, .int a4)]) dX11_gain_5 (by decide) rfl ?_
  refine xi_aloadN 0 dX11_gain_7 rfl ?_
  refine xi_ifnullN (tgt := 38) dX11_gain_9 (by decide) ?_
  refine xi_sipush (v := (-1000)) dX11_gain_38 (by decide) ?_
  exact xi_iret dX11_gain_41 rfl rfl (Nat.le_of_ble_eq_true rfl) (Nat.le_of_ble_eq_true rfl) ⟨rfl, rfl⟩
set_option maxHeartbeats 4000000 in
set_option maxRecDepth 100000 in
theorem fx_swaps (G : xG) (a1 a2 a3 : Int32) : xC G mX11_swaps 3 0 0 [.ref 0, .int a1, .int a2, .int a3] (MX 0 (fun _ => 0) rd0 mo0 (fun _ => 0) (fun _ => 0) (fun _ => 0)) (fun v M2 => v = some (.int (-2)) ∧ M2 = (MX 0 (fun _ => 0) rd0 mo0 (fun _ => 0) (fun _ => 0) (fun _ => 0))) := by
  refine xC.of (by decide) (Nat.le_of_ble_eq_true rfl) ?_
  show xW _ _ _ _ 0 [(0, .ref 0), (1, .int a1), (2, .int a2), (3, .int a3)] [] _ 0 0
  refine xi_aload_n 0 dX11_swaps_0 rfl ?_
  refine xi_iload_n 1 dX11_swaps_1 rfl ?_
  refine xi_callV (as := [.int a1]) (rest := []) dX11_swaps_2 (fx_netIn G a1) mkX11_netIn w_491 ws_15 w_489 rfl rfl rfl rfl rfl (Nat.le_of_ble_eq_true rfl) (Nat.le_of_ble_eq_true rfl) (Nat.le_of_ble_eq_true rfl) (Nat.le_of_ble_eq_true rfl) (Nat.le_of_ble_eq_true rfl) ?_
  intro v M2 hq
  obtain ⟨rfl, rfl⟩ := hq
  show xW _ _ _ _ 5 _ [.null] (MX 0 (fun _ => 0) rd0 mo0 (fun _ => 0) (fun _ => 0) (fun _ => 0)) _ _
  refine xi_astoreN (lv' := [(4, .null), (0, .ref 0), (1, .int a1), (2, .int a2), (3, .int a3)]) dX11_swaps_5 (by decide) rfl ?_
  refine xi_aloadN 0 dX11_swaps_7 rfl ?_
  refine xi_ifnullN (tgt := 30) dX11_swaps_9 (by decide) ?_
  refine xi_bipush (v := (-2)) dX11_swaps_30 (by decide) ?_
  exact xi_iret dX11_swaps_32 rfl rfl (Nat.le_of_ble_eq_true rfl) (Nat.le_of_ble_eq_true rfl) ⟨rfl, rfl⟩
set_option maxHeartbeats 4000000 in
set_option maxRecDepth 100000 in
theorem fx_moves (G : xG) (a1 a2 a3 : Int32) : xC G mX11_moves 3 0 0 [.ref 0, .int a1, .int a2, .int a3] (MX 0 (fun _ => 0) rd0 mo0 (fun _ => 0) (fun _ => 0) (fun _ => 0)) (fun v M2 => v = some (.int (-2)) ∧ M2 = (MX 0 (fun _ => 0) rd0 mo0 (fun _ => 0) (fun _ => 0) (fun _ => 0))) := by
  refine xC.of (by decide) (Nat.le_of_ble_eq_true rfl) ?_
  show xW _ _ _ _ 0 [(0, .ref 0), (1, .int a1), (2, .int a2), (3, .int a3)] [] _ 0 0
  refine xi_aload_n 0 dX11_moves_0 rfl ?_
  refine xi_iload_n 1 dX11_moves_1 rfl ?_
  refine xi_callV (as := [.int a1]) (rest := []) dX11_moves_2 (fx_netIn G a1) mkX11_netIn w_491 ws_15 w_489 rfl rfl rfl rfl rfl (Nat.le_of_ble_eq_true rfl) (Nat.le_of_ble_eq_true rfl) (Nat.le_of_ble_eq_true rfl) (Nat.le_of_ble_eq_true rfl) (Nat.le_of_ble_eq_true rfl) ?_
  intro v M2 hq
  obtain ⟨rfl, rfl⟩ := hq
  show xW _ _ _ _ 5 _ [.null] (MX 0 (fun _ => 0) rd0 mo0 (fun _ => 0) (fun _ => 0) (fun _ => 0)) _ _
  refine xi_astoreN (lv' := [(4, .null), (0, .ref 0), (1, .int a1), (2, .int a2), (3, .int a3)]) dX11_moves_5 (by decide) rfl ?_
  refine xi_aloadN 0 dX11_moves_7 rfl ?_
  refine xi_ifnullN (tgt := 30) dX11_moves_9 (by decide) ?_
  refine xi_bipush (v := (-2)) dX11_moves_30 (by decide) ?_
  exact xi_iret dX11_moves_32 rfl rfl (Nat.le_of_ble_eq_true rfl) (Nat.le_of_ble_eq_true rfl) ⟨rfl, rfl⟩
set_option maxHeartbeats 4000000 in
set_option maxRecDepth 100000 in
theorem fx_reverse (G : xG) (a1 : Int32) : xC G mX11_reverse 3 0 0 [.ref 0, .int a1] (MX 0 (fun _ => 0) rd0 mo0 (fun _ => 0) (fun _ => 0) (fun _ => 0)) (fun v M2 => v = some (.int (-2)) ∧ M2 = (MX 0 (fun _ => 0) rd0 mo0 (fun _ => 0) (fun _ => 0) (fun _ => 0))) := by
  refine xC.of (by decide) (Nat.le_of_ble_eq_true rfl) ?_
  show xW _ _ _ _ 0 [(0, .ref 0), (1, .int a1)] [] _ 0 0
  refine xi_aload_n 0 dX11_reverse_0 rfl ?_
  refine xi_iload_n 1 dX11_reverse_1 rfl ?_
  refine xi_callV (as := [.int a1]) (rest := []) dX11_reverse_2 (fx_netIn G a1) mkX11_netIn w_491 ws_15 w_489 rfl rfl rfl rfl rfl (Nat.le_of_ble_eq_true rfl) (Nat.le_of_ble_eq_true rfl) (Nat.le_of_ble_eq_true rfl) (Nat.le_of_ble_eq_true rfl) (Nat.le_of_ble_eq_true rfl) ?_
  intro v M2 hq
  obtain ⟨rfl, rfl⟩ := hq
  show xW _ _ _ _ 5 _ [.null] (MX 0 (fun _ => 0) rd0 mo0 (fun _ => 0) (fun _ => 0) (fun _ => 0)) _ _
  refine xi_astore_nN (lv' := [(2, .null), (0, .ref 0), (1, .int a1)]) dX11_reverse_5 (by decide) rfl ?_
  refine xi_aload_nN 0 dX11_reverse_6 rfl ?_
  refine xi_ifnonnullN dX11_reverse_7 ?_
  refine xi_bipush (v := (-2)) dX11_reverse_10 (by decide) ?_
  exact xi_iret dX11_reverse_12 rfl rfl (Nat.le_of_ble_eq_true rfl) (Nat.le_of_ble_eq_true rfl) ⟨rfl, rfl⟩
set_option maxHeartbeats 4000000 in
set_option maxRecDepth 100000 in
theorem fx_takes (G : xG) (a1 a2 : Int32) : xC G mX11_takes 3 0 0 [.ref 0, .int a1, .int a2] (MX 0 (fun _ => 0) rd0 mo0 (fun _ => 0) (fun _ => 0) (fun _ => 0)) (fun v M2 => v = some (.int (-2)) ∧ M2 = (MX 0 (fun _ => 0) rd0 mo0 (fun _ => 0) (fun _ => 0) (fun _ => 0))) := by
  refine xC.of (by decide) (Nat.le_of_ble_eq_true rfl) ?_
  show xW _ _ _ _ 0 [(0, .ref 0), (1, .int a1), (2, .int a2)] [] _ 0 0
  refine xi_aload_n 0 dX11_takes_0 rfl ?_
  refine xi_iload_n 1 dX11_takes_1 rfl ?_
  refine xi_iload_n 2 dX11_takes_2 rfl ?_
  refine xi_callV (as := [.int a1, .int a2]) (rest := []) dX11_takes_3 (fx_findingOf G a1 a2) mkX11_findingOf w_659 ws_16 w_657 rfl rfl rfl rfl rfl (Nat.le_of_ble_eq_true rfl) (Nat.le_of_ble_eq_true rfl) (Nat.le_of_ble_eq_true rfl) (Nat.le_of_ble_eq_true rfl) (Nat.le_of_ble_eq_true rfl) ?_
  intro v M2 hq
  obtain ⟨rfl, rfl⟩ := hq
  show xW _ _ _ _ 6 _ [.null] (MX 0 (fun _ => 0) rd0 mo0 (fun _ => 0) (fun _ => 0) (fun _ => 0)) _ _
  refine xi_astore_nN (lv' := [(3, .null), (0, .ref 0), (1, .int a1), (2, .int a2)]) dX11_takes_6 (by decide) rfl ?_
  refine xi_aload_nN 0 dX11_takes_7 rfl ?_
  refine xi_ifnonnullN dX11_takes_8 ?_
  refine xi_bipush (v := (-2)) dX11_takes_11 (by decide) ?_
  exact xi_iret dX11_takes_13 rfl rfl (Nat.le_of_ble_eq_true rfl) (Nat.le_of_ble_eq_true rfl) ⟨rfl, rfl⟩
set_option maxHeartbeats 4000000 in
set_option maxRecDepth 100000 in
theorem fx_polish (G : xG) (a1 a2 : Int32) : xC G mX11_polish 3 0 0 [.ref 0, .int a1, .int a2] (MX 0 (fun _ => 0) rd0 mo0 (fun _ => 0) (fun _ => 0) (fun _ => 0)) (fun v M2 => v = some (.int (-2)) ∧ M2 = (MX 0 (fun _ => 0) rd0 mo0 (fun _ => 0) (fun _ => 0) (fun _ => 0))) := by
  refine xC.of (by decide) (Nat.le_of_ble_eq_true rfl) ?_
  show xW _ _ _ _ 0 [(0, .ref 0), (1, .int a1), (2, .int a2)] [] _ 0 0
  refine xi_aload_n 0 dX11_polish_0 rfl ?_
  refine xi_iload_n 1 dX11_polish_1 rfl ?_
  refine xi_callV (as := [.int a1]) (rest := []) dX11_polish_2 (fx_netIn G a1) mkX11_netIn w_491 ws_15 w_489 rfl rfl rfl rfl rfl (Nat.le_of_ble_eq_true rfl) (Nat.le_of_ble_eq_true rfl) (Nat.le_of_ble_eq_true rfl) (Nat.le_of_ble_eq_true rfl) (Nat.le_of_ble_eq_true rfl) ?_
  intro v M2 hq
  obtain ⟨rfl, rfl⟩ := hq
  show xW _ _ _ _ 5 _ [.null] (MX 0 (fun _ => 0) rd0 mo0 (fun _ => 0) (fun _ => 0) (fun _ => 0)) _ _
  refine xi_astore_nN (lv' := [(3, .null), (0, .ref 0), (1, .int a1), (2, .int a2)]) dX11_polish_5 (by decide) rfl ?_
  refine xi_aload_nN 0 dX11_polish_6 rfl ?_
  refine xi_ifnullN (tgt := 17) dX11_polish_7 (by decide) ?_
  refine xi_bipush (v := (-2)) dX11_polish_17 (by decide) ?_
  exact xi_iret dX11_polish_19 rfl rfl (Nat.le_of_ble_eq_true rfl) (Nat.le_of_ble_eq_true rfl) ⟨rfl, rfl⟩
set_option maxHeartbeats 4000000 in
set_option maxRecDepth 100000 in
theorem fx_polished (G : xG) (a1 a2 : Int32) : xC G mX11_polished 3 0 0 [.ref 0, .int a1, .int a2] (MX 0 (fun _ => 0) rd0 mo0 (fun _ => 0) (fun _ => 0) (fun _ => 0)) (fun v M2 => v = some (.int (-2)) ∧ M2 = (MX 0 (fun _ => 0) rd0 mo0 (fun _ => 0) (fun _ => 0) (fun _ => 0))) := by
  refine xC.of (by decide) (Nat.le_of_ble_eq_true rfl) ?_
  show xW _ _ _ _ 0 [(0, .ref 0), (1, .int a1), (2, .int a2)] [] _ 0 0
  refine xi_aload_n 0 dX11_polished_0 rfl ?_
  refine xi_iload_n 1 dX11_polished_1 rfl ?_
  refine xi_callV (as := [.int a1]) (rest := []) dX11_polished_2 (fx_netIn G a1) mkX11_netIn w_491 ws_15 w_489 rfl rfl rfl rfl rfl (Nat.le_of_ble_eq_true rfl) (Nat.le_of_ble_eq_true rfl) (Nat.le_of_ble_eq_true rfl) (Nat.le_of_ble_eq_true rfl) (Nat.le_of_ble_eq_true rfl) ?_
  intro v M2 hq
  obtain ⟨rfl, rfl⟩ := hq
  show xW _ _ _ _ 5 _ [.null] (MX 0 (fun _ => 0) rd0 mo0 (fun _ => 0) (fun _ => 0) (fun _ => 0)) _ _
  refine xi_astore_nN (lv' := [(3, .null), (0, .ref 0), (1, .int a1), (2, .int a2)]) dX11_polished_5 (by decide) rfl ?_
  refine xi_aload_nN 0 dX11_polished_6 rfl ?_
  refine xi_ifnullN (tgt := 17) dX11_polished_7 (by decide) ?_
  refine xi_bipush (v := (-2)) dX11_polished_17 (by decide) ?_
  exact xi_iret dX11_polished_19 rfl rfl (Nat.le_of_ble_eq_true rfl) (Nat.le_of_ble_eq_true rfl) ⟨rfl, rfl⟩
set_option maxHeartbeats 4000000 in
set_option maxRecDepth 100000 in
theorem fx_greedy (G : xG) (a1 a2 : Int32) : xC G mX11_greedy 3 0 0 [.ref 0, .int a1, .int a2] (MX 0 (fun _ => 0) rd0 mo0 (fun _ => 0) (fun _ => 0) (fun _ => 0)) (fun v M2 => v = some (.int (-2)) ∧ M2 = (MX 0 (fun _ => 0) rd0 mo0 (fun _ => 0) (fun _ => 0) (fun _ => 0))) := by
  refine xC.of (by decide) (Nat.le_of_ble_eq_true rfl) ?_
  show xW _ _ _ _ 0 [(0, .ref 0), (1, .int a1), (2, .int a2)] [] _ 0 0
  refine xi_aload_n 0 dX11_greedy_0 rfl ?_
  refine xi_iload_n 1 dX11_greedy_1 rfl ?_
  refine xi_callV (as := [.int a1]) (rest := []) dX11_greedy_2 (fx_netIn G a1) mkX11_netIn w_491 ws_15 w_489 rfl rfl rfl rfl rfl (Nat.le_of_ble_eq_true rfl) (Nat.le_of_ble_eq_true rfl) (Nat.le_of_ble_eq_true rfl) (Nat.le_of_ble_eq_true rfl) (Nat.le_of_ble_eq_true rfl) ?_
  intro v M2 hq
  obtain ⟨rfl, rfl⟩ := hq
  show xW _ _ _ _ 5 _ [.null] (MX 0 (fun _ => 0) rd0 mo0 (fun _ => 0) (fun _ => 0) (fun _ => 0)) _ _
  refine xi_astore_nN (lv' := [(3, .null), (0, .ref 0), (1, .int a1), (2, .int a2)]) dX11_greedy_5 (by decide) rfl ?_
  refine xi_aload_nN 0 dX11_greedy_6 rfl ?_
  refine xi_ifnullN (tgt := 17) dX11_greedy_7 (by decide) ?_
  refine xi_bipush (v := (-2)) dX11_greedy_17 (by decide) ?_
  exact xi_iret dX11_greedy_19 rfl rfl (Nat.le_of_ble_eq_true rfl) (Nat.le_of_ble_eq_true rfl) ⟨rfl, rfl⟩
set_option maxHeartbeats 4000000 in
set_option maxRecDepth 100000 in
theorem fx_layers (G : xG) (a1 a2 : Int32) : xC G mX11_layers 3 0 0 [.ref 0, .int a1, .int a2] (MX 0 (fun _ => 0) rd0 mo0 (fun _ => 0) (fun _ => 0) (fun _ => 0)) (fun v M2 => v = some (.int (-2)) ∧ M2 = (MX 0 (fun _ => 0) rd0 mo0 (fun _ => 0) (fun _ => 0) (fun _ => 0))) := by
  refine xC.of (by decide) (Nat.le_of_ble_eq_true rfl) ?_
  show xW _ _ _ _ 0 [(0, .ref 0), (1, .int a1), (2, .int a2)] [] _ 0 0
  refine xi_aload_n 0 dX11_layers_0 rfl ?_
  refine xi_iload_n 1 dX11_layers_1 rfl ?_
  refine xi_callV (as := [.int a1]) (rest := []) dX11_layers_2 (fx_netIn G a1) mkX11_netIn w_491 ws_15 w_489 rfl rfl rfl rfl rfl (Nat.le_of_ble_eq_true rfl) (Nat.le_of_ble_eq_true rfl) (Nat.le_of_ble_eq_true rfl) (Nat.le_of_ble_eq_true rfl) (Nat.le_of_ble_eq_true rfl) ?_
  intro v M2 hq
  obtain ⟨rfl, rfl⟩ := hq
  show xW _ _ _ _ 5 _ [.null] (MX 0 (fun _ => 0) rd0 mo0 (fun _ => 0) (fun _ => 0) (fun _ => 0)) _ _
  refine xi_astore_nN (lv' := [(3, .null), (0, .ref 0), (1, .int a1), (2, .int a2)]) dX11_layers_5 (by decide) rfl ?_
  refine xi_aload_nN 0 dX11_layers_6 rfl ?_
  refine xi_ifnullN (tgt := 18) dX11_layers_7 (by decide) ?_
  refine xi_bipush (v := (-2)) dX11_layers_18 (by decide) ?_
  exact xi_iret dX11_layers_20 rfl rfl (Nat.le_of_ble_eq_true rfl) (Nat.le_of_ble_eq_true rfl) ⟨rfl, rfl⟩
set_option maxHeartbeats 4000000 in
set_option maxRecDepth 100000 in
theorem fx_adds (G : xG) (a1 a2 a3 a4 : Int32) : xC G mX11_adds 3 0 0 [.ref 0, .int a1, .int a2, .int a3, .int a4] (MX 0 (fun _ => 0) rd0 mo0 (fun _ => 0) (fun _ => 0) (fun _ => 0)) (fun v M2 => v = some (.int (-2)) ∧ M2 = (MX 0 (fun _ => 0) rd0 mo0 (fun _ => 0) (fun _ => 0) (fun _ => 0))) := by
  refine xC.of (by decide) (Nat.le_of_ble_eq_true rfl) ?_
  show xW _ _ _ _ 0 [(0, .ref 0), (1, .int a1), (2, .int a2), (3, .int a3), (4, .int a4)] [] _ 0 0
  refine xi_aload_n 0 dX11_adds_0 rfl ?_
  refine xi_iload_n 1 dX11_adds_1 rfl ?_
  refine xi_callV (as := [.int a1]) (rest := []) dX11_adds_2 (fx_netIn G a1) mkX11_netIn w_491 ws_15 w_489 rfl rfl rfl rfl rfl (Nat.le_of_ble_eq_true rfl) (Nat.le_of_ble_eq_true rfl) (Nat.le_of_ble_eq_true rfl) (Nat.le_of_ble_eq_true rfl) (Nat.le_of_ble_eq_true rfl) ?_
  intro v M2 hq
  obtain ⟨rfl, rfl⟩ := hq
  show xW _ _ _ _ 5 _ [.null] (MX 0 (fun _ => 0) rd0 mo0 (fun _ => 0) (fun _ => 0) (fun _ => 0)) _ _
  refine xi_astoreN (lv' := [(5, .null), (0, .ref 0), (1, .int a1), (2, .int a2), (3, .int a3), (4, .int a4)]) dX11_adds_5 (by decide) rfl ?_
  refine xi_aloadN 0 dX11_adds_7 rfl ?_
  refine xi_ifnullN (tgt := 35) dX11_adds_9 (by decide) ?_
  refine xi_bipush (v := (-2)) dX11_adds_35 (by decide) ?_
  exact xi_iret dX11_adds_37 rfl rfl (Nat.le_of_ble_eq_true rfl) (Nat.le_of_ble_eq_true rfl) ⟨rfl, rfl⟩
set_option maxHeartbeats 4000000 in
set_option maxRecDepth 100000 in
theorem fx_cuts (G : xG) (a1 a2 a3 : Int32) : xC G mX11_cuts 3 0 0 [.ref 0, .int a1, .int a2, .int a3] (MX 0 (fun _ => 0) rd0 mo0 (fun _ => 0) (fun _ => 0) (fun _ => 0)) (fun v M2 => v = some (.int (-2)) ∧ M2 = (MX 0 (fun _ => 0) rd0 mo0 (fun _ => 0) (fun _ => 0) (fun _ => 0))) := by
  refine xC.of (by decide) (Nat.le_of_ble_eq_true rfl) ?_
  show xW _ _ _ _ 0 [(0, .ref 0), (1, .int a1), (2, .int a2), (3, .int a3)] [] _ 0 0
  refine xi_aload_n 0 dX11_cuts_0 rfl ?_
  refine xi_iload_n 1 dX11_cuts_1 rfl ?_
  refine xi_callV (as := [.int a1]) (rest := []) dX11_cuts_2 (fx_netIn G a1) mkX11_netIn w_491 ws_15 w_489 rfl rfl rfl rfl rfl (Nat.le_of_ble_eq_true rfl) (Nat.le_of_ble_eq_true rfl) (Nat.le_of_ble_eq_true rfl) (Nat.le_of_ble_eq_true rfl) (Nat.le_of_ble_eq_true rfl) ?_
  intro v M2 hq
  obtain ⟨rfl, rfl⟩ := hq
  show xW _ _ _ _ 5 _ [.null] (MX 0 (fun _ => 0) rd0 mo0 (fun _ => 0) (fun _ => 0) (fun _ => 0)) _ _
  refine xi_astoreN (lv' := [(4, .null), (0, .ref 0), (1, .int a1), (2, .int a2), (3, .int a3)]) dX11_cuts_5 (by decide) rfl ?_
  refine xi_aloadN 0 dX11_cuts_7 rfl ?_
  refine xi_ifnullN (tgt := 22) dX11_cuts_9 (by decide) ?_
  refine xi_bipush (v := (-2)) dX11_cuts_22 (by decide) ?_
  exact xi_iret dX11_cuts_24 rfl rfl (Nat.le_of_ble_eq_true rfl) (Nat.le_of_ble_eq_true rfl) ⟨rfl, rfl⟩
set_option maxHeartbeats 4000000 in
set_option maxRecDepth 100000 in
theorem fx_merges (G : xG) (a1 a2 a3 : Int32) : xC G mX11_merges 3 0 0 [.ref 0, .int a1, .int a2, .int a3] (MX 0 (fun _ => 0) rd0 mo0 (fun _ => 0) (fun _ => 0) (fun _ => 0)) (fun v M2 => v = some (.int (-2)) ∧ M2 = (MX 0 (fun _ => 0) rd0 mo0 (fun _ => 0) (fun _ => 0) (fun _ => 0))) := by
  refine xC.of (by decide) (Nat.le_of_ble_eq_true rfl) ?_
  show xW _ _ _ _ 0 [(0, .ref 0), (1, .int a1), (2, .int a2), (3, .int a3)] [] _ 0 0
  refine xi_aload_n 0 dX11_merges_0 rfl ?_
  refine xi_iload_n 1 dX11_merges_1 rfl ?_
  refine xi_callV (as := [.int a1]) (rest := []) dX11_merges_2 (fx_netIn G a1) mkX11_netIn w_491 ws_15 w_489 rfl rfl rfl rfl rfl (Nat.le_of_ble_eq_true rfl) (Nat.le_of_ble_eq_true rfl) (Nat.le_of_ble_eq_true rfl) (Nat.le_of_ble_eq_true rfl) (Nat.le_of_ble_eq_true rfl) ?_
  intro v M2 hq
  obtain ⟨rfl, rfl⟩ := hq
  show xW _ _ _ _ 5 _ [.null] (MX 0 (fun _ => 0) rd0 mo0 (fun _ => 0) (fun _ => 0) (fun _ => 0)) _ _
  refine xi_astoreN (lv' := [(4, .null), (0, .ref 0), (1, .int a1), (2, .int a2), (3, .int a3)]) dX11_merges_5 (by decide) rfl ?_
  refine xi_aloadN 0 dX11_merges_7 rfl ?_
  refine xi_ifnullN (tgt := 22) dX11_merges_9 (by decide) ?_
  refine xi_bipush (v := (-2)) dX11_merges_22 (by decide) ?_
  exact xi_iret dX11_merges_24 rfl rfl (Nat.le_of_ble_eq_true rfl) (Nat.le_of_ble_eq_true rfl) ⟨rfl, rfl⟩
set_option maxHeartbeats 4000000 in
set_option maxRecDepth 100000 in
theorem fx_tell (G : xG) (a1 a2 : Int32) : xC G mX11_tell 3 0 0 [.ref 0, .int a1, .int a2] (MX 0 (fun _ => 0) rd0 mo0 (fun _ => 0) (fun _ => 0) (fun _ => 0)) (fun v M2 => v = some (.int (-2)) ∧ M2 = (MX 0 (fun _ => 0) rd0 mo0 (fun _ => 0) (fun _ => 0) (fun _ => 0))) := by
  refine xC.of (by decide) (Nat.le_of_ble_eq_true rfl) ?_
  show xW _ _ _ _ 0 [(0, .ref 0), (1, .int a1), (2, .int a2)] [] _ 0 0
  refine xi_aload_n 0 dX11_tell_0 rfl ?_
  refine xi_iload_n 1 dX11_tell_1 rfl ?_
  refine xi_callV (as := [.int a1]) (rest := []) dX11_tell_2 (fx_netIn G a1) mkX11_netIn w_491 ws_15 w_489 rfl rfl rfl rfl rfl (Nat.le_of_ble_eq_true rfl) (Nat.le_of_ble_eq_true rfl) (Nat.le_of_ble_eq_true rfl) (Nat.le_of_ble_eq_true rfl) (Nat.le_of_ble_eq_true rfl) ?_
  intro v M2 hq
  obtain ⟨rfl, rfl⟩ := hq
  show xW _ _ _ _ 5 _ [.null] (MX 0 (fun _ => 0) rd0 mo0 (fun _ => 0) (fun _ => 0) (fun _ => 0)) _ _
  refine xi_astore_nN (lv' := [(3, .null), (0, .ref 0), (1, .int a1), (2, .int a2)]) dX11_tell_5 (by decide) rfl ?_
  refine xi_aload_nN 0 dX11_tell_6 rfl ?_
  refine xi_ifnullN (tgt := 19) dX11_tell_7 (by decide) ?_
  refine xi_bipush (v := (-2)) dX11_tell_19 (by decide) ?_
  exact xi_iret dX11_tell_21 rfl rfl (Nat.le_of_ble_eq_true rfl) (Nat.le_of_ble_eq_true rfl) ⟨rfl, rfl⟩
set_option maxHeartbeats 4000000 in
set_option maxRecDepth 100000 in
theorem fx_drops_0 (G : xG) : xC G mX11_drops 3 0 0 [.ref 0, .int 0] (MX 0 (fun _ => 0) rd0 mo0 (fun _ => 0) (fun _ => 0) (fun _ => 0)) (fun v M2 => v = some (.int 0) ∧ M2 = (MX 0 (fun _ => 0) rd0 mo0 (fun _ => 0) (fun _ => 0) (fun _ => 0))) := by
  refine xC.of (by decide) (Nat.le_of_ble_eq_true rfl) ?_
  show xW _ _ _ _ 0 [(0, .ref 0), (1, .int 0)] [] _ 0 0
  refine xi_iload_n 1 dX11_drops_0 rfl ?_
  refine xi_callS (as := [.int 0]) (rest := []) dX11_drops_1 (fx_isSlot_0 G) mkX11_isSlot w_299 w_298 rfl rfl (Nat.le_of_ble_eq_true rfl) (Nat.le_of_ble_eq_true rfl) (Nat.le_of_ble_eq_true rfl) (Nat.le_of_ble_eq_true rfl) (Nat.le_of_ble_eq_true rfl) ?_
  intro v M2 hq
  obtain ⟨rfl, rfl⟩ := hq
  show xW _ _ _ _ 4 _ [.int 1] (MX 0 (fun _ => 0) rd0 mo0 (fun _ => 0) (fun _ => 0) (fun _ => 0)) _ _
  refine xi_if_ne_t (tgt := 10) dX11_drops_4 (by decide) (by decide) ?_
  refine xi_aload_n 0 dX11_drops_10 rfl ?_
  refine xi_get (f := 3) dX11_drops_11 rfl rfl ok_8 (by decide) w_245 rfl ?_
  refine xi_iload_n 1 dX11_drops_14 rfl ?_
  refine xi_aaload (v := .ref 12) dX11_drops_15 rfl rfl (by unfold vp_in; decide) rfl ?_
  refine xi_astore_n (lv' := [(2, .ref 12), (0, .ref 0), (1, .int 0)]) dX11_drops_16 (by decide) rfl ?_
  refine xi_aload_n 0 dX11_drops_17 rfl ?_
  refine xi_get (f := 0) dX11_drops_18 rfl rfl ok_5 (by decide) w_66 rfl ?_
  refine xi_if_ne_f (tgt := 26) dX11_drops_21 (by decide) (by decide) ?_
  refine xi_iconst (v := 0) dX11_drops_24 (by decide) ?_
  exact xi_iret dX11_drops_25 rfl rfl (Nat.le_of_ble_eq_true rfl) (Nat.le_of_ble_eq_true rfl) ⟨rfl, rfl⟩
set_option maxHeartbeats 4000000 in
set_option maxRecDepth 100000 in
theorem fx_drops_1 (G : xG) : xC G mX11_drops 3 0 0 [.ref 0, .int 1] (MX 0 (fun _ => 0) rd0 mo0 (fun _ => 0) (fun _ => 0) (fun _ => 0)) (fun v M2 => v = some (.int 0) ∧ M2 = (MX 0 (fun _ => 0) rd0 mo0 (fun _ => 0) (fun _ => 0) (fun _ => 0))) := by
  refine xC.of (by decide) (Nat.le_of_ble_eq_true rfl) ?_
  show xW _ _ _ _ 0 [(0, .ref 0), (1, .int 1)] [] _ 0 0
  refine xi_iload_n 1 dX11_drops_0 rfl ?_
  refine xi_callS (as := [.int 1]) (rest := []) dX11_drops_1 (fx_isSlot_1 G) mkX11_isSlot w_299 w_298 rfl rfl (Nat.le_of_ble_eq_true rfl) (Nat.le_of_ble_eq_true rfl) (Nat.le_of_ble_eq_true rfl) (Nat.le_of_ble_eq_true rfl) (Nat.le_of_ble_eq_true rfl) ?_
  intro v M2 hq
  obtain ⟨rfl, rfl⟩ := hq
  show xW _ _ _ _ 4 _ [.int 1] (MX 0 (fun _ => 0) rd0 mo0 (fun _ => 0) (fun _ => 0) (fun _ => 0)) _ _
  refine xi_if_ne_t (tgt := 10) dX11_drops_4 (by decide) (by decide) ?_
  refine xi_aload_n 0 dX11_drops_10 rfl ?_
  refine xi_get (f := 3) dX11_drops_11 rfl rfl ok_8 (by decide) w_245 rfl ?_
  refine xi_iload_n 1 dX11_drops_14 rfl ?_
  refine xi_aaload (v := .ref 36) dX11_drops_15 rfl rfl (by unfold vp_in; decide) rfl ?_
  refine xi_astore_n (lv' := [(2, .ref 36), (0, .ref 0), (1, .int 1)]) dX11_drops_16 (by decide) rfl ?_
  refine xi_aload_n 0 dX11_drops_17 rfl ?_
  refine xi_get (f := 0) dX11_drops_18 rfl rfl ok_5 (by decide) w_66 rfl ?_
  refine xi_if_ne_f (tgt := 26) dX11_drops_21 (by decide) (by decide) ?_
  refine xi_iconst (v := 0) dX11_drops_24 (by decide) ?_
  exact xi_iret dX11_drops_25 rfl rfl (Nat.le_of_ble_eq_true rfl) (Nat.le_of_ble_eq_true rfl) ⟨rfl, rfl⟩
set_option maxHeartbeats 4000000 in
set_option maxRecDepth 100000 in
theorem fx_drops_2 (G : xG) : xC G mX11_drops 3 0 0 [.ref 0, .int 2] (MX 0 (fun _ => 0) rd0 mo0 (fun _ => 0) (fun _ => 0) (fun _ => 0)) (fun v M2 => v = some (.int 0) ∧ M2 = (MX 0 (fun _ => 0) rd0 mo0 (fun _ => 0) (fun _ => 0) (fun _ => 0))) := by
  refine xC.of (by decide) (Nat.le_of_ble_eq_true rfl) ?_
  show xW _ _ _ _ 0 [(0, .ref 0), (1, .int 2)] [] _ 0 0
  refine xi_iload_n 1 dX11_drops_0 rfl ?_
  refine xi_callS (as := [.int 2]) (rest := []) dX11_drops_1 (fx_isSlot_2 G) mkX11_isSlot w_299 w_298 rfl rfl (Nat.le_of_ble_eq_true rfl) (Nat.le_of_ble_eq_true rfl) (Nat.le_of_ble_eq_true rfl) (Nat.le_of_ble_eq_true rfl) (Nat.le_of_ble_eq_true rfl) ?_
  intro v M2 hq
  obtain ⟨rfl, rfl⟩ := hq
  show xW _ _ _ _ 4 _ [.int 1] (MX 0 (fun _ => 0) rd0 mo0 (fun _ => 0) (fun _ => 0) (fun _ => 0)) _ _
  refine xi_if_ne_t (tgt := 10) dX11_drops_4 (by decide) (by decide) ?_
  refine xi_aload_n 0 dX11_drops_10 rfl ?_
  refine xi_get (f := 3) dX11_drops_11 rfl rfl ok_8 (by decide) w_245 rfl ?_
  refine xi_iload_n 1 dX11_drops_14 rfl ?_
  refine xi_aaload (v := .ref 60) dX11_drops_15 rfl rfl (by unfold vp_in; decide) rfl ?_
  refine xi_astore_n (lv' := [(2, .ref 60), (0, .ref 0), (1, .int 2)]) dX11_drops_16 (by decide) rfl ?_
  refine xi_aload_n 0 dX11_drops_17 rfl ?_
  refine xi_get (f := 0) dX11_drops_18 rfl rfl ok_5 (by decide) w_66 rfl ?_
  refine xi_if_ne_f (tgt := 26) dX11_drops_21 (by decide) (by decide) ?_
  refine xi_iconst (v := 0) dX11_drops_24 (by decide) ?_
  exact xi_iret dX11_drops_25 rfl rfl (Nat.le_of_ble_eq_true rfl) (Nat.le_of_ble_eq_true rfl) ⟨rfl, rfl⟩
set_option maxHeartbeats 4000000 in
set_option maxRecDepth 100000 in
theorem fx_drops_out (G : xG) (a1 : Int32) (h : a1 < 0 ∨ 3 ≤ a1) : xC G mX11_drops 3 0 0 [.ref 0, .int a1] (MX 0 (fun _ => 0) rd0 mo0 (fun _ => 0) (fun _ => 0) (fun _ => 0)) (fun v M2 => v = some (.int (-2)) ∧ M2 = (MX 0 (fun _ => 0) rd0 mo0 (fun _ => 0) (fun _ => 0) (fun _ => 0))) := by
  refine xC.of (by decide) (Nat.le_of_ble_eq_true rfl) ?_
  show xW _ _ _ _ 0 [(0, .ref 0), (1, .int a1)] [] _ 0 0
  refine xi_iload_n 1 dX11_drops_0 rfl ?_
  refine xi_callS (as := [.int a1]) (rest := []) dX11_drops_1 (fx_isSlot_out G _ h) mkX11_isSlot w_299 w_298 rfl rfl (Nat.le_of_ble_eq_true rfl) (Nat.le_of_ble_eq_true rfl) (Nat.le_of_ble_eq_true rfl) (Nat.le_of_ble_eq_true rfl) (Nat.le_of_ble_eq_true rfl) ?_
  intro v M2 hq
  obtain ⟨rfl, rfl⟩ := hq
  show xW _ _ _ _ 4 _ [.int 0] (MX 0 (fun _ => 0) rd0 mo0 (fun _ => 0) (fun _ => 0) (fun _ => 0)) _ _
  refine xi_if_ne_f (tgt := 10) dX11_drops_4 (by decide) (by decide) ?_
  refine xi_bipush (v := (-2)) dX11_drops_7 (by decide) ?_
  exact xi_iret dX11_drops_9 rfl rfl (Nat.le_of_ble_eq_true rfl) (Nat.le_of_ble_eq_true rfl) ⟨rfl, rfl⟩
set_option maxHeartbeats 4000000 in
set_option maxRecDepth 100000 in
theorem fx_undo (G : xG) : xC G mX11_undo 3 0 0 [.ref 0] (MX 0 (fun _ => 0) rd0 mo0 (fun _ => 0) (fun _ => 0) (fun _ => 0)) (fun v M2 => v = some (.int (-1)) ∧ M2 = (MX 0 (fun _ => 0) rd0 mo0 (fun _ => 0) (fun _ => 0) (fun _ => 0))) := by
  refine xC.of (by decide) (Nat.le_of_ble_eq_true rfl) ?_
  show xW _ _ _ _ 0 [(0, .ref 0)] [] _ 0 0
  refine xi_aload_n 0 dX11_undo_0 rfl ?_
  refine xi_get (f := 7) dX11_undo_1 rfl rfl ok_8 (by decide) w_249 rfl ?_
  refine xi_get (f := 0) dX11_undo_4 rfl rfl ok_4 (by decide) w_229 rfl ?_
  refine xi_if_ne_f (tgt := 12) dX11_undo_7 (by decide) (by decide) ?_
  refine xi_iconst (v := (-1)) dX11_undo_10 (by decide) ?_
  exact xi_iret dX11_undo_11 rfl rfl (Nat.le_of_ble_eq_true rfl) (Nat.le_of_ble_eq_true rfl) ⟨rfl, rfl⟩
set_option maxHeartbeats 4000000 in
set_option maxRecDepth 100000 in
theorem fx_fault (G : xG) (a1 : Int32) : xC G mX11_fault 3 0 0 [.ref 0, .int a1] (MX 0 (fun _ => 0) rd0 mo0 (fun _ => 0) (fun _ => 0) (fun _ => 0)) (fun v M2 => v = some (.int (if a1 = 0 then 0 else (-1))) ∧ M2 = (MX 0 (fun _ => 0) rd0 mo0 (fun _ => 0) (fun _ => 0) (fun _ => 0))) := by
  refine xC.of (by decide) (Nat.le_of_ble_eq_true rfl) ?_
  show xW _ _ _ _ 0 [(0, .ref 0), (1, .int a1)] [] _ 0 0
  refine xi_iload_n 1 dX11_fault_0 rfl ?_
  refine xi_if_ne (tgt := 12) dX11_fault_1 (by decide) (fun c1 => ?_) (fun c1 => ?_)
  · refine xi_iload_n 1 dX11_fault_12 rfl ?_
    refine xi_iconst (v := 1) dX11_fault_13 (by decide) ?_
    refine xi_icmp_ne (tgt := 27) dX11_fault_14 (by decide) (fun c2 => ?_) (fun c2 => ?_)
    · refine xi_iconst (v := (-1)) dX11_fault_27 (by decide) ?_
      exact xi_iret dX11_fault_28 rfl rfl (Nat.le_of_ble_eq_true rfl) (Nat.le_of_ble_eq_true rfl) ⟨by simp only [c1, if_pos, if_neg, if_true, if_false, not_false_eq_true], rfl⟩
    · refine xi_aload_n 0 dX11_fault_17 rfl ?_
      refine xi_get (f := 2) dX11_fault_18 rfl rfl ok_8 (by decide) w_244 rfl ?_
      refine xi_get (f := 2) dX11_fault_21 rfl rfl ok_6 (by decide) w_101 rfl ?_
      refine xi_goto (tgt := 28) dX11_fault_24 (by decide) ?_
      exact xi_iret dX11_fault_28 rfl rfl (Nat.le_of_ble_eq_true rfl) (Nat.le_of_ble_eq_true rfl) ⟨by simp only [c1, if_pos, if_neg, if_true, if_false, not_false_eq_true], rfl⟩
  · refine xi_aload_n 0 dX11_fault_4 rfl ?_
    refine xi_get (f := 2) dX11_fault_5 rfl rfl ok_8 (by decide) w_244 rfl ?_
    refine xi_get (f := 1) dX11_fault_8 rfl rfl ok_6 (by decide) w_99 rfl ?_
    exact xi_iret dX11_fault_11 rfl rfl (Nat.le_of_ble_eq_true rfl) (Nat.le_of_ble_eq_true rfl) ⟨by simp only [c1, if_pos, if_neg, if_true, if_false, not_false_eq_true], rfl⟩
set_option maxHeartbeats 4000000 in
set_option maxRecDepth 100000 in
theorem fx_at (G : xG) (a1 : Int32) : xC G mX1_at 0 0 0 [.ref 3, .int a1] (MX 0 (fun _ => 0) rd0 mo0 (fun _ => 0) (fun _ => 0) (fun _ => 0)) (fun v M2 => v = some (.int (-1)) ∧ M2 = (MX 0 (fun _ => 0) rd0 mo0 (fun _ => 0) (fun _ => 0) (fun _ => 0))) := by
  refine xC.of (by decide) (Nat.le_of_ble_eq_true rfl) ?_
  show xW _ _ _ _ 0 [(0, .ref 3), (1, .int a1)] [] _ 0 0
  refine xi_iload_n 1 dX1_at_0 rfl ?_
  refine xi_if_lt (tgt := 25) dX1_at_1 (by decide) (fun c1 => ?_) (fun c1 => ?_)
  · refine xi_iconst (v := (-1)) dX1_at_25 (by decide) ?_
    exact xi_iret dX1_at_26 rfl rfl (Nat.le_of_ble_eq_true rfl) (Nat.le_of_ble_eq_true rfl) ⟨rfl, rfl⟩
  · refine xi_iload_n 1 dX1_at_4 rfl ?_
    refine xi_aload_n 0 dX1_at_5 rfl ?_
    refine xi_get (f := 1) dX1_at_6 rfl rfl ok_1 (by decide) w_40 rfl ?_
    refine xi_icmp_ge (tgt := 25) dX1_at_9 (by decide) (fun c2 => ?_) (fun c2 => ?_)
    · refine xi_iconst (v := (-1)) dX1_at_25 (by decide) ?_
      exact xi_iret dX1_at_26 rfl rfl (Nat.le_of_ble_eq_true rfl) (Nat.le_of_ble_eq_true rfl) ⟨rfl, rfl⟩
    · refine xi_aload_n 0 dX1_at_12 rfl ?_
      refine xi_get (f := 0) dX1_at_13 rfl rfl ok_1 (by decide) w_39 rfl ?_
      refine xi_iload_n 1 dX1_at_16 rfl ?_
      refine xi_baload (v := (0 : Int32)) dX1_at_17 rfl (False.elim (c2 (Int32.not_lt.mp c1))) (False.elim (c2 (Int32.not_lt.mp c1))) ?_
      refine xi_sipush (v := 255) dX1_at_18 (by decide) ?_
      refine xi_iand dX1_at_21 rfl ?_
      refine xi_goto (tgt := 26) dX1_at_22 (by decide) ?_
      exact xi_iret dX1_at_26 rfl rfl (Nat.le_of_ble_eq_true rfl) (Nat.le_of_ble_eq_true rfl) (False.elim (c2 (Int32.not_lt.mp c1)))
set_option maxHeartbeats 4000000 in
set_option maxRecDepth 100000 in
theorem fx_octet (G : xG) (a1 : Int32) : xC G mX11_octet 3 0 0 [.ref 0, .int a1] (MX 0 (fun _ => 0) rd0 mo0 (fun _ => 0) (fun _ => 0) (fun _ => 0)) (fun v M2 => v = some (.int (-1)) ∧ M2 = (MX 0 (fun _ => 0) rd0 mo0 (fun _ => 0) (fun _ => 0) (fun _ => 0))) := by
  refine xC.of (by decide) (Nat.le_of_ble_eq_true rfl) ?_
  show xW _ _ _ _ 0 [(0, .ref 0), (1, .int a1)] [] _ 0 0
  refine xi_aload_n 0 dX11_octet_0 rfl ?_
  refine xi_get (f := 1) dX11_octet_1 rfl rfl ok_8 (by decide) w_243 rfl ?_
  refine xi_iload_n 1 dX11_octet_4 rfl ?_
  refine xi_callV (as := [.int a1]) (rest := []) dX11_octet_5 (fx_at G a1) mkX1_at w_310 w_311 w_1001 rfl rfl rfl rfl rfl (Nat.le_of_ble_eq_true rfl) (Nat.le_of_ble_eq_true rfl) (Nat.le_of_ble_eq_true rfl) (Nat.le_of_ble_eq_true rfl) (Nat.le_of_ble_eq_true rfl) ?_
  intro v M2 hq
  obtain ⟨rfl, rfl⟩ := hq
  show xW _ _ _ _ 8 _ [.int (-1)] (MX 0 (fun _ => 0) rd0 mo0 (fun _ => 0) (fun _ => 0) (fun _ => 0)) _ _
  exact xi_iret dX11_octet_8 rfl rfl (Nat.le_of_ble_eq_true rfl) (Nat.le_of_ble_eq_true rfl) ⟨rfl, rfl⟩
set_option maxHeartbeats 4000000 in
set_option maxRecDepth 100000 in
theorem fx_filledSlots (G : xG) : xC G mX11_filledSlots 1 0 0 [.ref 0] (MX 0 (fun _ => 0) rd0 mo0 (fun _ => 0) (fun _ => 0) (fun _ => 0)) (fun v M2 => v = some (.int 0) ∧ M2 = (MX 0 (fun _ => 0) rd0 mo0 (fun _ => 0) (fun _ => 0) (fun _ => 0))) := by
  refine xC.of (by decide) (Nat.le_of_ble_eq_true rfl) ?_
  show xW _ _ _ _ 0 [(0, .ref 0)] [] _ 0 0
  refine xi_iconst (v := 0) dX11_filledSlots_0 (by decide) ?_
  refine xi_istore_n (lv' := [(1, .int 0), (0, .ref 0)]) dX11_filledSlots_1 (by decide) rfl ?_
  refine xi_iconst (v := 0) dX11_filledSlots_2 (by decide) ?_
  refine xi_istore_n (lv' := [(2, .int 0), (1, .int 0), (0, .ref 0)]) dX11_filledSlots_3 (by decide) rfl ?_
  refine xi_iload_n 0 dX11_filledSlots_4 rfl ?_
  refine xi_iconst (v := 3) dX11_filledSlots_5 (by decide) ?_
  refine xi_icmp_ge_f (tgt := 33) dX11_filledSlots_6 (by decide) (by decide) ?_
  refine xi_aload_n 2 dX11_filledSlots_9 rfl ?_
  refine xi_get (f := 3) dX11_filledSlots_10 rfl rfl ok_8 (by decide) w_245 rfl ?_
  refine xi_iload_n 0 dX11_filledSlots_13 rfl ?_
  refine xi_aaload (v := .ref 12) dX11_filledSlots_14 rfl rfl (by unfold vp_in; decide) rfl ?_
  refine xi_get (f := 0) dX11_filledSlots_15 rfl rfl ok_5 (by decide) w_66 rfl ?_
  refine xi_if_le_t (tgt := 27) dX11_filledSlots_18 (by decide) (by decide) ?_
  refine xi_iinc (v := 1) (lv' := [(2, .int 1), (1, .int 0), (0, .ref 0)]) 0 dX11_filledSlots_27 rfl (by decide) (by decide) rfl ?_
  refine xi_goto (tgt := 4) dX11_filledSlots_30 (by decide) ?_
  refine xi_iload_n 0 dX11_filledSlots_4 rfl ?_
  refine xi_iconst (v := 3) dX11_filledSlots_5 (by decide) ?_
  refine xi_icmp_ge_f (tgt := 33) dX11_filledSlots_6 (by decide) (by decide) ?_
  refine xi_aload_n 2 dX11_filledSlots_9 rfl ?_
  refine xi_get (f := 3) dX11_filledSlots_10 rfl rfl ok_8 (by decide) w_245 rfl ?_
  refine xi_iload_n 0 dX11_filledSlots_13 rfl ?_
  refine xi_aaload (v := .ref 36) dX11_filledSlots_14 rfl rfl (by unfold vp_in; decide) rfl ?_
  refine xi_get (f := 0) dX11_filledSlots_15 rfl rfl ok_5 (by decide) w_66 rfl ?_
  refine xi_if_le_t (tgt := 27) dX11_filledSlots_18 (by decide) (by decide) ?_
  refine xi_iinc (v := 2) (lv' := [(2, .int 2), (1, .int 0), (0, .ref 0)]) 0 dX11_filledSlots_27 rfl (by decide) (by decide) rfl ?_
  refine xi_goto (tgt := 4) dX11_filledSlots_30 (by decide) ?_
  refine xi_iload_n 0 dX11_filledSlots_4 rfl ?_
  refine xi_iconst (v := 3) dX11_filledSlots_5 (by decide) ?_
  refine xi_icmp_ge_f (tgt := 33) dX11_filledSlots_6 (by decide) (by decide) ?_
  refine xi_aload_n 2 dX11_filledSlots_9 rfl ?_
  refine xi_get (f := 3) dX11_filledSlots_10 rfl rfl ok_8 (by decide) w_245 rfl ?_
  refine xi_iload_n 0 dX11_filledSlots_13 rfl ?_
  refine xi_aaload (v := .ref 60) dX11_filledSlots_14 rfl rfl (by unfold vp_in; decide) rfl ?_
  refine xi_get (f := 0) dX11_filledSlots_15 rfl rfl ok_5 (by decide) w_66 rfl ?_
  refine xi_if_le_t (tgt := 27) dX11_filledSlots_18 (by decide) (by decide) ?_
  refine xi_iinc (v := 3) (lv' := [(2, .int 3), (1, .int 0), (0, .ref 0)]) 0 dX11_filledSlots_27 rfl (by decide) (by decide) rfl ?_
  refine xi_goto (tgt := 4) dX11_filledSlots_30 (by decide) ?_
  refine xi_iload_n 0 dX11_filledSlots_4 rfl ?_
  refine xi_iconst (v := 3) dX11_filledSlots_5 (by decide) ?_
  refine xi_icmp_ge_t (tgt := 33) dX11_filledSlots_6 (by decide) (by decide) ?_
  refine xi_iload_n 1 dX11_filledSlots_33 rfl ?_
  exact xi_iret dX11_filledSlots_34 rfl rfl (Nat.le_of_ble_eq_true rfl) (Nat.le_of_ble_eq_true rfl) ⟨rfl, rfl⟩
set_option maxHeartbeats 4000000 in
set_option maxRecDepth 100000 in
theorem fx_count_0 (G : xG) : xC G mX11_count 3 0 0 [.ref 0, .int 0] (MX 0 (fun _ => 0) rd0 mo0 (fun _ => 0) (fun _ => 0) (fun _ => 0)) (fun v M2 => v = some (.int 0) ∧ M2 = (MX 0 (fun _ => 0) rd0 mo0 (fun _ => 0) (fun _ => 0) (fun _ => 0))) := by
  refine xC.of (by decide) (Nat.le_of_ble_eq_true rfl) ?_
  show xW _ _ _ _ 0 [(0, .ref 0), (1, .int 0)] [] _ 0 0
  refine xi_iload_n 1 dX11_count_0 rfl ?_
  refine xi_tableIn (off := 31) (tgt := 32) dX11_count_1 (by decide) (by decide) (by decide) (by decide) ?_
  refine xi_aload_n 0 dX11_count_32 rfl ?_
  refine xi_callV (as := []) (rest := []) dX11_count_33 (fx_filledSlots G) mkX11_filledSlots w_483 ws_14 w_481 rfl rfl rfl rfl rfl (Nat.le_of_ble_eq_true rfl) (Nat.le_of_ble_eq_true rfl) (Nat.le_of_ble_eq_true rfl) (Nat.le_of_ble_eq_true rfl) (Nat.le_of_ble_eq_true rfl) ?_
  intro v M2 hq
  obtain ⟨rfl, rfl⟩ := hq
  show xW _ _ _ _ 36 _ [.int 0] (MX 0 (fun _ => 0) rd0 mo0 (fun _ => 0) (fun _ => 0) (fun _ => 0)) _ _
  exact xi_iret dX11_count_36 rfl rfl (Nat.le_of_ble_eq_true rfl) (Nat.le_of_ble_eq_true rfl) ⟨rfl, rfl⟩
set_option maxHeartbeats 4000000 in
set_option maxRecDepth 100000 in
theorem fx_count_1 (G : xG) : xC G mX11_count 3 0 0 [.ref 0, .int 1] (MX 0 (fun _ => 0) rd0 mo0 (fun _ => 0) (fun _ => 0) (fun _ => 0)) (fun v M2 => v = some (.int 0) ∧ M2 = (MX 0 (fun _ => 0) rd0 mo0 (fun _ => 0) (fun _ => 0) (fun _ => 0))) := by
  refine xC.of (by decide) (Nat.le_of_ble_eq_true rfl) ?_
  show xW _ _ _ _ 0 [(0, .ref 0), (1, .int 1)] [] _ 0 0
  refine xi_iload_n 1 dX11_count_0 rfl ?_
  refine xi_tableIn (off := 36) (tgt := 37) dX11_count_1 (by decide) (by decide) (by decide) (by decide) ?_
  refine xi_aload_n 0 dX11_count_37 rfl ?_
  refine xi_get (f := 7) dX11_count_38 rfl rfl ok_8 (by decide) w_249 rfl ?_
  refine xi_get (f := 0) dX11_count_41 rfl rfl ok_4 (by decide) w_229 rfl ?_
  exact xi_iret dX11_count_44 rfl rfl (Nat.le_of_ble_eq_true rfl) (Nat.le_of_ble_eq_true rfl) ⟨rfl, rfl⟩
set_option maxHeartbeats 4000000 in
set_option maxRecDepth 100000 in
theorem fx_count_2 (G : xG) : xC G mX11_count 3 0 0 [.ref 0, .int 2] (MX 0 (fun _ => 0) rd0 mo0 (fun _ => 0) (fun _ => 0) (fun _ => 0)) (fun v M2 => v = some (.int 0) ∧ M2 = (MX 0 (fun _ => 0) rd0 mo0 (fun _ => 0) (fun _ => 0) (fun _ => 0))) := by
  refine xC.of (by decide) (Nat.le_of_ble_eq_true rfl) ?_
  show xW _ _ _ _ 0 [(0, .ref 0), (1, .int 2)] [] _ 0 0
  refine xi_iload_n 1 dX11_count_0 rfl ?_
  refine xi_tableIn (off := 44) (tgt := 45) dX11_count_1 (by decide) (by decide) (by decide) (by decide) ?_
  refine xi_aload_n 0 dX11_count_45 rfl ?_
  refine xi_get (f := 0) dX11_count_46 rfl rfl ok_8 (by decide) w_242 rfl ?_
  refine xi_get (f := 1) dX11_count_49 rfl rfl ok_1 (by decide) w_41 rfl ?_
  exact xi_iret dX11_count_52 rfl rfl (Nat.le_of_ble_eq_true rfl) (Nat.le_of_ble_eq_true rfl) ⟨rfl, rfl⟩
set_option maxHeartbeats 4000000 in
set_option maxRecDepth 100000 in
theorem fx_count_3 (G : xG) : xC G mX11_count 3 0 0 [.ref 0, .int 3] (MX 0 (fun _ => 0) rd0 mo0 (fun _ => 0) (fun _ => 0) (fun _ => 0)) (fun v M2 => v = some (.int 0) ∧ M2 = (MX 0 (fun _ => 0) rd0 mo0 (fun _ => 0) (fun _ => 0) (fun _ => 0))) := by
  refine xC.of (by decide) (Nat.le_of_ble_eq_true rfl) ?_
  show xW _ _ _ _ 0 [(0, .ref 0), (1, .int 3)] [] _ 0 0
  refine xi_iload_n 1 dX11_count_0 rfl ?_
  refine xi_tableIn (off := 52) (tgt := 53) dX11_count_1 (by decide) (by decide) (by decide) (by decide) ?_
  refine xi_aload_n 0 dX11_count_53 rfl ?_
  refine xi_get (f := 1) dX11_count_54 rfl rfl ok_8 (by decide) w_243 rfl ?_
  refine xi_get (f := 1) dX11_count_57 rfl rfl ok_1 (by decide) w_41 rfl ?_
  exact xi_iret dX11_count_60 rfl rfl (Nat.le_of_ble_eq_true rfl) (Nat.le_of_ble_eq_true rfl) ⟨rfl, rfl⟩
set_option maxHeartbeats 4000000 in
set_option maxRecDepth 100000 in
theorem fx_count_out (G : xG) (a1 : Int32) (h : a1.toInt < 0 ∨ 3 < a1.toInt) : xC G mX11_count 3 0 0 [.ref 0, .int a1] (MX 0 (fun _ => 0) rd0 mo0 (fun _ => 0) (fun _ => 0) (fun _ => 0)) (fun v M2 => v = some (.int (-1)) ∧ M2 = (MX 0 (fun _ => 0) rd0 mo0 (fun _ => 0) (fun _ => 0) (fun _ => 0))) := by
  refine xC.of (by decide) (Nat.le_of_ble_eq_true rfl) ?_
  show xW _ _ _ _ 0 [(0, .ref 0), (1, .int a1)] [] _ 0 0
  refine xi_iload_n 1 dX11_count_0 rfl ?_
  refine xi_tableOut (tgt := 61) dX11_count_1 h (by decide) ?_
  refine xi_iconst (v := (-1)) dX11_count_61 (by decide) ?_
  exact xi_iret dX11_count_62 rfl rfl (Nat.le_of_ble_eq_true rfl) (Nat.le_of_ble_eq_true rfl) ⟨rfl, rfl⟩
set_option maxHeartbeats 4000000 in
set_option maxRecDepth 100000 in
theorem fx_end_0 (G : xG) : xC G mX11_end 3 0 0 [.ref 0, .int 0] (MX 0 (fun _ => 0) rd0 mo0 (fun _ => 0) (fun _ => 0) (fun _ => 0)) (fun v M2 => v = some (.int 0) ∧ M2 = (MX 0 (fun _ => 0) rd0 mo0 (fun _ => 0) (fun _ => 0) (fun _ => 0))) := by
  refine xC.of (by decide) (Nat.le_of_ble_eq_true rfl) ?_
  show xW _ _ _ _ 0 [(0, .ref 0), (1, .int 0)] [] _ 0 0
  refine xi_iload_n 1 dX11_end_0 rfl ?_
  refine xi_if_lt_f (tgt := 15) dX11_end_1 (by decide) (by decide) ?_
  refine xi_iload_n 1 dX11_end_4 rfl ?_
  refine xi_aload_n 0 dX11_end_5 rfl ?_
  refine xi_get (f := 0) dX11_end_6 rfl rfl ok_8 (by decide) w_242 rfl ?_
  refine xi_get (f := 1) dX11_end_9 rfl rfl ok_1 (by decide) w_41 rfl ?_
  refine xi_icmp_le_t (tgt := 17) dX11_end_12 (by decide) (by decide) ?_
  refine xi_aload_n 0 dX11_end_17 rfl ?_
  refine xi_get (f := 0) dX11_end_18 rfl rfl ok_8 (by decide) w_242 rfl ?_
  refine xi_iload_n 1 dX11_end_21 rfl ?_
  refine xi_put (f := 1) (ty := .int) (M' := (MX 0 (fun _ => 0) rd0 mo0 (fun _ => 0) (fun _ => 0) (fun _ => 0))) dX11_end_22 rfl rfl ok_1 (by decide) w_41 rfl pf_I (fun _ h => by cases h) rfl rfl (Nat.le_of_ble_eq_true rfl) rfl ?_
  refine xi_iload_n 1 dX11_end_25 rfl ?_
  exact xi_iret dX11_end_26 rfl rfl (Nat.le_of_ble_eq_true rfl) (Nat.le_of_ble_eq_true rfl) ⟨rfl, rfl⟩
set_option maxHeartbeats 4000000 in
set_option maxRecDepth 100000 in
theorem fx_end_out (G : xG) (a1 : Int32) (h : a1 < 0 ∨ 0 < a1) : xC G mX11_end 3 0 0 [.ref 0, .int a1] (MX 0 (fun _ => 0) rd0 mo0 (fun _ => 0) (fun _ => 0) (fun _ => 0)) (fun v M2 => v = some (.int (-1)) ∧ M2 = (MX 0 (fun _ => 0) rd0 mo0 (fun _ => 0) (fun _ => 0) (fun _ => 0))) := by
  refine xC.of (by decide) (Nat.le_of_ble_eq_true rfl) ?_
  show xW _ _ _ _ 0 [(0, .ref 0), (1, .int a1)] [] _ 0 0
  refine xi_iload_n 1 dX11_end_0 rfl ?_
  refine xi_if_lt (tgt := 15) dX11_end_1 (by decide) (fun c1 => ?_) (fun c1 => ?_)
  · refine xi_iconst (v := (-1)) dX11_end_15 (by decide) ?_
    exact xi_iret dX11_end_16 rfl rfl (Nat.le_of_ble_eq_true rfl) (Nat.le_of_ble_eq_true rfl) ⟨rfl, rfl⟩
  · refine xi_iload_n 1 dX11_end_4 rfl ?_
    refine xi_aload_n 0 dX11_end_5 rfl ?_
    refine xi_get (f := 0) dX11_end_6 rfl rfl ok_8 (by decide) w_242 rfl ?_
    refine xi_get (f := 1) dX11_end_9 rfl rfl ok_1 (by decide) w_41 rfl ?_
    refine xi_icmp_le (tgt := 17) dX11_end_12 (by decide) (fun c2 => ?_) (fun c2 => ?_)
    · refine xi_aload_n 0 dX11_end_17 rfl ?_
      refine xi_get (f := 0) dX11_end_18 rfl rfl ok_8 (by decide) w_242 rfl ?_
      refine xi_iload_n 1 dX11_end_21 rfl ?_
      refine xi_put (f := 1) (ty := .int) (M' := (MX a1 (fun _ => 0) rd0 mo0 (fun _ => 0) (fun _ => 0) (fun _ => 0))) dX11_end_22 rfl rfl ok_1 (by decide) w_41 rfl pf_I (fun _ h => by cases h) rfl rfl (Nat.le_of_ble_eq_true rfl) rfl ?_
      refine xi_iload_n 1 dX11_end_25 rfl ?_
      exact xi_iret dX11_end_26 rfl rfl (Nat.le_of_ble_eq_true rfl) (Nat.le_of_ble_eq_true rfl) (False.elim (h.elim c1 (Int32.not_lt.mpr c2)))
    · refine xi_iconst (v := (-1)) dX11_end_15 (by decide) ?_
      exact xi_iret dX11_end_16 rfl rfl (Nat.le_of_ble_eq_true rfl) (Nat.le_of_ble_eq_true rfl) ⟨rfl, rfl⟩
end
section
/-! feed and told of the class, the reference: on what is new (printed by wip/p1/gen3.py) -/
set_option maxHeartbeats 4000000 in
set_option maxRecDepth 100000 in
theorem fx_hasRoom (G : xG) (n m : Int32) (f : Nat → Int32) (h : ¬ 400 < n + m) : xC G mX1_hasRoom 0 0 0 [.ref 1, .int m] (MX n f rd0 mo0 (fun _ => 0) (fun _ => 0) (fun _ => 0)) (fun v M2 => v = some (.int 1) ∧ M2 = (MX n f rd0 mo0 (fun _ => 0) (fun _ => 0) (fun _ => 0))) := by
  refine xC.of (by decide) (Nat.le_of_ble_eq_true rfl) ?_
  show xW _ _ _ _ 0 [(0, .ref 1), (1, .int m)] [] _ 0 0
  refine xi_aload_n 0 dX1_hasRoom_0 rfl ?_
  refine xi_get (f := 1) dX1_hasRoom_1 rfl rfl ok_1 (by decide) w_40 rfl ?_
  refine xi_iload_n 1 dX1_hasRoom_4 rfl ?_
  refine xi_iadd dX1_hasRoom_5 rfl ?_
  refine xi_aload_n 0 dX1_hasRoom_6 rfl ?_
  refine xi_get (f := 0) dX1_hasRoom_7 rfl rfl ok_1 (by decide) w_39 rfl ?_
  refine xi_alen (v := 400) dX1_hasRoom_10 rfl rfl (by decide) ?_
  refine xi_icmp_gt_f (tgt := 18) dX1_hasRoom_11 (by decide) h ?_
  refine xi_iconst (v := 1) dX1_hasRoom_14 (by decide) ?_
  refine xi_goto (tgt := 19) dX1_hasRoom_15 (by decide) ?_
  exact xi_iret dX1_hasRoom_19 rfl (by decide) (Nat.le_of_ble_eq_true rfl) (Nat.le_of_ble_eq_true rfl) ⟨rfl, rfl⟩
set_option maxHeartbeats 4000000 in
set_option maxRecDepth 100000 in
theorem fx_put (G : xG) (n n2 a1 : Int32) (f : Nat → Int32) (hn : vp_in n 400) (h : ¬ 400 < n + 1) (e : n + 1 = n2) : xC G mX1_put 1 0 0 [.ref 1, .int a1] (MX n f rd0 mo0 (fun _ => 0) (fun _ => 0) (fun _ => 0)) (fun v M2 => v = none ∧ ∃ f2, M2 = (MX n2 f2 rd0 mo0 (fun _ => 0) (fun _ => 0) (fun _ => 0))) := by
  refine xC.of (by decide) (Nat.le_of_ble_eq_true rfl) ?_
  show xW _ _ _ _ 0 [(0, .ref 1), (1, .int a1)] [] _ 0 0
  refine xi_aload_n 0 dX1_put_0 rfl ?_
  refine xi_iconst (v := 1) dX1_put_1 (by decide) ?_
  refine xi_callV (as := [.int 1]) (rest := []) dX1_put_2 (fx_hasRoom G n 1 f h) mkX1_hasRoom w_278 w_279 w_289 rfl rfl rfl rfl rfl (Nat.le_of_ble_eq_true rfl) (Nat.le_of_ble_eq_true rfl) (Nat.le_of_ble_eq_true rfl) (Nat.le_of_ble_eq_true rfl) (Nat.le_of_ble_eq_true rfl) ?_
  intro v M2 hq
  obtain ⟨rfl, rfl⟩ := hq
  show xW _ _ _ _ 5 _ [.int 1] (MX n f rd0 mo0 (fun _ => 0) (fun _ => 0) (fun _ => 0)) _ _
  refine xi_if_eq_f (tgt := 29) dX1_put_5 (by decide) (by decide) ?_
  refine xi_aload_n 0 dX1_put_8 rfl ?_
  refine xi_get (f := 0) dX1_put_9 rfl rfl ok_1 (by decide) w_39 rfl ?_
  refine xi_aload_n 0 dX1_put_12 rfl ?_
  refine xi_get (f := 1) dX1_put_13 rfl rfl ok_1 (by decide) w_40 rfl ?_
  refine xi_iload_n 1 dX1_put_16 rfl ?_
  refine xi_i2b dX1_put_17 rfl ?_
  refine xi_bastore (M' := (MX n (upd f n.toNatClampNeg a1.toInt8.toInt32.toInt8.toInt32) rd0 mo0 (fun _ => 0) (fun _ => 0) (fun _ => 0))) dX1_put_18 rfl hn rfl ?_
  refine xi_aload_n 0 dX1_put_19 rfl ?_
  refine xi_dup dX1_put_20 rfl ?_
  refine xi_get (f := 1) dX1_put_21 rfl rfl ok_1 (by decide) w_40 rfl ?_
  refine xi_iconst (v := 1) dX1_put_24 (by decide) ?_
  refine xi_iadd dX1_put_25 rfl ?_
  refine xi_put (f := 1) (ty := .int) (M' := (MX (n + 1) (upd f n.toNatClampNeg a1.toInt8.toInt32.toInt8.toInt32) rd0 mo0 (fun _ => 0) (fun _ => 0) (fun _ => 0))) dX1_put_26 rfl rfl ok_1 (by decide) w_40 rfl pf_I (fun _ h => by cases h) rfl rfl (Nat.le_of_ble_eq_true rfl) rfl ?_
  exact xi_vret dX1_put_29 rfl (Nat.le_of_ble_eq_true rfl) (Nat.le_of_ble_eq_true rfl) (by subst e; exact ⟨rfl, _, rfl⟩)
set_option maxHeartbeats 4000000 in
set_option maxRecDepth 100000 in
theorem fx_putFour (G : xG) (n0 n1 n2 n3 n4 a1 : Int32) (f0 : Nat → Int32) (hn0 : vp_in n0 400) (h0 : ¬ 400 < n0 + 1) (e0 : n0 + 1 = n1) (hn1 : vp_in n1 400) (h1 : ¬ 400 < n1 + 1) (e1 : n1 + 1 = n2) (hn2 : vp_in n2 400) (h2 : ¬ 400 < n2 + 1) (e2 : n2 + 1 = n3) (hn3 : vp_in n3 400) (h3 : ¬ 400 < n3 + 1) (e3 : n3 + 1 = n4) : xC G mX1_putFour 2 0 0 [.ref 1, .int a1] (MX n0 f0 rd0 mo0 (fun _ => 0) (fun _ => 0) (fun _ => 0)) (fun v M2 => v = none ∧ ∃ f2, M2 = (MX n4 f2 rd0 mo0 (fun _ => 0) (fun _ => 0) (fun _ => 0))) := by
  refine xC.of (by decide) (Nat.le_of_ble_eq_true rfl) ?_
  show xW _ _ _ _ 0 [(0, .ref 1), (1, .int a1)] [] _ 0 0
  refine xi_aload_n 0 dX1_putFour_0 rfl ?_
  refine xi_iload_n 1 dX1_putFour_1 rfl ?_
  refine xi_bipush (v := 24) dX1_putFour_2 (by decide) ?_
  refine xi_iushr dX1_putFour_4 rfl ?_
  refine xi_callV (as := [.int ((a1.toUInt32 >>> (((24 : Int32)).toUInt32 &&& Int32.toUInt32 31)).toInt32)]) (rest := []) dX1_putFour_5 (fx_put G _ n1 _ _ hn0 h0 e0) mkX1_put w_286 w_287 w_285 rfl rfl rfl rfl rfl (Nat.le_of_ble_eq_true rfl) (Nat.le_of_ble_eq_true rfl) (Nat.le_of_ble_eq_true rfl) (Nat.le_of_ble_eq_true rfl) (Nat.le_of_ble_eq_true rfl) ?_
  intro v M2 hq
  obtain ⟨rfl, f1, rfl⟩ := hq
  show xW _ _ _ _ 8 _ [] (MX n1 f1 rd0 mo0 (fun _ => 0) (fun _ => 0) (fun _ => 0)) _ _
  refine xi_aload_n 0 dX1_putFour_8 rfl ?_
  refine xi_iload_n 1 dX1_putFour_9 rfl ?_
  refine xi_bipush (v := 16) dX1_putFour_10 (by decide) ?_
  refine xi_iushr dX1_putFour_12 rfl ?_
  refine xi_callV (as := [.int ((a1.toUInt32 >>> (((16 : Int32)).toUInt32 &&& Int32.toUInt32 31)).toInt32)]) (rest := []) dX1_putFour_13 (fx_put G _ n2 _ _ hn1 h1 e1) mkX1_put w_286 w_287 w_285 rfl rfl rfl rfl rfl (Nat.le_of_ble_eq_true rfl) (Nat.le_of_ble_eq_true rfl) (Nat.le_of_ble_eq_true rfl) (Nat.le_of_ble_eq_true rfl) (Nat.le_of_ble_eq_true rfl) ?_
  intro v M2 hq
  obtain ⟨rfl, f2, rfl⟩ := hq
  show xW _ _ _ _ 16 _ [] (MX n2 f2 rd0 mo0 (fun _ => 0) (fun _ => 0) (fun _ => 0)) _ _
  refine xi_aload_n 0 dX1_putFour_16 rfl ?_
  refine xi_iload_n 1 dX1_putFour_17 rfl ?_
  refine xi_bipush (v := 8) dX1_putFour_18 (by decide) ?_
  refine xi_iushr dX1_putFour_20 rfl ?_
  refine xi_callV (as := [.int ((a1.toUInt32 >>> (((8 : Int32)).toUInt32 &&& Int32.toUInt32 31)).toInt32)]) (rest := []) dX1_putFour_21 (fx_put G _ n3 _ _ hn2 h2 e2) mkX1_put w_286 w_287 w_285 rfl rfl rfl rfl rfl (Nat.le_of_ble_eq_true rfl) (Nat.le_of_ble_eq_true rfl) (Nat.le_of_ble_eq_true rfl) (Nat.le_of_ble_eq_true rfl) (Nat.le_of_ble_eq_true rfl) ?_
  intro v M2 hq
  obtain ⟨rfl, f3, rfl⟩ := hq
  show xW _ _ _ _ 24 _ [] (MX n3 f3 rd0 mo0 (fun _ => 0) (fun _ => 0) (fun _ => 0)) _ _
  refine xi_aload_n 0 dX1_putFour_24 rfl ?_
  refine xi_iload_n 1 dX1_putFour_25 rfl ?_
  refine xi_callV (as := [.int a1]) (rest := []) dX1_putFour_26 (fx_put G _ n4 _ _ hn3 h3 e3) mkX1_put w_286 w_287 w_285 rfl rfl rfl rfl rfl (Nat.le_of_ble_eq_true rfl) (Nat.le_of_ble_eq_true rfl) (Nat.le_of_ble_eq_true rfl) (Nat.le_of_ble_eq_true rfl) (Nat.le_of_ble_eq_true rfl) ?_
  intro v M2 hq
  obtain ⟨rfl, f4, rfl⟩ := hq
  show xW _ _ _ _ 29 _ [] (MX n4 f4 rd0 mo0 (fun _ => 0) (fun _ => 0) (fun _ => 0)) _ _
  exact xi_vret dX1_putFour_29 rfl (Nat.le_of_ble_eq_true rfl) (Nat.le_of_ble_eq_true rfl) ⟨rfl, _, rfl⟩
set_option maxHeartbeats 4000000 in
set_option maxRecDepth 100000 in
theorem fx_feed (G : xG) (a1 a2 a3 a4 a5 : Int32) : xC G mX11_feed 3 0 0 [.ref 0, .int a1, .int a2, .int a3, .int a4, .int a5] (MX 0 (fun _ => 0) rd0 mo0 (fun _ => 0) (fun _ => 0) (fun _ => 0)) (fun v M2 => v = some (.int 20) ∧ ∃ f, M2 = (MX 20 f rd0 mo0 (fun _ => 0) (fun _ => 0) (fun _ => 0))) := by
  refine xC.of (by decide) (Nat.le_of_ble_eq_true rfl) ?_
  show xW _ _ _ _ 0 [(0, .ref 0), (1, .int a1), (2, .int a2), (3, .int a3), (4, .int a4), (5, .int a5)] [] _ 0 0
  refine xi_aload_n 0 dX11_feed_0 rfl ?_
  refine xi_get (f := 0) dX11_feed_1 rfl rfl ok_8 (by decide) w_242 rfl ?_
  refine xi_bipush (v := 20) dX11_feed_4 (by decide) ?_
  refine xi_callV (as := [.int 20]) (rest := []) dX11_feed_6 (fx_hasRoom G 0 20 (fun _ => 0) (by decide)) mkX1_hasRoom w_278 w_279 w_277 rfl rfl rfl rfl rfl (Nat.le_of_ble_eq_true rfl) (Nat.le_of_ble_eq_true rfl) (Nat.le_of_ble_eq_true rfl) (Nat.le_of_ble_eq_true rfl) (Nat.le_of_ble_eq_true rfl) ?_
  intro v M2 hq
  obtain ⟨rfl, rfl⟩ := hq
  show xW _ _ _ _ 9 _ [.int 1] (MX 0 (fun _ => 0) rd0 mo0 (fun _ => 0) (fun _ => 0) (fun _ => 0)) _ _
  refine xi_if_ne_t (tgt := 14) dX11_feed_9 (by decide) (by decide) ?_
  refine xi_aload_n 0 dX11_feed_14 rfl ?_
  refine xi_get (f := 0) dX11_feed_15 rfl rfl ok_8 (by decide) w_242 rfl ?_
  refine xi_iload_n 1 dX11_feed_18 rfl ?_
  refine xi_callV (as := [.int a1]) (rest := []) dX11_feed_19 (fx_putFour G 0 1 2 3 4 a1 _ (by unfold vp_in; decide) (by decide) (by decide) (by unfold vp_in; decide) (by decide) (by decide) (by unfold vp_in; decide) (by decide) (by decide) (by unfold vp_in; decide) (by decide) (by decide)) mkX1_putFour w_282 w_283 w_281 rfl rfl rfl rfl rfl (Nat.le_of_ble_eq_true rfl) (Nat.le_of_ble_eq_true rfl) (Nat.le_of_ble_eq_true rfl) (Nat.le_of_ble_eq_true rfl) (Nat.le_of_ble_eq_true rfl) ?_
  intro v M2 hq
  obtain ⟨rfl, f1, rfl⟩ := hq
  show xW _ _ _ _ 22 _ [] (MX 4 f1 rd0 mo0 (fun _ => 0) (fun _ => 0) (fun _ => 0)) _ _
  refine xi_aload_n 0 dX11_feed_22 rfl ?_
  refine xi_get (f := 0) dX11_feed_23 rfl rfl ok_8 (by decide) w_242 rfl ?_
  refine xi_iload_n 2 dX11_feed_26 rfl ?_
  refine xi_callV (as := [.int a2]) (rest := []) dX11_feed_27 (fx_putFour G 4 5 6 7 8 a2 _ (by unfold vp_in; decide) (by decide) (by decide) (by unfold vp_in; decide) (by decide) (by decide) (by unfold vp_in; decide) (by decide) (by decide) (by unfold vp_in; decide) (by decide) (by decide)) mkX1_putFour w_282 w_283 w_281 rfl rfl rfl rfl rfl (Nat.le_of_ble_eq_true rfl) (Nat.le_of_ble_eq_true rfl) (Nat.le_of_ble_eq_true rfl) (Nat.le_of_ble_eq_true rfl) (Nat.le_of_ble_eq_true rfl) ?_
  intro v M2 hq
  obtain ⟨rfl, f2, rfl⟩ := hq
  show xW _ _ _ _ 30 _ [] (MX 8 f2 rd0 mo0 (fun _ => 0) (fun _ => 0) (fun _ => 0)) _ _
  refine xi_aload_n 0 dX11_feed_30 rfl ?_
  refine xi_get (f := 0) dX11_feed_31 rfl rfl ok_8 (by decide) w_242 rfl ?_
  refine xi_iload_n 3 dX11_feed_34 rfl ?_
  refine xi_callV (as := [.int a3]) (rest := []) dX11_feed_35 (fx_putFour G 8 9 10 11 12 a3 _ (by unfold vp_in; decide) (by decide) (by decide) (by unfold vp_in; decide) (by decide) (by decide) (by unfold vp_in; decide) (by decide) (by decide) (by unfold vp_in; decide) (by decide) (by decide)) mkX1_putFour w_282 w_283 w_281 rfl rfl rfl rfl rfl (Nat.le_of_ble_eq_true rfl) (Nat.le_of_ble_eq_true rfl) (Nat.le_of_ble_eq_true rfl) (Nat.le_of_ble_eq_true rfl) (Nat.le_of_ble_eq_true rfl) ?_
  intro v M2 hq
  obtain ⟨rfl, f3, rfl⟩ := hq
  show xW _ _ _ _ 38 _ [] (MX 12 f3 rd0 mo0 (fun _ => 0) (fun _ => 0) (fun _ => 0)) _ _
  refine xi_aload_n 0 dX11_feed_38 rfl ?_
  refine xi_get (f := 0) dX11_feed_39 rfl rfl ok_8 (by decide) w_242 rfl ?_
  refine xi_iload 4 dX11_feed_42 rfl ?_
  refine xi_callV (as := [.int a4]) (rest := []) dX11_feed_44 (fx_putFour G 12 13 14 15 16 a4 _ (by unfold vp_in; decide) (by decide) (by decide) (by unfold vp_in; decide) (by decide) (by decide) (by unfold vp_in; decide) (by decide) (by decide) (by unfold vp_in; decide) (by decide) (by decide)) mkX1_putFour w_282 w_283 w_281 rfl rfl rfl rfl rfl (Nat.le_of_ble_eq_true rfl) (Nat.le_of_ble_eq_true rfl) (Nat.le_of_ble_eq_true rfl) (Nat.le_of_ble_eq_true rfl) (Nat.le_of_ble_eq_true rfl) ?_
  intro v M2 hq
  obtain ⟨rfl, f4, rfl⟩ := hq
  show xW _ _ _ _ 47 _ [] (MX 16 f4 rd0 mo0 (fun _ => 0) (fun _ => 0) (fun _ => 0)) _ _
  refine xi_aload_n 0 dX11_feed_47 rfl ?_
  refine xi_get (f := 0) dX11_feed_48 rfl rfl ok_8 (by decide) w_242 rfl ?_
  refine xi_iload 5 dX11_feed_51 rfl ?_
  refine xi_callV (as := [.int a5]) (rest := []) dX11_feed_53 (fx_putFour G 16 17 18 19 20 a5 _ (by unfold vp_in; decide) (by decide) (by decide) (by unfold vp_in; decide) (by decide) (by decide) (by unfold vp_in; decide) (by decide) (by decide) (by unfold vp_in; decide) (by decide) (by decide)) mkX1_putFour w_282 w_283 w_281 rfl rfl rfl rfl rfl (Nat.le_of_ble_eq_true rfl) (Nat.le_of_ble_eq_true rfl) (Nat.le_of_ble_eq_true rfl) (Nat.le_of_ble_eq_true rfl) (Nat.le_of_ble_eq_true rfl) ?_
  intro v M2 hq
  obtain ⟨rfl, f5, rfl⟩ := hq
  show xW _ _ _ _ 56 _ [] (MX 20 f5 rd0 mo0 (fun _ => 0) (fun _ => 0) (fun _ => 0)) _ _
  refine xi_aload_n 0 dX11_feed_56 rfl ?_
  refine xi_get (f := 0) dX11_feed_57 rfl rfl ok_8 (by decide) w_242 rfl ?_
  refine xi_get (f := 1) dX11_feed_60 rfl rfl ok_1 (by decide) w_41 rfl ?_
  exact xi_iret dX11_feed_63 rfl rfl (Nat.le_of_ble_eq_true rfl) (Nat.le_of_ble_eq_true rfl) ⟨rfl, _, rfl⟩
set_option maxHeartbeats 4000000 in
set_option maxRecDepth 100000 in
theorem au_1 (G : xG) : xC G mX1_at 0 0 0 [.ref 1, .int 0] (MX 0 (fun _ => 0) rd0 mo0 (fun _ => 0) (fun _ => 0) (fun _ => 0)) (fun v M2 => v = some (.int (-1)) ∧ M2 = (MX 0 (fun _ => 0) rd0 mo0 (fun _ => 0) (fun _ => 0) (fun _ => 0))) := by
  refine xC.of (by decide) (Nat.le_of_ble_eq_true rfl) ?_
  show xW _ _ _ _ 0 [(0, .ref 1), (1, .int 0)] [] _ 0 0
  refine xi_iload_n 1 dX1_at_0 rfl ?_
  refine xi_if_lt_f (tgt := 25) dX1_at_1 (by decide) (by decide) ?_
  refine xi_iload_n 1 dX1_at_4 rfl ?_
  refine xi_aload_n 0 dX1_at_5 rfl ?_
  refine xi_get (f := 1) dX1_at_6 rfl rfl ok_1 (by decide) w_40 rfl ?_
  refine xi_icmp_ge_t (tgt := 25) dX1_at_9 (by decide) (by decide) ?_
  refine xi_iconst (v := (-1)) dX1_at_25 (by decide) ?_
  exact xi_iret dX1_at_26 rfl rfl (Nat.le_of_ble_eq_true rfl) (Nat.le_of_ble_eq_true rfl) ⟨rfl, rfl⟩
set_option maxHeartbeats 4000000 in
set_option maxRecDepth 100000 in
theorem au_2 (G : xG) : xC G mX7_kindOf 0 0 0 [.int (-1)] (MX 0 (fun _ => 0) rd0 mo0 (fun _ => 0) (fun _ => 0) (fun _ => 0)) (fun v M2 => v = some (.int 0) ∧ M2 = (MX 0 (fun _ => 0) rd0 mo0 (fun _ => 0) (fun _ => 0) (fun _ => 0))) := by
  refine xC.of (by decide) (Nat.le_of_ble_eq_true rfl) ?_
  show xW _ _ _ _ 0 [(0, .int (-1))] [] _ 0 0
  refine xi_iload_n 0 dX7_kindOf_0 rfl ?_
  refine xi_iconst (v := (-1)) dX7_kindOf_1 (by decide) ?_
  refine xi_icmp_ne_f (tgt := 7) dX7_kindOf_2 (by decide) (by decide) ?_
  refine xi_iconst (v := 0) dX7_kindOf_5 (by decide) ?_
  exact xi_iret dX7_kindOf_6 rfl rfl (Nat.le_of_ble_eq_true rfl) (Nat.le_of_ble_eq_true rfl) ⟨rfl, rfl⟩
set_option maxHeartbeats 4000000 in
set_option maxRecDepth 100000 in
theorem au_3 (G : xG) : xC G mX7_step 1 0 0 [.ref 5] (MX 0 (fun _ => 0) rd0 mo0 (fun _ => 0) (fun _ => 0) (fun _ => 0)) (fun v M2 => v = none ∧ M2 = (MX 0 (fun _ => 0) rd0 mo0 (fun _ => 0) (fun _ => 0) (fun _ => 0))) := by
  refine xC.of (by decide) (Nat.le_of_ble_eq_true rfl) ?_
  show xW _ _ _ _ 0 [(0, .ref 5)] [] _ 0 0
  refine xi_aload_n 0 dX7_step_0 rfl ?_
  refine xi_aload_n 0 dX7_step_1 rfl ?_
  refine xi_get (f := 6) dX7_step_2 rfl rfl ok_6 (by decide) w_105 rfl ?_
  refine xi_put (f := 5) (ty := .int) (M' := (MX 0 (fun _ => 0) rd0 mo0 (fun _ => 0) (fun _ => 0) (fun _ => 0))) dX7_step_5 rfl rfl ok_6 (by decide) w_104 rfl pf_I (fun _ h => by cases h) rfl rfl (Nat.le_of_ble_eq_true rfl) rfl ?_
  refine xi_aload_n 0 dX7_step_8 rfl ?_
  refine xi_get (f := 5) dX7_step_9 rfl rfl ok_6 (by decide) w_104 rfl ?_
  refine xi_aload_n 0 dX7_step_12 rfl ?_
  refine xi_get (f := 3) dX7_step_13 rfl rfl ok_6 (by decide) w_102 rfl ?_
  refine xi_get (f := 1) dX7_step_16 rfl rfl ok_1 (by decide) w_42 rfl ?_
  refine xi_icmp_ge_t (tgt := 52) dX7_step_19 (by decide) (by decide) ?_
  refine xi_aload_n 0 dX7_step_52 rfl ?_
  refine xi_aload_n 0 dX7_step_53 rfl ?_
  refine xi_get (f := 3) dX7_step_54 rfl rfl ok_6 (by decide) w_102 rfl ?_
  refine xi_aload_n 0 dX7_step_57 rfl ?_
  refine xi_get (f := 5) dX7_step_58 rfl rfl ok_6 (by decide) w_104 rfl ?_
  refine xi_callV (as := [.int 0]) (rest := [.ref 5]) dX7_step_61 (au_1 G) mkX1_at w_310 w_311 w_309 rfl rfl rfl rfl rfl (Nat.le_of_ble_eq_true rfl) (Nat.le_of_ble_eq_true rfl) (Nat.le_of_ble_eq_true rfl) (Nat.le_of_ble_eq_true rfl) (Nat.le_of_ble_eq_true rfl) ?_
  intro v M2 hq
  obtain ⟨rfl, rfl⟩ := hq
  show xW _ _ _ _ 64 _ [.int (-1), .ref 5] (MX 0 (fun _ => 0) rd0 mo0 (fun _ => 0) (fun _ => 0) (fun _ => 0)) _ _
  refine xi_callS (as := [.int (-1)]) (rest := [.ref 5]) dX7_step_64 (au_2 G) mkX7_kindOf w_317 w_316 rfl rfl (Nat.le_of_ble_eq_true rfl) (Nat.le_of_ble_eq_true rfl) (Nat.le_of_ble_eq_true rfl) (Nat.le_of_ble_eq_true rfl) (Nat.le_of_ble_eq_true rfl) ?_
  intro v M2 hq
  obtain ⟨rfl, rfl⟩ := hq
  show xW _ _ _ _ 67 _ [.int 0, .ref 5] (MX 0 (fun _ => 0) rd0 mo0 (fun _ => 0) (fun _ => 0) (fun _ => 0)) _ _
  refine xi_put (f := 4) (ty := .int) (M' := (MX 0 (fun _ => 0) rd0 mo0 (fun _ => 0) (fun _ => 0) (fun _ => 0))) dX7_step_67 rfl rfl ok_6 (by decide) w_103 rfl pf_I (fun _ h => by cases h) rfl rfl (Nat.le_of_ble_eq_true rfl) rfl ?_
  refine xi_aload_n 0 dX7_step_70 rfl ?_
  refine xi_aload_n 0 dX7_step_71 rfl ?_
  refine xi_get (f := 4) dX7_step_72 rfl rfl ok_6 (by decide) w_103 rfl ?_
  refine xi_if_ne_f (tgt := 85) dX7_step_75 (by decide) (by decide) ?_
  refine xi_aload_n 0 dX7_step_78 rfl ?_
  refine xi_get (f := 5) dX7_step_79 rfl rfl ok_6 (by decide) w_104 rfl ?_
  refine xi_goto (tgt := 91) dX7_step_82 (by decide) ?_
  refine xi_put (f := 6) (ty := .int) (M' := (MX 0 (fun _ => 0) rd0 mo0 (fun _ => 0) (fun _ => 0) (fun _ => 0))) dX7_step_91 rfl rfl ok_6 (by decide) w_105 rfl pf_I (fun _ h => by cases h) rfl rfl (Nat.le_of_ble_eq_true rfl) rfl ?_
  refine xi_aload_n 0 dX7_step_94 rfl ?_
  refine xi_get (f := 4) dX7_step_95 rfl rfl ok_6 (by decide) w_103 rfl ?_
  refine xi_iconst (v := 1) dX7_step_98 (by decide) ?_
  refine xi_icmp_eq_f (tgt := 110) dX7_step_99 (by decide) (by decide) ?_
  refine xi_aload_n 0 dX7_step_102 rfl ?_
  refine xi_get (f := 4) dX7_step_103 rfl rfl ok_6 (by decide) w_103 rfl ?_
  refine xi_iconst (v := 2) dX7_step_106 (by decide) ?_
  refine xi_icmp_ne_t (tgt := 158) dX7_step_107 (by decide) (by decide) ?_
  exact xi_vret dX7_step_158 rfl (Nat.le_of_ble_eq_true rfl) (Nat.le_of_ble_eq_true rfl) ⟨rfl, rfl⟩
set_option maxHeartbeats 4000000 in
set_option maxRecDepth 100000 in
theorem au_4 (G : xG) : xC G mX7_isWord 0 0 0 [.ref 5, .float 0] (MX 0 (fun _ => 0) rd0 mo0 (fun _ => 0) (fun _ => 0) (fun _ => 0)) (fun v M2 => v = some (.int 0) ∧ M2 = (MX 0 (fun _ => 0) rd0 mo0 (fun _ => 0) (fun _ => 0) (fun _ => 0))) := by
  refine xC.of (by decide) (Nat.le_of_ble_eq_true rfl) ?_
  show xW _ _ _ _ 0 [(0, .ref 5), (1, .float 0)] [] _ 0 0
  refine xi_aload_n 0 dX7_isWord_0 rfl ?_
  refine xi_get (f := 4) dX7_isWord_1 rfl rfl ok_6 (by decide) w_103 rfl ?_
  refine xi_iconst (v := 1) dX7_isWord_4 (by decide) ?_
  refine xi_icmp_ne_t (tgt := 24) dX7_isWord_5 (by decide) (by decide) ?_
  refine xi_iconst (v := 0) dX7_isWord_24 (by decide) ?_
  exact xi_iret dX7_isWord_25 rfl (by decide) (Nat.le_of_ble_eq_true rfl) (Nat.le_of_ble_eq_true rfl) ⟨rfl, rfl⟩
set_option maxHeartbeats 4000000 in
set_option maxRecDepth 100000 in
theorem au_5 (G : xG) : xC G mX7_blame 0 0 0 [.ref 5, .int 1] (MX 0 (fun _ => 0) rd0 mo0 (fun _ => 0) (fun _ => 0) (fun _ => 0)) (fun v M2 => v = some (.int 0) ∧ M2 = (MX 0 (fun _ => 0) (.inr (6, [.ref 6, .int 1, .int 0, .ref 1, .int 0, .int 0, .int 0, .int 0])) mo0 (fun _ => 0) (fun _ => 0) (fun _ => 0))) := by
  refine xC.of (by decide) (Nat.le_of_ble_eq_true rfl) ?_
  show xW _ _ _ _ 0 [(0, .ref 5), (1, .int 1)] [] _ 0 0
  refine xi_aload_n 0 dX7_blame_0 rfl ?_
  refine xi_iload_n 1 dX7_blame_1 rfl ?_
  refine xi_put (f := 1) (ty := .int) (M' := (MX 0 (fun _ => 0) (.inr (6, [.ref 6, .int 1, .int (-1), .ref 1, .int 0, .int 0, .int 0, .int 0])) mo0 (fun _ => 0) (fun _ => 0) (fun _ => 0))) dX7_blame_2 rfl rfl ok_6 (by decide) w_98 rfl pf_I (fun _ h => by cases h) rfl rfl (Nat.le_of_ble_eq_true rfl) rfl ?_
  refine xi_aload_n 0 dX7_blame_5 rfl ?_
  refine xi_aload_n 0 dX7_blame_6 rfl ?_
  refine xi_get (f := 5) dX7_blame_7 rfl rfl ok_6 (by decide) w_104 rfl ?_
  refine xi_put (f := 2) (ty := .int) (M' := (MX 0 (fun _ => 0) (.inr (6, [.ref 6, .int 1, .int 0, .ref 1, .int 0, .int 0, .int 0, .int 0])) mo0 (fun _ => 0) (fun _ => 0) (fun _ => 0))) dX7_blame_10 rfl rfl ok_6 (by decide) w_100 rfl pf_I (fun _ h => by cases h) rfl rfl (Nat.le_of_ble_eq_true rfl) rfl ?_
  refine xi_iconst (v := 0) dX7_blame_13 (by decide) ?_
  exact xi_iret dX7_blame_14 rfl (by decide) (Nat.le_of_ble_eq_true rfl) (Nat.le_of_ble_eq_true rfl) ⟨rfl, rfl⟩
set_option maxHeartbeats 4000000 in
set_option maxRecDepth 100000 in
theorem au_6 (G : xG) : xC G mX7_readHead 1 0 0 [.ref 5] (MX 0 (fun _ => 0) rd0 mo0 (fun _ => 0) (fun _ => 0) (fun _ => 0)) (fun v M2 => v = some (.int 0) ∧ M2 = (MX 0 (fun _ => 0) (.inr (6, [.ref 6, .int 1, .int 0, .ref 1, .int 0, .int 0, .int 0, .int 0])) mo0 (fun _ => 0) (fun _ => 0) (fun _ => 0))) := by
  refine xC.of (by decide) (Nat.le_of_ble_eq_true rfl) ?_
  show xW _ _ _ _ 0 [(0, .ref 5)] [] _ 0 0
  refine xi_aload_n 0 dX7_readHead_0 rfl ?_
  refine xi_ldcS (w := 0) dX7_readHead_1 st_0 rfl ?_
  refine xi_callV (as := [.float 0]) (rest := []) dX7_readHead_3 (au_4 G) mkX7_isWord w_326 ws_2 w_324 rfl rfl rfl rfl rfl (Nat.le_of_ble_eq_true rfl) (Nat.le_of_ble_eq_true rfl) (Nat.le_of_ble_eq_true rfl) (Nat.le_of_ble_eq_true rfl) (Nat.le_of_ble_eq_true rfl) ?_
  intro v M2 hq
  obtain ⟨rfl, rfl⟩ := hq
  show xW _ _ _ _ 6 _ [.int 0] (MX 0 (fun _ => 0) rd0 mo0 (fun _ => 0) (fun _ => 0) (fun _ => 0)) _ _
  refine xi_if_ne_f (tgt := 15) dX7_readHead_6 (by decide) (by decide) ?_
  refine xi_aload_n 0 dX7_readHead_9 rfl ?_
  refine xi_iconst (v := 1) dX7_readHead_10 (by decide) ?_
  refine xi_callV (as := [.int 1]) (rest := []) dX7_readHead_11 (au_5 G) mkX7_blame w_378 ws_3 w_376 rfl rfl rfl rfl rfl (Nat.le_of_ble_eq_true rfl) (Nat.le_of_ble_eq_true rfl) (Nat.le_of_ble_eq_true rfl) (Nat.le_of_ble_eq_true rfl) (Nat.le_of_ble_eq_true rfl) ?_
  intro v M2 hq
  obtain ⟨rfl, rfl⟩ := hq
  show xW _ _ _ _ 14 _ [.int 0] (MX 0 (fun _ => 0) (.inr (6, [.ref 6, .int 1, .int 0, .ref 1, .int 0, .int 0, .int 0, .int 0])) mo0 (fun _ => 0) (fun _ => 0) (fun _ => 0)) _ _
  exact xi_iret dX7_readHead_14 rfl (by decide) (Nat.le_of_ble_eq_true rfl) (Nat.le_of_ble_eq_true rfl) ⟨rfl, rfl⟩
set_option maxHeartbeats 4000000 in
set_option maxRecDepth 100000 in
theorem au_7 (G : xG) : xC G mX7_readAll 2 0 0 [.ref 5] (MX 0 (fun _ => 0) rd0 mo0 (fun _ => 0) (fun _ => 0) (fun _ => 0)) (fun v M2 => v = some (.int 0) ∧ M2 = (MX 0 (fun _ => 0) (.inr (6, [.ref 6, .int 1, .int 0, .ref 1, .int 0, .int 0, .int 0, .int 0])) mo0 (fun _ => 0) (fun _ => 0) (fun _ => 0))) := by
  refine xC.of (by decide) (Nat.le_of_ble_eq_true rfl) ?_
  show xW _ _ _ _ 0 [(0, .ref 5)] [] _ 0 0
  refine xi_aload_n 0 dX7_readAll_0 rfl ?_
  refine xi_iconst (v := 0) dX7_readAll_1 (by decide) ?_
  refine xi_put (f := 1) (ty := .int) (M' := (MX 0 (fun _ => 0) rd0 mo0 (fun _ => 0) (fun _ => 0) (fun _ => 0))) dX7_readAll_2 rfl rfl ok_6 (by decide) w_98 rfl pf_I (fun _ h => by cases h) rfl rfl (Nat.le_of_ble_eq_true rfl) rfl ?_
  refine xi_aload_n 0 dX7_readAll_5 rfl ?_
  refine xi_iconst (v := (-1)) dX7_readAll_6 (by decide) ?_
  refine xi_put (f := 2) (ty := .int) (M' := (MX 0 (fun _ => 0) rd0 mo0 (fun _ => 0) (fun _ => 0) (fun _ => 0))) dX7_readAll_7 rfl rfl ok_6 (by decide) w_100 rfl pf_I (fun _ h => by cases h) rfl rfl (Nat.le_of_ble_eq_true rfl) rfl ?_
  refine xi_aload_n 0 dX7_readAll_10 rfl ?_
  refine xi_iconst (v := 0) dX7_readAll_11 (by decide) ?_
  refine xi_put (f := 6) (ty := .int) (M' := (MX 0 (fun _ => 0) rd0 mo0 (fun _ => 0) (fun _ => 0) (fun _ => 0))) dX7_readAll_12 rfl rfl ok_6 (by decide) w_105 rfl pf_I (fun _ h => by cases h) rfl rfl (Nat.le_of_ble_eq_true rfl) rfl ?_
  refine xi_aload_n 0 dX7_readAll_15 rfl ?_
  refine xi_callV (as := []) (rest := []) dX7_readAll_16 (au_3 G) mkX7_step w_307 ws_0 w_305 rfl rfl rfl rfl rfl (Nat.le_of_ble_eq_true rfl) (Nat.le_of_ble_eq_true rfl) (Nat.le_of_ble_eq_true rfl) (Nat.le_of_ble_eq_true rfl) (Nat.le_of_ble_eq_true rfl) ?_
  intro v M2 hq
  obtain ⟨rfl, rfl⟩ := hq
  show xW _ _ _ _ 19 _ [] (MX 0 (fun _ => 0) rd0 mo0 (fun _ => 0) (fun _ => 0) (fun _ => 0)) _ _
  refine xi_aload_n 0 dX7_readAll_19 rfl ?_
  refine xi_callV (as := []) (rest := []) dX7_readAll_20 (au_6 G) mkX7_readHead w_321 ws_1 w_319 rfl rfl rfl rfl rfl (Nat.le_of_ble_eq_true rfl) (Nat.le_of_ble_eq_true rfl) (Nat.le_of_ble_eq_true rfl) (Nat.le_of_ble_eq_true rfl) (Nat.le_of_ble_eq_true rfl) ?_
  intro v M2 hq
  obtain ⟨rfl, rfl⟩ := hq
  show xW _ _ _ _ 23 _ [.int 0] (MX 0 (fun _ => 0) (.inr (6, [.ref 6, .int 1, .int 0, .ref 1, .int 0, .int 0, .int 0, .int 0])) mo0 (fun _ => 0) (fun _ => 0) (fun _ => 0)) _ _
  refine xi_if_eq_t (tgt := 44) dX7_readAll_23 (by decide) (by decide) ?_
  refine xi_iconst (v := 0) dX7_readAll_44 (by decide) ?_
  exact xi_iret dX7_readAll_45 rfl (by decide) (Nat.le_of_ble_eq_true rfl) (Nat.le_of_ble_eq_true rfl) ⟨rfl, rfl⟩
set_option maxHeartbeats 4000000 in
set_option maxRecDepth 100000 in
theorem fx_told_0 (G : xG) : xC G mX11_told 3 0 0 [.ref 0, .int 0] M0 (fun v M2 => v = some (.int (-4)) ∧ M2 = (MX 0 (fun _ => 0) (.inr (6, [.ref 6, .int 1, .int 0, .ref 1, .int 0, .int 0, .int 0, .int 0])) mo0 (fun _ => 0) (fun _ => 0) (fun _ => 0))) := by
  refine xC.of (by decide) (Nat.le_of_ble_eq_true rfl) ?_
  show xW _ _ _ _ 0 [(0, .ref 0), (1, .int 0)] [] _ 0 0
  refine xi_iload_n 1 dX11_told_0 rfl ?_
  refine xi_callS (as := [.int 0]) (rest := []) dX11_told_1 (fx_isSlot_0 G) mkX11_isSlot w_299 w_298 rfl rfl (Nat.le_of_ble_eq_true rfl) (Nat.le_of_ble_eq_true rfl) (Nat.le_of_ble_eq_true rfl) (Nat.le_of_ble_eq_true rfl) (Nat.le_of_ble_eq_true rfl) ?_
  intro v M2 hq
  obtain ⟨rfl, rfl⟩ := hq
  show xW _ _ _ _ 4 _ [.int 1] (MX 0 (fun _ => 0) rd0 mo0 (fun _ => 0) (fun _ => 0) (fun _ => 0)) _ _
  refine xi_if_ne_t (tgt := 10) dX11_told_4 (by decide) (by decide) ?_
  refine xi_aload_n 0 dX11_told_10 rfl ?_
  refine xi_get (f := 2) dX11_told_11 rfl rfl ok_8 (by decide) w_244 rfl ?_
  refine xi_callV (as := []) (rest := []) dX11_told_14 (au_7 G) mkX7_readAll w_302 w_303 w_301 rfl rfl rfl rfl rfl (Nat.le_of_ble_eq_true rfl) (Nat.le_of_ble_eq_true rfl) (Nat.le_of_ble_eq_true rfl) (Nat.le_of_ble_eq_true rfl) (Nat.le_of_ble_eq_true rfl) ?_
  intro v M2 hq
  obtain ⟨rfl, rfl⟩ := hq
  show xW _ _ _ _ 17 _ [.int 0] (MX 0 (fun _ => 0) (.inr (6, [.ref 6, .int 1, .int 0, .ref 1, .int 0, .int 0, .int 0, .int 0])) mo0 (fun _ => 0) (fun _ => 0) (fun _ => 0)) _ _
  refine xi_istore_n (lv' := [(2, .int 0), (0, .ref 0), (1, .int 0)]) dX11_told_17 (by decide) rfl ?_
  refine xi_aload_n 1 dX11_told_18 rfl ?_
  refine xi_get (f := 0) dX11_told_19 rfl rfl ok_8 (by decide) w_242 rfl ?_
  refine xi_iconst (v := 0) dX11_told_22 (by decide) ?_
  refine xi_put (f := 1) (ty := .int) (M' := (MX 0 (fun _ => 0) (.inr (6, [.ref 6, .int 1, .int 0, .ref 1, .int 0, .int 0, .int 0, .int 0])) mo0 (fun _ => 0) (fun _ => 0) (fun _ => 0))) dX11_told_23 rfl rfl ok_1 (by decide) w_41 rfl pf_I (fun _ h => by cases h) rfl rfl (Nat.le_of_ble_eq_true rfl) rfl ?_
  refine xi_iload_n 0 dX11_told_26 rfl ?_
  refine xi_if_ne_f (tgt := 33) dX11_told_27 (by decide) (by decide) ?_
  refine xi_bipush (v := (-4)) dX11_told_30 (by decide) ?_
  exact xi_iret dX11_told_32 rfl rfl (Nat.le_of_ble_eq_true rfl) (Nat.le_of_ble_eq_true rfl) ⟨rfl, rfl⟩
set_option maxHeartbeats 4000000 in
set_option maxRecDepth 100000 in
theorem fx_told_1 (G : xG) : xC G mX11_told 3 0 0 [.ref 0, .int 1] M0 (fun v M2 => v = some (.int (-4)) ∧ M2 = (MX 0 (fun _ => 0) (.inr (6, [.ref 6, .int 1, .int 0, .ref 1, .int 0, .int 0, .int 0, .int 0])) mo0 (fun _ => 0) (fun _ => 0) (fun _ => 0))) := by
  refine xC.of (by decide) (Nat.le_of_ble_eq_true rfl) ?_
  show xW _ _ _ _ 0 [(0, .ref 0), (1, .int 1)] [] _ 0 0
  refine xi_iload_n 1 dX11_told_0 rfl ?_
  refine xi_callS (as := [.int 1]) (rest := []) dX11_told_1 (fx_isSlot_1 G) mkX11_isSlot w_299 w_298 rfl rfl (Nat.le_of_ble_eq_true rfl) (Nat.le_of_ble_eq_true rfl) (Nat.le_of_ble_eq_true rfl) (Nat.le_of_ble_eq_true rfl) (Nat.le_of_ble_eq_true rfl) ?_
  intro v M2 hq
  obtain ⟨rfl, rfl⟩ := hq
  show xW _ _ _ _ 4 _ [.int 1] (MX 0 (fun _ => 0) rd0 mo0 (fun _ => 0) (fun _ => 0) (fun _ => 0)) _ _
  refine xi_if_ne_t (tgt := 10) dX11_told_4 (by decide) (by decide) ?_
  refine xi_aload_n 0 dX11_told_10 rfl ?_
  refine xi_get (f := 2) dX11_told_11 rfl rfl ok_8 (by decide) w_244 rfl ?_
  refine xi_callV (as := []) (rest := []) dX11_told_14 (au_7 G) mkX7_readAll w_302 w_303 w_301 rfl rfl rfl rfl rfl (Nat.le_of_ble_eq_true rfl) (Nat.le_of_ble_eq_true rfl) (Nat.le_of_ble_eq_true rfl) (Nat.le_of_ble_eq_true rfl) (Nat.le_of_ble_eq_true rfl) ?_
  intro v M2 hq
  obtain ⟨rfl, rfl⟩ := hq
  show xW _ _ _ _ 17 _ [.int 0] (MX 0 (fun _ => 0) (.inr (6, [.ref 6, .int 1, .int 0, .ref 1, .int 0, .int 0, .int 0, .int 0])) mo0 (fun _ => 0) (fun _ => 0) (fun _ => 0)) _ _
  refine xi_istore_n (lv' := [(2, .int 0), (0, .ref 0), (1, .int 1)]) dX11_told_17 (by decide) rfl ?_
  refine xi_aload_n 1 dX11_told_18 rfl ?_
  refine xi_get (f := 0) dX11_told_19 rfl rfl ok_8 (by decide) w_242 rfl ?_
  refine xi_iconst (v := 0) dX11_told_22 (by decide) ?_
  refine xi_put (f := 1) (ty := .int) (M' := (MX 0 (fun _ => 0) (.inr (6, [.ref 6, .int 1, .int 0, .ref 1, .int 0, .int 0, .int 0, .int 0])) mo0 (fun _ => 0) (fun _ => 0) (fun _ => 0))) dX11_told_23 rfl rfl ok_1 (by decide) w_41 rfl pf_I (fun _ h => by cases h) rfl rfl (Nat.le_of_ble_eq_true rfl) rfl ?_
  refine xi_iload_n 0 dX11_told_26 rfl ?_
  refine xi_if_ne_f (tgt := 33) dX11_told_27 (by decide) (by decide) ?_
  refine xi_bipush (v := (-4)) dX11_told_30 (by decide) ?_
  exact xi_iret dX11_told_32 rfl rfl (Nat.le_of_ble_eq_true rfl) (Nat.le_of_ble_eq_true rfl) ⟨rfl, rfl⟩
set_option maxHeartbeats 4000000 in
set_option maxRecDepth 100000 in
theorem fx_told_2 (G : xG) : xC G mX11_told 3 0 0 [.ref 0, .int 2] M0 (fun v M2 => v = some (.int (-4)) ∧ M2 = (MX 0 (fun _ => 0) (.inr (6, [.ref 6, .int 1, .int 0, .ref 1, .int 0, .int 0, .int 0, .int 0])) mo0 (fun _ => 0) (fun _ => 0) (fun _ => 0))) := by
  refine xC.of (by decide) (Nat.le_of_ble_eq_true rfl) ?_
  show xW _ _ _ _ 0 [(0, .ref 0), (1, .int 2)] [] _ 0 0
  refine xi_iload_n 1 dX11_told_0 rfl ?_
  refine xi_callS (as := [.int 2]) (rest := []) dX11_told_1 (fx_isSlot_2 G) mkX11_isSlot w_299 w_298 rfl rfl (Nat.le_of_ble_eq_true rfl) (Nat.le_of_ble_eq_true rfl) (Nat.le_of_ble_eq_true rfl) (Nat.le_of_ble_eq_true rfl) (Nat.le_of_ble_eq_true rfl) ?_
  intro v M2 hq
  obtain ⟨rfl, rfl⟩ := hq
  show xW _ _ _ _ 4 _ [.int 1] (MX 0 (fun _ => 0) rd0 mo0 (fun _ => 0) (fun _ => 0) (fun _ => 0)) _ _
  refine xi_if_ne_t (tgt := 10) dX11_told_4 (by decide) (by decide) ?_
  refine xi_aload_n 0 dX11_told_10 rfl ?_
  refine xi_get (f := 2) dX11_told_11 rfl rfl ok_8 (by decide) w_244 rfl ?_
  refine xi_callV (as := []) (rest := []) dX11_told_14 (au_7 G) mkX7_readAll w_302 w_303 w_301 rfl rfl rfl rfl rfl (Nat.le_of_ble_eq_true rfl) (Nat.le_of_ble_eq_true rfl) (Nat.le_of_ble_eq_true rfl) (Nat.le_of_ble_eq_true rfl) (Nat.le_of_ble_eq_true rfl) ?_
  intro v M2 hq
  obtain ⟨rfl, rfl⟩ := hq
  show xW _ _ _ _ 17 _ [.int 0] (MX 0 (fun _ => 0) (.inr (6, [.ref 6, .int 1, .int 0, .ref 1, .int 0, .int 0, .int 0, .int 0])) mo0 (fun _ => 0) (fun _ => 0) (fun _ => 0)) _ _
  refine xi_istore_n (lv' := [(2, .int 0), (0, .ref 0), (1, .int 2)]) dX11_told_17 (by decide) rfl ?_
  refine xi_aload_n 1 dX11_told_18 rfl ?_
  refine xi_get (f := 0) dX11_told_19 rfl rfl ok_8 (by decide) w_242 rfl ?_
  refine xi_iconst (v := 0) dX11_told_22 (by decide) ?_
  refine xi_put (f := 1) (ty := .int) (M' := (MX 0 (fun _ => 0) (.inr (6, [.ref 6, .int 1, .int 0, .ref 1, .int 0, .int 0, .int 0, .int 0])) mo0 (fun _ => 0) (fun _ => 0) (fun _ => 0))) dX11_told_23 rfl rfl ok_1 (by decide) w_41 rfl pf_I (fun _ h => by cases h) rfl rfl (Nat.le_of_ble_eq_true rfl) rfl ?_
  refine xi_iload_n 0 dX11_told_26 rfl ?_
  refine xi_if_ne_f (tgt := 33) dX11_told_27 (by decide) (by decide) ?_
  refine xi_bipush (v := (-4)) dX11_told_30 (by decide) ?_
  exact xi_iret dX11_told_32 rfl rfl (Nat.le_of_ble_eq_true rfl) (Nat.le_of_ble_eq_true rfl) ⟨rfl, rfl⟩
set_option maxHeartbeats 4000000 in
set_option maxRecDepth 100000 in
theorem fx_told_out (G : xG) (a1 : Int32) (h : a1 < 0 ∨ 3 ≤ a1) : xC G mX11_told 3 0 0 [.ref 0, .int a1] (MX 0 (fun _ => 0) rd0 mo0 (fun _ => 0) (fun _ => 0) (fun _ => 0)) (fun v M2 => v = some (.int (-2)) ∧ M2 = (MX 0 (fun _ => 0) rd0 mo0 (fun _ => 0) (fun _ => 0) (fun _ => 0))) := by
  refine xC.of (by decide) (Nat.le_of_ble_eq_true rfl) ?_
  show xW _ _ _ _ 0 [(0, .ref 0), (1, .int a1)] [] _ 0 0
  refine xi_iload_n 1 dX11_told_0 rfl ?_
  refine xi_callS (as := [.int a1]) (rest := []) dX11_told_1 (fx_isSlot_out G _ h) mkX11_isSlot w_299 w_298 rfl rfl (Nat.le_of_ble_eq_true rfl) (Nat.le_of_ble_eq_true rfl) (Nat.le_of_ble_eq_true rfl) (Nat.le_of_ble_eq_true rfl) (Nat.le_of_ble_eq_true rfl) ?_
  intro v M2 hq
  obtain ⟨rfl, rfl⟩ := hq
  show xW _ _ _ _ 4 _ [.int 0] (MX 0 (fun _ => 0) rd0 mo0 (fun _ => 0) (fun _ => 0) (fun _ => 0)) _ _
  refine xi_if_ne_f (tgt := 10) dX11_told_4 (by decide) (by decide) ?_
  refine xi_bipush (v := (-2)) dX11_told_7 (by decide) ?_
  exact xi_iret dX11_told_9 rfl rfl (Nat.le_of_ble_eq_true rfl) (Nat.le_of_ble_eq_true rfl) ⟨rfl, rfl⟩
theorem lgN (x y : Int64) : lg_cmp x y < 0 ↔ x < y := by
  unfold lg_cmp
  by_cases h1 : y < x
  · have h2 : ¬ x < y := fun h => by rw [Int64.lt_iff_toInt_lt] at h h1; omega
    rw [if_pos h1]
    exact ⟨fun h => absurd h (by decide), fun h => absurd h h2⟩
  · by_cases h2 : x = y
    · subst h2
      rw [if_neg h1, if_pos rfl]
      exact ⟨fun h => absurd h (by decide), fun h => absurd h h1⟩
    · rw [if_neg h1, if_neg h2]
      refine ⟨fun _ => ?_, fun _ => by decide⟩
      have h3 : x.toInt ≠ y.toInt := fun e => h2 (Int64.toInt_inj.mp e)
      rw [Int64.lt_iff_toInt_lt] at h1 ⊢
      omega
theorem lgP (x y : Int64) : 0 < lg_cmp x y ↔ y < x := by
  unfold lg_cmp
  by_cases h1 : y < x
  · rw [if_pos h1]
    exact ⟨fun _ => h1, fun _ => by decide⟩
  · by_cases h2 : x = y
    · rw [if_neg h1, if_pos h2]
      exact ⟨fun h => absurd h (by decide), fun h => absurd h h1⟩
    · rw [if_neg h1, if_neg h2]
      exact ⟨fun h => absurd h (by decide), fun h => absurd h h1⟩
theorem wdl (x : Int32) (b : Int64) : x.toInt64 < b ↔ x.toInt < b.toInt := by rw [Int64.lt_iff_toInt_lt, Int32.toInt_toInt64]
theorem wdr (x : Int32) (b : Int64) : b < x.toInt64 ↔ b.toInt < x.toInt := by rw [Int64.lt_iff_toInt_lt, Int32.toInt_toInt64]
theorem in_no {x : Int32} {lo hi : Int64} (h : x.toInt < lo.toInt ∨ hi.toInt < x.toInt) (c1 : ¬ lg_cmp x.toInt64 lo < 0) (c2 : ¬ 0 < lg_cmp x.toInt64 hi) : False := by
  rw [lgN, wdl] at c1
  rw [lgP, wdr] at c2
  exact h.elim c1 c2
theorem out3 {x : Int32} (h : x < 0 ∨ 3 ≤ x) : x.toInt < (0 : Int64).toInt ∨ (2 : Int64).toInt < x.toInt := by
  rcases h with h | h
  · rw [Int32.lt_iff_toInt_lt] at h
    exact Or.inl h
  · rw [Int32.le_iff_toInt_le] at h
    refine Or.inr ?_
    have e3 : (3 : Int32).toInt = 3 := by decide
    have e2 : (2 : Int64).toInt = 2 := by decide
    omega
theorem out1 {x : Int32} (h : x < 0 ∨ 0 < x) : x.toInt < (0 : Int64).toInt ∨ (0 : Int64).toInt < x.toInt := by
  rcases h with h | h
  · rw [Int32.lt_iff_toInt_lt] at h
    exact Or.inl h
  · rw [Int32.lt_iff_toInt_lt] at h
    exact Or.inr h
theorem outm (x : Int32) : x.toInt < (0 : Int64).toInt ∨ (-1 : Int64).toInt < x.toInt := by
  have e1 : (-1 : Int64).toInt = -1 := by decide
  have e0 : (0 : Int64).toInt = 0 := by decide
  omega
set_option maxHeartbeats 4000000 in
set_option maxRecDepth 100000 in
theorem fm_in_s (G : xG) (a1 : Int32) (h : a1.toInt < (0 : Int64).toInt ∨ (2 : Int64).toInt < a1.toInt) : xC G mX12_in 0 0 0 [.long a1.toInt64, .long 0, .long 2] (MX 0 (fun _ => 0) rd0 mo0 (fun _ => 0) (fun _ => 0) (fun _ => 0)) (fun v M2 => v = some (.int 0) ∧ M2 = (MX 0 (fun _ => 0) rd0 mo0 (fun _ => 0) (fun _ => 0) (fun _ => 0))) := by
  refine xC.of (by decide) (Nat.le_of_ble_eq_true rfl) ?_
  show xW _ _ _ _ 0 [(0, .long a1.toInt64), (2, .long 0), (4, .long 2)] [] _ 0 0
  refine xi_lload_n 0 dX12_in_0 rfl ?_
  refine xi_lload_n 1 dX12_in_1 rfl ?_
  refine xi_lcmp dX12_in_2 rfl ?_
  refine xi_if_lt (tgt := 17) dX12_in_3 (by decide) (fun c1 => ?_) (fun c1 => ?_)
  · refine xi_iconst (v := 0) dX12_in_17 (by decide) ?_
    exact xi_iret dX12_in_18 rfl (by decide) (Nat.le_of_ble_eq_true rfl) (Nat.le_of_ble_eq_true rfl) ⟨rfl, rfl⟩
  · refine xi_lload_n 0 dX12_in_6 rfl ?_
    refine xi_lload 2 dX12_in_7 rfl ?_
    refine xi_lcmp dX12_in_9 rfl ?_
    refine xi_if_gt (tgt := 17) dX12_in_10 (by decide) (fun c2 => ?_) (fun c2 => ?_)
    · refine xi_iconst (v := 0) dX12_in_17 (by decide) ?_
      exact xi_iret dX12_in_18 rfl (by decide) (Nat.le_of_ble_eq_true rfl) (Nat.le_of_ble_eq_true rfl) ⟨rfl, rfl⟩
    · refine xi_iconst (v := 1) dX12_in_13 (by decide) ?_
      refine xi_goto (tgt := 18) dX12_in_14 (by decide) ?_
      exact (in_no h c1 c2).elim
set_option maxHeartbeats 4000000 in
set_option maxRecDepth 100000 in
theorem fm_in_o (G : xG) (a1 : Int32) (h : a1.toInt < (0 : Int64).toInt ∨ (-1 : Int64).toInt < a1.toInt) : xC G mX12_in 0 0 0 [.long a1.toInt64, .long 0, .long (-1)] (MX 0 (fun _ => 0) rd0 mo0 (fun _ => 0) (fun _ => 0) (fun _ => 0)) (fun v M2 => v = some (.int 0) ∧ M2 = (MX 0 (fun _ => 0) rd0 mo0 (fun _ => 0) (fun _ => 0) (fun _ => 0))) := by
  refine xC.of (by decide) (Nat.le_of_ble_eq_true rfl) ?_
  show xW _ _ _ _ 0 [(0, .long a1.toInt64), (2, .long 0), (4, .long (-1))] [] _ 0 0
  refine xi_lload_n 0 dX12_in_0 rfl ?_
  refine xi_lload_n 1 dX12_in_1 rfl ?_
  refine xi_lcmp dX12_in_2 rfl ?_
  refine xi_if_lt (tgt := 17) dX12_in_3 (by decide) (fun c1 => ?_) (fun c1 => ?_)
  · refine xi_iconst (v := 0) dX12_in_17 (by decide) ?_
    exact xi_iret dX12_in_18 rfl (by decide) (Nat.le_of_ble_eq_true rfl) (Nat.le_of_ble_eq_true rfl) ⟨rfl, rfl⟩
  · refine xi_lload_n 0 dX12_in_6 rfl ?_
    refine xi_lload 2 dX12_in_7 rfl ?_
    refine xi_lcmp dX12_in_9 rfl ?_
    refine xi_if_gt (tgt := 17) dX12_in_10 (by decide) (fun c2 => ?_) (fun c2 => ?_)
    · refine xi_iconst (v := 0) dX12_in_17 (by decide) ?_
      exact xi_iret dX12_in_18 rfl (by decide) (Nat.le_of_ble_eq_true rfl) (Nat.le_of_ble_eq_true rfl) ⟨rfl, rfl⟩
    · refine xi_iconst (v := 1) dX12_in_13 (by decide) ?_
      refine xi_goto (tgt := 18) dX12_in_14 (by decide) ?_
      exact (in_no h c1 c2).elim
set_option maxHeartbeats 4000000 in
set_option maxRecDepth 100000 in
theorem fm_in_e (G : xG) (a1 : Int32) (h : a1.toInt < (0 : Int64).toInt ∨ (0 : Int64).toInt < a1.toInt) : xC G mX12_in 0 0 0 [.long a1.toInt64, .long 0, .long 0] (MX 0 (fun _ => 0) rd0 mo0 (fun _ => 0) (fun _ => 0) (fun _ => 0)) (fun v M2 => v = some (.int 0) ∧ M2 = (MX 0 (fun _ => 0) rd0 mo0 (fun _ => 0) (fun _ => 0) (fun _ => 0))) := by
  refine xC.of (by decide) (Nat.le_of_ble_eq_true rfl) ?_
  show xW _ _ _ _ 0 [(0, .long a1.toInt64), (2, .long 0), (4, .long 0)] [] _ 0 0
  refine xi_lload_n 0 dX12_in_0 rfl ?_
  refine xi_lload_n 1 dX12_in_1 rfl ?_
  refine xi_lcmp dX12_in_2 rfl ?_
  refine xi_if_lt (tgt := 17) dX12_in_3 (by decide) (fun c1 => ?_) (fun c1 => ?_)
  · refine xi_iconst (v := 0) dX12_in_17 (by decide) ?_
    exact xi_iret dX12_in_18 rfl (by decide) (Nat.le_of_ble_eq_true rfl) (Nat.le_of_ble_eq_true rfl) ⟨rfl, rfl⟩
  · refine xi_lload_n 0 dX12_in_6 rfl ?_
    refine xi_lload 2 dX12_in_7 rfl ?_
    refine xi_lcmp dX12_in_9 rfl ?_
    refine xi_if_gt (tgt := 17) dX12_in_10 (by decide) (fun c2 => ?_) (fun c2 => ?_)
    · refine xi_iconst (v := 0) dX12_in_17 (by decide) ?_
      exact xi_iret dX12_in_18 rfl (by decide) (Nat.le_of_ble_eq_true rfl) (Nat.le_of_ble_eq_true rfl) ⟨rfl, rfl⟩
    · refine xi_iconst (v := 1) dX12_in_13 (by decide) ?_
      refine xi_goto (tgt := 18) dX12_in_14 (by decide) ?_
      exact (in_no h c1 c2).elim
set_option maxHeartbeats 4000000 in
set_option maxRecDepth 100000 in
theorem fm_isSlot_out (G : xG) (a1 : Int32) (h : a1 < 0 ∨ 3 ≤ a1) : xC G mX12_isSlot 1 0 0 [.int a1] (MX 0 (fun _ => 0) rd0 mo0 (fun _ => 0) (fun _ => 0) (fun _ => 0)) (fun v M2 => v = some (.int 0) ∧ M2 = (MX 0 (fun _ => 0) rd0 mo0 (fun _ => 0) (fun _ => 0) (fun _ => 0))) := by
  refine xC.of (by decide) (Nat.le_of_ble_eq_true rfl) ?_
  show xW _ _ _ _ 0 [(0, .int a1)] [] _ 0 0
  refine xi_iload_n 0 dX12_isSlot_0 rfl ?_
  refine xi_i2l dX12_isSlot_1 rfl ?_
  refine xi_lconst (v := 0) dX12_isSlot_2 (by decide) ?_
  refine xi_ldc2 (v := 2) dX12_isSlot_3 w_1098 ?_
  refine xi_callS (as := [.long a1.toInt64, .long 0, .long 2]) (rest := []) dX12_isSlot_6 (fm_in_s G _ (out3 h)) mkX12_in w_1100 w_1099 rfl rfl (Nat.le_of_ble_eq_true rfl) (Nat.le_of_ble_eq_true rfl) (Nat.le_of_ble_eq_true rfl) (Nat.le_of_ble_eq_true rfl) (Nat.le_of_ble_eq_true rfl) ?_
  intro v M2 hq
  obtain ⟨rfl, rfl⟩ := hq
  show xW _ _ _ _ 9 _ [.int 0] (MX 0 (fun _ => 0) rd0 mo0 (fun _ => 0) (fun _ => 0) (fun _ => 0)) _ _
  exact xi_iret dX12_isSlot_9 rfl (by decide) (Nat.le_of_ble_eq_true rfl) (Nat.le_of_ble_eq_true rfl) ⟨rfl, rfl⟩
set_option maxHeartbeats 4000000 in
set_option maxRecDepth 100000 in
theorem au_8 (G : xG) : xC G mX12_in 0 0 0 [.long 0, .long 0, .long 2] (MX 0 (fun _ => 0) rd0 mo0 (fun _ => 0) (fun _ => 0) (fun _ => 0)) (fun v M2 => v = some (.int 1) ∧ M2 = (MX 0 (fun _ => 0) rd0 mo0 (fun _ => 0) (fun _ => 0) (fun _ => 0))) := by
  refine xC.of (by decide) (Nat.le_of_ble_eq_true rfl) ?_
  show xW _ _ _ _ 0 [(0, .long 0), (2, .long 0), (4, .long 2)] [] _ 0 0
  refine xi_lload_n 0 dX12_in_0 rfl ?_
  refine xi_lload_n 1 dX12_in_1 rfl ?_
  refine xi_lcmp (v := 0) dX12_in_2 (by decide) ?_
  refine xi_if_lt_f (tgt := 17) dX12_in_3 (by decide) (by decide) ?_
  refine xi_lload_n 0 dX12_in_6 rfl ?_
  refine xi_lload 2 dX12_in_7 rfl ?_
  refine xi_lcmp (v := (-1)) dX12_in_9 (by decide) ?_
  refine xi_if_gt_f (tgt := 17) dX12_in_10 (by decide) (by decide) ?_
  refine xi_iconst (v := 1) dX12_in_13 (by decide) ?_
  refine xi_goto (tgt := 18) dX12_in_14 (by decide) ?_
  exact xi_iret dX12_in_18 rfl (by decide) (Nat.le_of_ble_eq_true rfl) (Nat.le_of_ble_eq_true rfl) ⟨rfl, rfl⟩
set_option maxHeartbeats 4000000 in
set_option maxRecDepth 100000 in
theorem au_9 (G : xG) : xC G mX12_isSlot 1 0 0 [.int 0] (MX 0 (fun _ => 0) rd0 mo0 (fun _ => 0) (fun _ => 0) (fun _ => 0)) (fun v M2 => v = some (.int 1) ∧ M2 = (MX 0 (fun _ => 0) rd0 mo0 (fun _ => 0) (fun _ => 0) (fun _ => 0))) := by
  refine xC.of (by decide) (Nat.le_of_ble_eq_true rfl) ?_
  show xW _ _ _ _ 0 [(0, .int 0)] [] _ 0 0
  refine xi_iload_n 0 dX12_isSlot_0 rfl ?_
  refine xi_i2l (v := 0) dX12_isSlot_1 (by decide) ?_
  refine xi_lconst (v := 0) dX12_isSlot_2 (by decide) ?_
  refine xi_ldc2 (v := 2) dX12_isSlot_3 w_1098 ?_
  refine xi_callS (as := [.long 0, .long 0, .long 2]) (rest := []) dX12_isSlot_6 (au_8 G) mkX12_in w_1100 w_1099 rfl rfl (Nat.le_of_ble_eq_true rfl) (Nat.le_of_ble_eq_true rfl) (Nat.le_of_ble_eq_true rfl) (Nat.le_of_ble_eq_true rfl) (Nat.le_of_ble_eq_true rfl) ?_
  intro v M2 hq
  obtain ⟨rfl, rfl⟩ := hq
  show xW _ _ _ _ 9 _ [.int 1] (MX 0 (fun _ => 0) rd0 mo0 (fun _ => 0) (fun _ => 0) (fun _ => 0)) _ _
  exact xi_iret dX12_isSlot_9 rfl (by decide) (Nat.le_of_ble_eq_true rfl) (Nat.le_of_ble_eq_true rfl) ⟨rfl, rfl⟩
set_option maxHeartbeats 4000000 in
set_option maxRecDepth 100000 in
theorem au_10 (G : xG) : xC G mX12_points 0 0 0 [.ref 149, .int 0] (MX 0 (fun _ => 0) rd0 mo0 (fun _ => 0) (fun _ => 0) (fun _ => 0)) (fun v M2 => v = some (.int 0) ∧ M2 = (MX 0 (fun _ => 0) rd0 mo0 (fun _ => 0) (fun _ => 0) (fun _ => 0))) := by
  refine xC.of (by decide) (Nat.le_of_ble_eq_true rfl) ?_
  show xW _ _ _ _ 0 [(0, .ref 149), (1, .int 0)] [] _ 0 0
  refine xi_aload_n 0 dX12_points_0 rfl ?_
  refine xi_get (f := 0) dX12_points_1 rfl rfl ok_9 (by decide) w_1008 rfl ?_
  refine xi_bipush (v := 91) dX12_points_4 (by decide) ?_
  refine xi_iload_n 1 dX12_points_6 rfl ?_
  refine xi_imul (v := 0) dX12_points_7 (by decide) ?_
  refine xi_iaload (v := 0) dX12_points_8 rfl (by unfold vp_in; decide) rfl ?_
  exact xi_iret dX12_points_9 rfl rfl (Nat.le_of_ble_eq_true rfl) (Nat.le_of_ble_eq_true rfl) ⟨rfl, rfl⟩
set_option maxHeartbeats 4000000 in
set_option maxRecDepth 100000 in
theorem fm_isNet_0 (G : xG) : xC G mX12_isNet 2 0 0 [.ref 149, .int 0] (MX 0 (fun _ => 0) rd0 mo0 (fun _ => 0) (fun _ => 0) (fun _ => 0)) (fun v M2 => v = some (.int 0) ∧ M2 = (MX 0 (fun _ => 0) rd0 mo0 (fun _ => 0) (fun _ => 0) (fun _ => 0))) := by
  refine xC.of (by decide) (Nat.le_of_ble_eq_true rfl) ?_
  show xW _ _ _ _ 0 [(0, .ref 149), (1, .int 0)] [] _ 0 0
  refine xi_iload_n 1 dX12_isNet_0 rfl ?_
  refine xi_callS (as := [.int 0]) (rest := []) dX12_isNet_1 (au_9 G) mkX12_isSlot w_1096 w_1095 rfl rfl (Nat.le_of_ble_eq_true rfl) (Nat.le_of_ble_eq_true rfl) (Nat.le_of_ble_eq_true rfl) (Nat.le_of_ble_eq_true rfl) (Nat.le_of_ble_eq_true rfl) ?_
  intro v M2 hq
  obtain ⟨rfl, rfl⟩ := hq
  show xW _ _ _ _ 4 _ [.int 1] (MX 0 (fun _ => 0) rd0 mo0 (fun _ => 0) (fun _ => 0) (fun _ => 0)) _ _
  refine xi_if_eq_f (tgt := 19) dX12_isNet_4 (by decide) (by decide) ?_
  refine xi_aload_n 0 dX12_isNet_7 rfl ?_
  refine xi_iload_n 1 dX12_isNet_8 rfl ?_
  refine xi_callV (as := [.int 0]) (rest := []) dX12_isNet_9 (au_10 G) mkX12_points w_1108 ws_36 w_1106 rfl rfl rfl rfl rfl (Nat.le_of_ble_eq_true rfl) (Nat.le_of_ble_eq_true rfl) (Nat.le_of_ble_eq_true rfl) (Nat.le_of_ble_eq_true rfl) (Nat.le_of_ble_eq_true rfl) ?_
  intro v M2 hq
  obtain ⟨rfl, rfl⟩ := hq
  show xW _ _ _ _ 12 _ [.int 0] (MX 0 (fun _ => 0) rd0 mo0 (fun _ => 0) (fun _ => 0) (fun _ => 0)) _ _
  refine xi_if_le_t (tgt := 19) dX12_isNet_12 (by decide) (by decide) ?_
  refine xi_iconst (v := 0) dX12_isNet_19 (by decide) ?_
  exact xi_iret dX12_isNet_20 rfl (by decide) (Nat.le_of_ble_eq_true rfl) (Nat.le_of_ble_eq_true rfl) ⟨rfl, rfl⟩
set_option maxHeartbeats 4000000 in
set_option maxRecDepth 100000 in
theorem au_11 (G : xG) : xC G mX12_in 0 0 0 [.long 1, .long 0, .long 2] (MX 0 (fun _ => 0) rd0 mo0 (fun _ => 0) (fun _ => 0) (fun _ => 0)) (fun v M2 => v = some (.int 1) ∧ M2 = (MX 0 (fun _ => 0) rd0 mo0 (fun _ => 0) (fun _ => 0) (fun _ => 0))) := by
  refine xC.of (by decide) (Nat.le_of_ble_eq_true rfl) ?_
  show xW _ _ _ _ 0 [(0, .long 1), (2, .long 0), (4, .long 2)] [] _ 0 0
  refine xi_lload_n 0 dX12_in_0 rfl ?_
  refine xi_lload_n 1 dX12_in_1 rfl ?_
  refine xi_lcmp (v := 1) dX12_in_2 (by decide) ?_
  refine xi_if_lt_f (tgt := 17) dX12_in_3 (by decide) (by decide) ?_
  refine xi_lload_n 0 dX12_in_6 rfl ?_
  refine xi_lload 2 dX12_in_7 rfl ?_
  refine xi_lcmp (v := (-1)) dX12_in_9 (by decide) ?_
  refine xi_if_gt_f (tgt := 17) dX12_in_10 (by decide) (by decide) ?_
  refine xi_iconst (v := 1) dX12_in_13 (by decide) ?_
  refine xi_goto (tgt := 18) dX12_in_14 (by decide) ?_
  exact xi_iret dX12_in_18 rfl (by decide) (Nat.le_of_ble_eq_true rfl) (Nat.le_of_ble_eq_true rfl) ⟨rfl, rfl⟩
set_option maxHeartbeats 4000000 in
set_option maxRecDepth 100000 in
theorem au_12 (G : xG) : xC G mX12_isSlot 1 0 0 [.int 1] (MX 0 (fun _ => 0) rd0 mo0 (fun _ => 0) (fun _ => 0) (fun _ => 0)) (fun v M2 => v = some (.int 1) ∧ M2 = (MX 0 (fun _ => 0) rd0 mo0 (fun _ => 0) (fun _ => 0) (fun _ => 0))) := by
  refine xC.of (by decide) (Nat.le_of_ble_eq_true rfl) ?_
  show xW _ _ _ _ 0 [(0, .int 1)] [] _ 0 0
  refine xi_iload_n 0 dX12_isSlot_0 rfl ?_
  refine xi_i2l (v := 1) dX12_isSlot_1 (by decide) ?_
  refine xi_lconst (v := 0) dX12_isSlot_2 (by decide) ?_
  refine xi_ldc2 (v := 2) dX12_isSlot_3 w_1098 ?_
  refine xi_callS (as := [.long 1, .long 0, .long 2]) (rest := []) dX12_isSlot_6 (au_11 G) mkX12_in w_1100 w_1099 rfl rfl (Nat.le_of_ble_eq_true rfl) (Nat.le_of_ble_eq_true rfl) (Nat.le_of_ble_eq_true rfl) (Nat.le_of_ble_eq_true rfl) (Nat.le_of_ble_eq_true rfl) ?_
  intro v M2 hq
  obtain ⟨rfl, rfl⟩ := hq
  show xW _ _ _ _ 9 _ [.int 1] (MX 0 (fun _ => 0) rd0 mo0 (fun _ => 0) (fun _ => 0) (fun _ => 0)) _ _
  exact xi_iret dX12_isSlot_9 rfl (by decide) (Nat.le_of_ble_eq_true rfl) (Nat.le_of_ble_eq_true rfl) ⟨rfl, rfl⟩
set_option maxHeartbeats 4000000 in
set_option maxRecDepth 100000 in
theorem au_13 (G : xG) : xC G mX12_points 0 0 0 [.ref 149, .int 1] (MX 0 (fun _ => 0) rd0 mo0 (fun _ => 0) (fun _ => 0) (fun _ => 0)) (fun v M2 => v = some (.int 0) ∧ M2 = (MX 0 (fun _ => 0) rd0 mo0 (fun _ => 0) (fun _ => 0) (fun _ => 0))) := by
  refine xC.of (by decide) (Nat.le_of_ble_eq_true rfl) ?_
  show xW _ _ _ _ 0 [(0, .ref 149), (1, .int 1)] [] _ 0 0
  refine xi_aload_n 0 dX12_points_0 rfl ?_
  refine xi_get (f := 0) dX12_points_1 rfl rfl ok_9 (by decide) w_1008 rfl ?_
  refine xi_bipush (v := 91) dX12_points_4 (by decide) ?_
  refine xi_iload_n 1 dX12_points_6 rfl ?_
  refine xi_imul (v := 91) dX12_points_7 (by decide) ?_
  refine xi_iaload (v := 0) dX12_points_8 rfl (by unfold vp_in; decide) rfl ?_
  exact xi_iret dX12_points_9 rfl rfl (Nat.le_of_ble_eq_true rfl) (Nat.le_of_ble_eq_true rfl) ⟨rfl, rfl⟩
set_option maxHeartbeats 4000000 in
set_option maxRecDepth 100000 in
theorem fm_isNet_1 (G : xG) : xC G mX12_isNet 2 0 0 [.ref 149, .int 1] (MX 0 (fun _ => 0) rd0 mo0 (fun _ => 0) (fun _ => 0) (fun _ => 0)) (fun v M2 => v = some (.int 0) ∧ M2 = (MX 0 (fun _ => 0) rd0 mo0 (fun _ => 0) (fun _ => 0) (fun _ => 0))) := by
  refine xC.of (by decide) (Nat.le_of_ble_eq_true rfl) ?_
  show xW _ _ _ _ 0 [(0, .ref 149), (1, .int 1)] [] _ 0 0
  refine xi_iload_n 1 dX12_isNet_0 rfl ?_
  refine xi_callS (as := [.int 1]) (rest := []) dX12_isNet_1 (au_12 G) mkX12_isSlot w_1096 w_1095 rfl rfl (Nat.le_of_ble_eq_true rfl) (Nat.le_of_ble_eq_true rfl) (Nat.le_of_ble_eq_true rfl) (Nat.le_of_ble_eq_true rfl) (Nat.le_of_ble_eq_true rfl) ?_
  intro v M2 hq
  obtain ⟨rfl, rfl⟩ := hq
  show xW _ _ _ _ 4 _ [.int 1] (MX 0 (fun _ => 0) rd0 mo0 (fun _ => 0) (fun _ => 0) (fun _ => 0)) _ _
  refine xi_if_eq_f (tgt := 19) dX12_isNet_4 (by decide) (by decide) ?_
  refine xi_aload_n 0 dX12_isNet_7 rfl ?_
  refine xi_iload_n 1 dX12_isNet_8 rfl ?_
  refine xi_callV (as := [.int 1]) (rest := []) dX12_isNet_9 (au_13 G) mkX12_points w_1108 ws_36 w_1106 rfl rfl rfl rfl rfl (Nat.le_of_ble_eq_true rfl) (Nat.le_of_ble_eq_true rfl) (Nat.le_of_ble_eq_true rfl) (Nat.le_of_ble_eq_true rfl) (Nat.le_of_ble_eq_true rfl) ?_
  intro v M2 hq
  obtain ⟨rfl, rfl⟩ := hq
  show xW _ _ _ _ 12 _ [.int 0] (MX 0 (fun _ => 0) rd0 mo0 (fun _ => 0) (fun _ => 0) (fun _ => 0)) _ _
  refine xi_if_le_t (tgt := 19) dX12_isNet_12 (by decide) (by decide) ?_
  refine xi_iconst (v := 0) dX12_isNet_19 (by decide) ?_
  exact xi_iret dX12_isNet_20 rfl (by decide) (Nat.le_of_ble_eq_true rfl) (Nat.le_of_ble_eq_true rfl) ⟨rfl, rfl⟩
set_option maxHeartbeats 4000000 in
set_option maxRecDepth 100000 in
theorem au_14 (G : xG) : xC G mX12_in 0 0 0 [.long 2, .long 0, .long 2] (MX 0 (fun _ => 0) rd0 mo0 (fun _ => 0) (fun _ => 0) (fun _ => 0)) (fun v M2 => v = some (.int 1) ∧ M2 = (MX 0 (fun _ => 0) rd0 mo0 (fun _ => 0) (fun _ => 0) (fun _ => 0))) := by
  refine xC.of (by decide) (Nat.le_of_ble_eq_true rfl) ?_
  show xW _ _ _ _ 0 [(0, .long 2), (2, .long 0), (4, .long 2)] [] _ 0 0
  refine xi_lload_n 0 dX12_in_0 rfl ?_
  refine xi_lload_n 1 dX12_in_1 rfl ?_
  refine xi_lcmp (v := 1) dX12_in_2 (by decide) ?_
  refine xi_if_lt_f (tgt := 17) dX12_in_3 (by decide) (by decide) ?_
  refine xi_lload_n 0 dX12_in_6 rfl ?_
  refine xi_lload 2 dX12_in_7 rfl ?_
  refine xi_lcmp (v := 0) dX12_in_9 (by decide) ?_
  refine xi_if_gt_f (tgt := 17) dX12_in_10 (by decide) (by decide) ?_
  refine xi_iconst (v := 1) dX12_in_13 (by decide) ?_
  refine xi_goto (tgt := 18) dX12_in_14 (by decide) ?_
  exact xi_iret dX12_in_18 rfl (by decide) (Nat.le_of_ble_eq_true rfl) (Nat.le_of_ble_eq_true rfl) ⟨rfl, rfl⟩
set_option maxHeartbeats 4000000 in
set_option maxRecDepth 100000 in
theorem au_15 (G : xG) : xC G mX12_isSlot 1 0 0 [.int 2] (MX 0 (fun _ => 0) rd0 mo0 (fun _ => 0) (fun _ => 0) (fun _ => 0)) (fun v M2 => v = some (.int 1) ∧ M2 = (MX 0 (fun _ => 0) rd0 mo0 (fun _ => 0) (fun _ => 0) (fun _ => 0))) := by
  refine xC.of (by decide) (Nat.le_of_ble_eq_true rfl) ?_
  show xW _ _ _ _ 0 [(0, .int 2)] [] _ 0 0
  refine xi_iload_n 0 dX12_isSlot_0 rfl ?_
  refine xi_i2l (v := 2) dX12_isSlot_1 (by decide) ?_
  refine xi_lconst (v := 0) dX12_isSlot_2 (by decide) ?_
  refine xi_ldc2 (v := 2) dX12_isSlot_3 w_1098 ?_
  refine xi_callS (as := [.long 2, .long 0, .long 2]) (rest := []) dX12_isSlot_6 (au_14 G) mkX12_in w_1100 w_1099 rfl rfl (Nat.le_of_ble_eq_true rfl) (Nat.le_of_ble_eq_true rfl) (Nat.le_of_ble_eq_true rfl) (Nat.le_of_ble_eq_true rfl) (Nat.le_of_ble_eq_true rfl) ?_
  intro v M2 hq
  obtain ⟨rfl, rfl⟩ := hq
  show xW _ _ _ _ 9 _ [.int 1] (MX 0 (fun _ => 0) rd0 mo0 (fun _ => 0) (fun _ => 0) (fun _ => 0)) _ _
  exact xi_iret dX12_isSlot_9 rfl (by decide) (Nat.le_of_ble_eq_true rfl) (Nat.le_of_ble_eq_true rfl) ⟨rfl, rfl⟩
set_option maxHeartbeats 4000000 in
set_option maxRecDepth 100000 in
theorem au_16 (G : xG) : xC G mX12_points 0 0 0 [.ref 149, .int 2] (MX 0 (fun _ => 0) rd0 mo0 (fun _ => 0) (fun _ => 0) (fun _ => 0)) (fun v M2 => v = some (.int 0) ∧ M2 = (MX 0 (fun _ => 0) rd0 mo0 (fun _ => 0) (fun _ => 0) (fun _ => 0))) := by
  refine xC.of (by decide) (Nat.le_of_ble_eq_true rfl) ?_
  show xW _ _ _ _ 0 [(0, .ref 149), (1, .int 2)] [] _ 0 0
  refine xi_aload_n 0 dX12_points_0 rfl ?_
  refine xi_get (f := 0) dX12_points_1 rfl rfl ok_9 (by decide) w_1008 rfl ?_
  refine xi_bipush (v := 91) dX12_points_4 (by decide) ?_
  refine xi_iload_n 1 dX12_points_6 rfl ?_
  refine xi_imul (v := 182) dX12_points_7 (by decide) ?_
  refine xi_iaload (v := 0) dX12_points_8 rfl (by unfold vp_in; decide) rfl ?_
  exact xi_iret dX12_points_9 rfl rfl (Nat.le_of_ble_eq_true rfl) (Nat.le_of_ble_eq_true rfl) ⟨rfl, rfl⟩
set_option maxHeartbeats 4000000 in
set_option maxRecDepth 100000 in
theorem fm_isNet_2 (G : xG) : xC G mX12_isNet 2 0 0 [.ref 149, .int 2] (MX 0 (fun _ => 0) rd0 mo0 (fun _ => 0) (fun _ => 0) (fun _ => 0)) (fun v M2 => v = some (.int 0) ∧ M2 = (MX 0 (fun _ => 0) rd0 mo0 (fun _ => 0) (fun _ => 0) (fun _ => 0))) := by
  refine xC.of (by decide) (Nat.le_of_ble_eq_true rfl) ?_
  show xW _ _ _ _ 0 [(0, .ref 149), (1, .int 2)] [] _ 0 0
  refine xi_iload_n 1 dX12_isNet_0 rfl ?_
  refine xi_callS (as := [.int 2]) (rest := []) dX12_isNet_1 (au_15 G) mkX12_isSlot w_1096 w_1095 rfl rfl (Nat.le_of_ble_eq_true rfl) (Nat.le_of_ble_eq_true rfl) (Nat.le_of_ble_eq_true rfl) (Nat.le_of_ble_eq_true rfl) (Nat.le_of_ble_eq_true rfl) ?_
  intro v M2 hq
  obtain ⟨rfl, rfl⟩ := hq
  show xW _ _ _ _ 4 _ [.int 1] (MX 0 (fun _ => 0) rd0 mo0 (fun _ => 0) (fun _ => 0) (fun _ => 0)) _ _
  refine xi_if_eq_f (tgt := 19) dX12_isNet_4 (by decide) (by decide) ?_
  refine xi_aload_n 0 dX12_isNet_7 rfl ?_
  refine xi_iload_n 1 dX12_isNet_8 rfl ?_
  refine xi_callV (as := [.int 2]) (rest := []) dX12_isNet_9 (au_16 G) mkX12_points w_1108 ws_36 w_1106 rfl rfl rfl rfl rfl (Nat.le_of_ble_eq_true rfl) (Nat.le_of_ble_eq_true rfl) (Nat.le_of_ble_eq_true rfl) (Nat.le_of_ble_eq_true rfl) (Nat.le_of_ble_eq_true rfl) ?_
  intro v M2 hq
  obtain ⟨rfl, rfl⟩ := hq
  show xW _ _ _ _ 12 _ [.int 0] (MX 0 (fun _ => 0) rd0 mo0 (fun _ => 0) (fun _ => 0) (fun _ => 0)) _ _
  refine xi_if_le_t (tgt := 19) dX12_isNet_12 (by decide) (by decide) ?_
  refine xi_iconst (v := 0) dX12_isNet_19 (by decide) ?_
  exact xi_iret dX12_isNet_20 rfl (by decide) (Nat.le_of_ble_eq_true rfl) (Nat.le_of_ble_eq_true rfl) ⟨rfl, rfl⟩
set_option maxHeartbeats 4000000 in
set_option maxRecDepth 100000 in
theorem fm_isNet_out (G : xG) (a1 : Int32) (h : a1 < 0 ∨ 3 ≤ a1) : xC G mX12_isNet 2 0 0 [.ref 149, .int a1] (MX 0 (fun _ => 0) rd0 mo0 (fun _ => 0) (fun _ => 0) (fun _ => 0)) (fun v M2 => v = some (.int 0) ∧ M2 = (MX 0 (fun _ => 0) rd0 mo0 (fun _ => 0) (fun _ => 0) (fun _ => 0))) := by
  refine xC.of (by decide) (Nat.le_of_ble_eq_true rfl) ?_
  show xW _ _ _ _ 0 [(0, .ref 149), (1, .int a1)] [] _ 0 0
  refine xi_iload_n 1 dX12_isNet_0 rfl ?_
  refine xi_callS (as := [.int a1]) (rest := []) dX12_isNet_1 (fm_isSlot_out G _ h) mkX12_isSlot w_1096 w_1095 rfl rfl (Nat.le_of_ble_eq_true rfl) (Nat.le_of_ble_eq_true rfl) (Nat.le_of_ble_eq_true rfl) (Nat.le_of_ble_eq_true rfl) (Nat.le_of_ble_eq_true rfl) ?_
  intro v M2 hq
  obtain ⟨rfl, rfl⟩ := hq
  show xW _ _ _ _ 4 _ [.int 0] (MX 0 (fun _ => 0) rd0 mo0 (fun _ => 0) (fun _ => 0) (fun _ => 0)) _ _
  refine xi_if_eq_t (tgt := 19) dX12_isNet_4 (by decide) (by decide) ?_
  refine xi_iconst (v := 0) dX12_isNet_19 (by decide) ?_
  exact xi_iret dX12_isNet_20 rfl (by decide) (Nat.le_of_ble_eq_true rfl) (Nat.le_of_ble_eq_true rfl) ⟨rfl, rfl⟩
theorem fm_isNet (G : xG) (a1 : Int32) : xC G mX12_isNet 2 0 0 [.ref 149, .int a1] M0 (fun v M2 => v = some (.int 0) ∧ M2 = M0) := by
  rcases sl4 a1 with rfl | rfl | rfl | h
  · exact fm_isNet_0 G
  · exact fm_isNet_1 G
  · exact fm_isNet_2 G
  · exact fm_isNet_out G a1 h
set_option maxHeartbeats 4000000 in
set_option maxRecDepth 100000 in
theorem fm_isPoint (G : xG) (a1 a2 : Int32) : xC G mX12_isPoint 3 0 0 [.ref 149, .int a1, .int a2] (MX 0 (fun _ => 0) rd0 mo0 (fun _ => 0) (fun _ => 0) (fun _ => 0)) (fun v M2 => v = some (.int 0) ∧ M2 = (MX 0 (fun _ => 0) rd0 mo0 (fun _ => 0) (fun _ => 0) (fun _ => 0))) := by
  refine xC.of (by decide) (Nat.le_of_ble_eq_true rfl) ?_
  show xW _ _ _ _ 0 [(0, .ref 149), (1, .int a1), (2, .int a2)] [] _ 0 0
  refine xi_aload_n 0 dX12_isPoint_0 rfl ?_
  refine xi_iload_n 1 dX12_isPoint_1 rfl ?_
  refine xi_callV (as := [.int a1]) (rest := []) dX12_isPoint_2 (fm_isNet G a1) mkX12_isNet w_1104 ws_35 w_1102 rfl rfl rfl rfl rfl (Nat.le_of_ble_eq_true rfl) (Nat.le_of_ble_eq_true rfl) (Nat.le_of_ble_eq_true rfl) (Nat.le_of_ble_eq_true rfl) (Nat.le_of_ble_eq_true rfl) ?_
  intro v M2 hq
  obtain ⟨rfl, rfl⟩ := hq
  show xW _ _ _ _ 5 _ [.int 0] (MX 0 (fun _ => 0) rd0 mo0 (fun _ => 0) (fun _ => 0) (fun _ => 0)) _ _
  refine xi_if_eq_t (tgt := 29) dX12_isPoint_5 (by decide) (by decide) ?_
  refine xi_iconst (v := 0) dX12_isPoint_29 (by decide) ?_
  exact xi_iret dX12_isPoint_30 rfl (by decide) (Nat.le_of_ble_eq_true rfl) (Nat.le_of_ble_eq_true rfl) ⟨rfl, rfl⟩
set_option maxHeartbeats 4000000 in
set_option maxRecDepth 100000 in
theorem fm_areTwo (G : xG) (a1 a2 a3 : Int32) : xC G mX12_areTwo 4 0 0 [.ref 149, .int a1, .int a2, .int a3] (MX 0 (fun _ => 0) rd0 mo0 (fun _ => 0) (fun _ => 0) (fun _ => 0)) (fun v M2 => v = some (.int 0) ∧ M2 = (MX 0 (fun _ => 0) rd0 mo0 (fun _ => 0) (fun _ => 0) (fun _ => 0))) := by
  refine xC.of (by decide) (Nat.le_of_ble_eq_true rfl) ?_
  show xW _ _ _ _ 0 [(0, .ref 149), (1, .int a1), (2, .int a2), (3, .int a3)] [] _ 0 0
  refine xi_aload_n 0 dX12_areTwo_0 rfl ?_
  refine xi_iload_n 1 dX12_areTwo_1 rfl ?_
  refine xi_iload_n 2 dX12_areTwo_2 rfl ?_
  refine xi_callV (as := [.int a1, .int a2]) (rest := []) dX12_areTwo_3 (fm_isPoint G a1 a2) mkX12_isPoint w_1257 ws_63 w_1255 rfl rfl rfl rfl rfl (Nat.le_of_ble_eq_true rfl) (Nat.le_of_ble_eq_true rfl) (Nat.le_of_ble_eq_true rfl) (Nat.le_of_ble_eq_true rfl) (Nat.le_of_ble_eq_true rfl) ?_
  intro v M2 hq
  obtain ⟨rfl, rfl⟩ := hq
  show xW _ _ _ _ 6 _ [.int 0] (MX 0 (fun _ => 0) rd0 mo0 (fun _ => 0) (fun _ => 0) (fun _ => 0)) _ _
  refine xi_if_eq_t (tgt := 27) dX12_areTwo_6 (by decide) (by decide) ?_
  refine xi_iconst (v := 0) dX12_areTwo_27 (by decide) ?_
  exact xi_iret dX12_areTwo_28 rfl (by decide) (Nat.le_of_ble_eq_true rfl) (Nat.le_of_ble_eq_true rfl) ⟨rfl, rfl⟩
set_option maxHeartbeats 4000000 in
set_option maxRecDepth 100000 in
theorem fm_look (G : xG) (a1 a2 : Int32) : xC G mX12_look 5 0 0 [.ref 149, .int a1, .int a2] (MX 0 (fun _ => 0) rd0 mo0 (fun _ => 0) (fun _ => 0) (fun _ => 0)) (fun v M2 => v = some (.int (-2)) ∧ M2 = (MX 0 (fun _ => 0) rd0 mo0 (fun _ => 0) (fun _ => 0) (fun _ => 0))) := by
  refine xC.of (by decide) (Nat.le_of_ble_eq_true rfl) ?_
  show xW _ _ _ _ 0 [(0, .ref 149), (1, .int a1), (2, .int a2)] [] _ 0 0
  refine xi_aload_n 0 dX12_look_0 rfl ?_
  refine xi_iload_n 1 dX12_look_1 rfl ?_
  refine xi_callV (as := [.int a1]) (rest := []) dX12_look_2 (fm_isNet G a1) mkX12_isNet w_1104 ws_35 w_1102 rfl rfl rfl rfl rfl (Nat.le_of_ble_eq_true rfl) (Nat.le_of_ble_eq_true rfl) (Nat.le_of_ble_eq_true rfl) (Nat.le_of_ble_eq_true rfl) (Nat.le_of_ble_eq_true rfl) ?_
  intro v M2 hq
  obtain ⟨rfl, rfl⟩ := hq
  show xW _ _ _ _ 5 _ [.int 0] (MX 0 (fun _ => 0) rd0 mo0 (fun _ => 0) (fun _ => 0) (fun _ => 0)) _ _
  refine xi_if_eq_t (tgt := 20) dX12_look_5 (by decide) (by decide) ?_
  refine xi_bipush (v := (-2)) dX12_look_20 (by decide) ?_
  exact xi_iret dX12_look_22 rfl rfl (Nat.le_of_ble_eq_true rfl) (Nat.le_of_ble_eq_true rfl) ⟨rfl, rfl⟩
set_option maxHeartbeats 4000000 in
set_option maxRecDepth 100000 in
theorem fm_near (G : xG) (a1 a2 : Int32) : xC G mX12_near 5 0 0 [.ref 149, .int a1, .int a2] (MX 0 (fun _ => 0) rd0 mo0 (fun _ => 0) (fun _ => 0) (fun _ => 0)) (fun v M2 => v = some (.int (-2)) ∧ M2 = (MX 0 (fun _ => 0) rd0 mo0 (fun _ => 0) (fun _ => 0) (fun _ => 0))) := by
  refine xC.of (by decide) (Nat.le_of_ble_eq_true rfl) ?_
  show xW _ _ _ _ 0 [(0, .ref 149), (1, .int a1), (2, .int a2)] [] _ 0 0
  refine xi_aload_n 0 dX12_near_0 rfl ?_
  refine xi_iload_n 1 dX12_near_1 rfl ?_
  refine xi_iload_n 2 dX12_near_2 rfl ?_
  refine xi_callV (as := [.int a1, .int a2]) (rest := []) dX12_near_3 (fm_isPoint G a1 a2) mkX12_isPoint w_1257 ws_63 w_1255 rfl rfl rfl rfl rfl (Nat.le_of_ble_eq_true rfl) (Nat.le_of_ble_eq_true rfl) (Nat.le_of_ble_eq_true rfl) (Nat.le_of_ble_eq_true rfl) (Nat.le_of_ble_eq_true rfl) ?_
  intro v M2 hq
  obtain ⟨rfl, rfl⟩ := hq
  show xW _ _ _ _ 6 _ [.int 0] (MX 0 (fun _ => 0) rd0 mo0 (fun _ => 0) (fun _ => 0) (fun _ => 0)) _ _
  refine xi_if_eq_t (tgt := 18) dX12_near_6 (by decide) (by decide) ?_
  refine xi_bipush (v := (-2)) dX12_near_18 (by decide) ?_
  exact xi_iret dX12_near_20 rfl rfl (Nat.le_of_ble_eq_true rfl) (Nat.le_of_ble_eq_true rfl) ⟨rfl, rfl⟩
set_option maxHeartbeats 4000000 in
set_option maxRecDepth 100000 in
theorem fm_line (G : xG) (a1 a2 a3 : Int32) : xC G mX12_line 5 0 0 [.ref 149, .int a1, .int a2, .int a3] (MX 0 (fun _ => 0) rd0 mo0 (fun _ => 0) (fun _ => 0) (fun _ => 0)) (fun v M2 => v = some (.int (-2)) ∧ M2 = (MX 0 (fun _ => 0) rd0 mo0 (fun _ => 0) (fun _ => 0) (fun _ => 0))) := by
  refine xC.of (by decide) (Nat.le_of_ble_eq_true rfl) ?_
  show xW _ _ _ _ 0 [(0, .ref 149), (1, .int a1), (2, .int a2), (3, .int a3)] [] _ 0 0
  refine xi_aload_n 0 dX12_line_0 rfl ?_
  refine xi_iload_n 1 dX12_line_1 rfl ?_
  refine xi_iload_n 2 dX12_line_2 rfl ?_
  refine xi_callV (as := [.int a1, .int a2]) (rest := []) dX12_line_3 (fm_isPoint G a1 a2) mkX12_isPoint w_1257 ws_63 w_1255 rfl rfl rfl rfl rfl (Nat.le_of_ble_eq_true rfl) (Nat.le_of_ble_eq_true rfl) (Nat.le_of_ble_eq_true rfl) (Nat.le_of_ble_eq_true rfl) (Nat.le_of_ble_eq_true rfl) ?_
  intro v M2 hq
  obtain ⟨rfl, rfl⟩ := hq
  show xW _ _ _ _ 6 _ [.int 0] (MX 0 (fun _ => 0) rd0 mo0 (fun _ => 0) (fun _ => 0) (fun _ => 0)) _ _
  refine xi_if_eq_t (tgt := 28) dX12_line_6 (by decide) (by decide) ?_
  refine xi_bipush (v := (-2)) dX12_line_28 (by decide) ?_
  exact xi_iret dX12_line_30 rfl rfl (Nat.le_of_ble_eq_true rfl) (Nat.le_of_ble_eq_true rfl) ⟨rfl, rfl⟩
set_option maxHeartbeats 4000000 in
set_option maxRecDepth 100000 in
theorem fm_far (G : xG) (a1 a2 a3 : Int32) : xC G mX12_far 5 0 0 [.ref 149, .int a1, .int a2, .int a3] (MX 0 (fun _ => 0) rd0 mo0 (fun _ => 0) (fun _ => 0) (fun _ => 0)) (fun v M2 => v = some (.int (-2)) ∧ M2 = (MX 0 (fun _ => 0) rd0 mo0 (fun _ => 0) (fun _ => 0) (fun _ => 0))) := by
  refine xC.of (by decide) (Nat.le_of_ble_eq_true rfl) ?_
  show xW _ _ _ _ 0 [(0, .ref 149), (1, .int a1), (2, .int a2), (3, .int a3)] [] _ 0 0
  refine xi_aload_n 0 dX12_far_0 rfl ?_
  refine xi_iload_n 1 dX12_far_1 rfl ?_
  refine xi_iload_n 2 dX12_far_2 rfl ?_
  refine xi_callV (as := [.int a1, .int a2]) (rest := []) dX12_far_3 (fm_isPoint G a1 a2) mkX12_isPoint w_1257 ws_63 w_1255 rfl rfl rfl rfl rfl (Nat.le_of_ble_eq_true rfl) (Nat.le_of_ble_eq_true rfl) (Nat.le_of_ble_eq_true rfl) (Nat.le_of_ble_eq_true rfl) (Nat.le_of_ble_eq_true rfl) ?_
  intro v M2 hq
  obtain ⟨rfl, rfl⟩ := hq
  show xW _ _ _ _ 6 _ [.int 0] (MX 0 (fun _ => 0) rd0 mo0 (fun _ => 0) (fun _ => 0) (fun _ => 0)) _ _
  refine xi_if_eq_t (tgt := 28) dX12_far_6 (by decide) (by decide) ?_
  refine xi_bipush (v := (-2)) dX12_far_28 (by decide) ?_
  exact xi_iret dX12_far_30 rfl rfl (Nat.le_of_ble_eq_true rfl) (Nat.le_of_ble_eq_true rfl) ⟨rfl, rfl⟩
set_option maxHeartbeats 4000000 in
set_option maxRecDepth 100000 in
theorem fm_row (G : xG) (a1 a2 : Int32) : xC G mX12_row 5 0 0 [.ref 149, .int a1, .int a2] (MX 0 (fun _ => 0) rd0 mo0 (fun _ => 0) (fun _ => 0) (fun _ => 0)) (fun v M2 => v = some (.int (-2)) ∧ M2 = (MX 0 (fun _ => 0) rd0 mo0 (fun _ => 0) (fun _ => 0) (fun _ => 0))) := by
  refine xC.of (by decide) (Nat.le_of_ble_eq_true rfl) ?_
  show xW _ _ _ _ 0 [(0, .ref 149), (1, .int a1), (2, .int a2)] [] _ 0 0
  refine xi_aload_n 0 dX12_row_0 rfl ?_
  refine xi_iload_n 1 dX12_row_1 rfl ?_
  refine xi_iload_n 2 dX12_row_2 rfl ?_
  refine xi_callV (as := [.int a1, .int a2]) (rest := []) dX12_row_3 (fm_isPoint G a1 a2) mkX12_isPoint w_1257 ws_63 w_1255 rfl rfl rfl rfl rfl (Nat.le_of_ble_eq_true rfl) (Nat.le_of_ble_eq_true rfl) (Nat.le_of_ble_eq_true rfl) (Nat.le_of_ble_eq_true rfl) (Nat.le_of_ble_eq_true rfl) ?_
  intro v M2 hq
  obtain ⟨rfl, rfl⟩ := hq
  show xW _ _ _ _ 6 _ [.int 0] (MX 0 (fun _ => 0) rd0 mo0 (fun _ => 0) (fun _ => 0) (fun _ => 0)) _ _
  refine xi_if_eq_t (tgt := 18) dX12_row_6 (by decide) (by decide) ?_
  refine xi_bipush (v := (-2)) dX12_row_18 (by decide) ?_
  exact xi_iret dX12_row_20 rfl rfl (Nat.le_of_ble_eq_true rfl) (Nat.le_of_ble_eq_true rfl) ⟨rfl, rfl⟩
set_option maxHeartbeats 4000000 in
set_option maxRecDepth 100000 in
theorem fm_place (G : xG) (a1 a2 : Int32) : xC G mX12_place 5 0 0 [.ref 149, .int a1, .int a2] (MX 0 (fun _ => 0) rd0 mo0 (fun _ => 0) (fun _ => 0) (fun _ => 0)) (fun v M2 => v = some (.int (-2)) ∧ M2 = (MX 0 (fun _ => 0) rd0 mo0 (fun _ => 0) (fun _ => 0) (fun _ => 0))) := by
  refine xC.of (by decide) (Nat.le_of_ble_eq_true rfl) ?_
  show xW _ _ _ _ 0 [(0, .ref 149), (1, .int a1), (2, .int a2)] [] _ 0 0
  refine xi_aload_n 0 dX12_place_0 rfl ?_
  refine xi_iload_n 1 dX12_place_1 rfl ?_
  refine xi_iload_n 2 dX12_place_2 rfl ?_
  refine xi_callV (as := [.int a1, .int a2]) (rest := []) dX12_place_3 (fm_isPoint G a1 a2) mkX12_isPoint w_1257 ws_63 w_1255 rfl rfl rfl rfl rfl (Nat.le_of_ble_eq_true rfl) (Nat.le_of_ble_eq_true rfl) (Nat.le_of_ble_eq_true rfl) (Nat.le_of_ble_eq_true rfl) (Nat.le_of_ble_eq_true rfl) ?_
  intro v M2 hq
  obtain ⟨rfl, rfl⟩ := hq
  show xW _ _ _ _ 6 _ [.int 0] (MX 0 (fun _ => 0) rd0 mo0 (fun _ => 0) (fun _ => 0) (fun _ => 0)) _ _
  refine xi_if_eq_t (tgt := 18) dX12_place_6 (by decide) (by decide) ?_
  refine xi_bipush (v := (-2)) dX12_place_18 (by decide) ?_
  exact xi_iret dX12_place_20 rfl rfl (Nat.le_of_ble_eq_true rfl) (Nat.le_of_ble_eq_true rfl) ⟨rfl, rfl⟩
set_option maxHeartbeats 4000000 in
set_option maxRecDepth 100000 in
theorem fm_value (G : xG) (a1 a2 : Int32) : xC G mX12_value 5 0 0 [.ref 149, .int a1, .int a2] (MX 0 (fun _ => 0) rd0 mo0 (fun _ => 0) (fun _ => 0) (fun _ => 0)) (fun v M2 => v = some (.int (-2)) ∧ M2 = (MX 0 (fun _ => 0) rd0 mo0 (fun _ => 0) (fun _ => 0) (fun _ => 0))) := by
  refine xC.of (by decide) (Nat.le_of_ble_eq_true rfl) ?_
  show xW _ _ _ _ 0 [(0, .ref 149), (1, .int a1), (2, .int a2)] [] _ 0 0
  refine xi_aload_n 0 dX12_value_0 rfl ?_
  refine xi_iload_n 1 dX12_value_1 rfl ?_
  refine xi_callV (as := [.int a1]) (rest := []) dX12_value_2 (fm_isNet G a1) mkX12_isNet w_1104 ws_35 w_1102 rfl rfl rfl rfl rfl (Nat.le_of_ble_eq_true rfl) (Nat.le_of_ble_eq_true rfl) (Nat.le_of_ble_eq_true rfl) (Nat.le_of_ble_eq_true rfl) (Nat.le_of_ble_eq_true rfl) ?_
  intro v M2 hq
  obtain ⟨rfl, rfl⟩ := hq
  show xW _ _ _ _ 5 _ [.int 0] (MX 0 (fun _ => 0) rd0 mo0 (fun _ => 0) (fun _ => 0) (fun _ => 0)) _ _
  refine xi_if_eq_t (tgt := 15) dX12_value_5 (by decide) (by decide) ?_
  refine xi_bipush (v := (-2)) dX12_value_15 (by decide) ?_
  exact xi_iret dX12_value_17 rfl rfl (Nat.le_of_ble_eq_true rfl) (Nat.le_of_ble_eq_true rfl) ⟨rfl, rfl⟩
set_option maxHeartbeats 4000000 in
set_option maxRecDepth 100000 in
theorem fm_price (G : xG) (a1 a2 a3 : Int32) : xC G mX12_price 5 0 0 [.ref 149, .int a1, .int a2, .int a3] (MX 0 (fun _ => 0) rd0 mo0 (fun _ => 0) (fun _ => 0) (fun _ => 0)) (fun v M2 => v = some (.int (-2)) ∧ M2 = (MX 0 (fun _ => 0) rd0 mo0 (fun _ => 0) (fun _ => 0) (fun _ => 0))) := by
  refine xC.of (by decide) (Nat.le_of_ble_eq_true rfl) ?_
  show xW _ _ _ _ 0 [(0, .ref 149), (1, .int a1), (2, .int a2), (3, .int a3)] [] _ 0 0
  refine xi_aload_n 0 dX12_price_0 rfl ?_
  refine xi_iload_n 1 dX12_price_1 rfl ?_
  refine xi_callV (as := [.int a1]) (rest := []) dX12_price_2 (fm_isNet G a1) mkX12_isNet w_1104 ws_35 w_1102 rfl rfl rfl rfl rfl (Nat.le_of_ble_eq_true rfl) (Nat.le_of_ble_eq_true rfl) (Nat.le_of_ble_eq_true rfl) (Nat.le_of_ble_eq_true rfl) (Nat.le_of_ble_eq_true rfl) ?_
  intro v M2 hq
  obtain ⟨rfl, rfl⟩ := hq
  show xW _ _ _ _ 5 _ [.int 0] (MX 0 (fun _ => 0) rd0 mo0 (fun _ => 0) (fun _ => 0) (fun _ => 0)) _ _
  refine xi_if_eq_t (tgt := 48) dX12_price_5 (by decide) (by decide) ?_
  refine xi_bipush (v := (-2)) dX12_price_48 (by decide) ?_
  exact xi_iret dX12_price_50 rfl rfl (Nat.le_of_ble_eq_true rfl) (Nat.le_of_ble_eq_true rfl) ⟨rfl, rfl⟩
set_option maxHeartbeats 4000000 in
set_option maxRecDepth 100000 in
theorem fm_worst (G : xG) (a1 a2 : Int32) : xC G mX12_worst 5 0 0 [.ref 149, .int a1, .int a2] (MX 0 (fun _ => 0) rd0 mo0 (fun _ => 0) (fun _ => 0) (fun _ => 0)) (fun v M2 => v = some (.int (-2)) ∧ M2 = (MX 0 (fun _ => 0) rd0 mo0 (fun _ => 0) (fun _ => 0) (fun _ => 0))) := by
  refine xC.of (by decide) (Nat.le_of_ble_eq_true rfl) ?_
  show xW _ _ _ _ 0 [(0, .ref 149), (1, .int a1), (2, .int a2)] [] _ 0 0
  refine xi_aload_n 0 dX12_worst_0 rfl ?_
  refine xi_iload_n 1 dX12_worst_1 rfl ?_
  refine xi_callV (as := [.int a1]) (rest := []) dX12_worst_2 (fm_isNet G a1) mkX12_isNet w_1104 ws_35 w_1102 rfl rfl rfl rfl rfl (Nat.le_of_ble_eq_true rfl) (Nat.le_of_ble_eq_true rfl) (Nat.le_of_ble_eq_true rfl) (Nat.le_of_ble_eq_true rfl) (Nat.le_of_ble_eq_true rfl) ?_
  intro v M2 hq
  obtain ⟨rfl, rfl⟩ := hq
  show xW _ _ _ _ 5 _ [.int 0] (MX 0 (fun _ => 0) rd0 mo0 (fun _ => 0) (fun _ => 0) (fun _ => 0)) _ _
  refine xi_if_eq_t (tgt := 36) dX12_worst_5 (by decide) (by decide) ?_
  refine xi_bipush (v := (-2)) dX12_worst_36 (by decide) ?_
  exact xi_iret dX12_worst_38 rfl rfl (Nat.le_of_ble_eq_true rfl) (Nat.le_of_ble_eq_true rfl) ⟨rfl, rfl⟩
set_option maxHeartbeats 4000000 in
set_option maxRecDepth 100000 in
theorem fm_longest (G : xG) (a1 : Int32) : xC G mX12_longest 5 0 0 [.ref 149, .int a1] (MX 0 (fun _ => 0) rd0 mo0 (fun _ => 0) (fun _ => 0) (fun _ => 0)) (fun v M2 => v = some (.int (-2)) ∧ M2 = (MX 0 (fun _ => 0) rd0 mo0 (fun _ => 0) (fun _ => 0) (fun _ => 0))) := by
  refine xC.of (by decide) (Nat.le_of_ble_eq_true rfl) ?_
  show xW _ _ _ _ 0 [(0, .ref 149), (1, .int a1)] [] _ 0 0
  refine xi_aload_n 0 dX12_longest_0 rfl ?_
  refine xi_iload_n 1 dX12_longest_1 rfl ?_
  refine xi_callV (as := [.int a1]) (rest := []) dX12_longest_2 (fm_isNet G a1) mkX12_isNet w_1104 ws_35 w_1102 rfl rfl rfl rfl rfl (Nat.le_of_ble_eq_true rfl) (Nat.le_of_ble_eq_true rfl) (Nat.le_of_ble_eq_true rfl) (Nat.le_of_ble_eq_true rfl) (Nat.le_of_ble_eq_true rfl) ?_
  intro v M2 hq
  obtain ⟨rfl, rfl⟩ := hq
  show xW _ _ _ _ 5 _ [.int 0] (MX 0 (fun _ => 0) rd0 mo0 (fun _ => 0) (fun _ => 0) (fun _ => 0)) _ _
  refine xi_if_ne_f (tgt := 11) dX12_longest_5 (by decide) (by decide) ?_
  refine xi_bipush (v := (-2)) dX12_longest_8 (by decide) ?_
  exact xi_iret dX12_longest_10 rfl rfl (Nat.le_of_ble_eq_true rfl) (Nat.le_of_ble_eq_true rfl) ⟨rfl, rfl⟩
set_option maxHeartbeats 4000000 in
set_option maxRecDepth 100000 in
theorem fm_least (G : xG) (a1 a2 : Int32) : xC G mX12_least 5 0 0 [.ref 149, .int a1, .int a2] (MX 0 (fun _ => 0) rd0 mo0 (fun _ => 0) (fun _ => 0) (fun _ => 0)) (fun v M2 => v = some (.int (-2)) ∧ M2 = (MX 0 (fun _ => 0) rd0 mo0 (fun _ => 0) (fun _ => 0) (fun _ => 0))) := by
  refine xC.of (by decide) (Nat.le_of_ble_eq_true rfl) ?_
  show xW _ _ _ _ 0 [(0, .ref 149), (1, .int a1), (2, .int a2)] [] _ 0 0
  refine xi_aload_n 0 dX12_least_0 rfl ?_
  refine xi_iload_n 1 dX12_least_1 rfl ?_
  refine xi_callV (as := [.int a1]) (rest := []) dX12_least_2 (fm_isNet G a1) mkX12_isNet w_1104 ws_35 w_1102 rfl rfl rfl rfl rfl (Nat.le_of_ble_eq_true rfl) (Nat.le_of_ble_eq_true rfl) (Nat.le_of_ble_eq_true rfl) (Nat.le_of_ble_eq_true rfl) (Nat.le_of_ble_eq_true rfl) ?_
  intro v M2 hq
  obtain ⟨rfl, rfl⟩ := hq
  show xW _ _ _ _ 5 _ [.int 0] (MX 0 (fun _ => 0) rd0 mo0 (fun _ => 0) (fun _ => 0) (fun _ => 0)) _ _
  refine xi_if_eq_t (tgt := 15) dX12_least_5 (by decide) (by decide) ?_
  refine xi_bipush (v := (-2)) dX12_least_15 (by decide) ?_
  exact xi_iret dX12_least_17 rfl rfl (Nat.le_of_ble_eq_true rfl) (Nat.le_of_ble_eq_true rfl) ⟨rfl, rfl⟩
set_option maxHeartbeats 4000000 in
set_option maxRecDepth 100000 in
theorem fm_best (G : xG) (a1 a2 a3 : Int32) : xC G mX12_best 5 0 0 [.ref 149, .int a1, .int a2, .int a3] (MX 0 (fun _ => 0) rd0 mo0 (fun _ => 0) (fun _ => 0) (fun _ => 0)) (fun v M2 => v = some (.int (-2)) ∧ M2 = (MX 0 (fun _ => 0) rd0 mo0 (fun _ => 0) (fun _ => 0) (fun _ => 0))) := by
  refine xC.of (by decide) (Nat.le_of_ble_eq_true rfl) ?_
  show xW _ _ _ _ 0 [(0, .ref 149), (1, .int a1), (2, .int a2), (3, .int a3)] [] _ 0 0
  refine xi_aload_n 0 dX12_best_0 rfl ?_
  refine xi_iload_n 1 dX12_best_1 rfl ?_
  refine xi_iload_n 3 dX12_best_2 rfl ?_
  refine xi_callV (as := [.int a1, .int a3]) (rest := []) dX12_best_3 (fm_isPoint G a1 a3) mkX12_isPoint w_1257 ws_63 w_1255 rfl rfl rfl rfl rfl (Nat.le_of_ble_eq_true rfl) (Nat.le_of_ble_eq_true rfl) (Nat.le_of_ble_eq_true rfl) (Nat.le_of_ble_eq_true rfl) (Nat.le_of_ble_eq_true rfl) ?_
  intro v M2 hq
  obtain ⟨rfl, rfl⟩ := hq
  show xW _ _ _ _ 6 _ [.int 0] (MX 0 (fun _ => 0) rd0 mo0 (fun _ => 0) (fun _ => 0) (fun _ => 0)) _ _
  refine xi_if_eq_t (tgt := 16) dX12_best_6 (by decide) (by decide) ?_
  refine xi_bipush (v := (-2)) dX12_best_16 (by decide) ?_
  exact xi_iret dX12_best_18 rfl rfl (Nat.le_of_ble_eq_true rfl) (Nat.le_of_ble_eq_true rfl) ⟨rfl, rfl⟩
set_option maxHeartbeats 4000000 in
set_option maxRecDepth 100000 in
theorem fm_ways (G : xG) (a1 a2 : Int32) : xC G mX12_ways 5 0 0 [.ref 149, .int a1, .int a2] (MX 0 (fun _ => 0) rd0 mo0 (fun _ => 0) (fun _ => 0) (fun _ => 0)) (fun v M2 => v = some (.int (-2)) ∧ M2 = (MX 0 (fun _ => 0) rd0 mo0 (fun _ => 0) (fun _ => 0) (fun _ => 0))) := by
  refine xC.of (by decide) (Nat.le_of_ble_eq_true rfl) ?_
  show xW _ _ _ _ 0 [(0, .ref 149), (1, .int a1), (2, .int a2)] [] _ 0 0
  refine xi_aload_n 0 dX12_ways_0 rfl ?_
  refine xi_iload_n 1 dX12_ways_1 rfl ?_
  refine xi_callV (as := [.int a1]) (rest := []) dX12_ways_2 (fm_isNet G a1) mkX12_isNet w_1104 ws_35 w_1102 rfl rfl rfl rfl rfl (Nat.le_of_ble_eq_true rfl) (Nat.le_of_ble_eq_true rfl) (Nat.le_of_ble_eq_true rfl) (Nat.le_of_ble_eq_true rfl) (Nat.le_of_ble_eq_true rfl) ?_
  intro v M2 hq
  obtain ⟨rfl, rfl⟩ := hq
  show xW _ _ _ _ 5 _ [.int 0] (MX 0 (fun _ => 0) rd0 mo0 (fun _ => 0) (fun _ => 0) (fun _ => 0)) _ _
  refine xi_if_eq_t (tgt := 15) dX12_ways_5 (by decide) (by decide) ?_
  refine xi_bipush (v := (-2)) dX12_ways_15 (by decide) ?_
  exact xi_iret dX12_ways_17 rfl rfl (Nat.le_of_ble_eq_true rfl) (Nat.le_of_ble_eq_true rfl) ⟨rfl, rfl⟩
set_option maxHeartbeats 4000000 in
set_option maxRecDepth 100000 in
theorem fm_within (G : xG) (a1 a2 a3 : Int32) : xC G mX12_within 5 0 0 [.ref 149, .int a1, .int a2, .int a3] (MX 0 (fun _ => 0) rd0 mo0 (fun _ => 0) (fun _ => 0) (fun _ => 0)) (fun v M2 => v = some (.int (-2)) ∧ M2 = (MX 0 (fun _ => 0) rd0 mo0 (fun _ => 0) (fun _ => 0) (fun _ => 0))) := by
  refine xC.of (by decide) (Nat.le_of_ble_eq_true rfl) ?_
  show xW _ _ _ _ 0 [(0, .ref 149), (1, .int a1), (2, .int a2), (3, .int a3)] [] _ 0 0
  refine xi_aload_n 0 dX12_within_0 rfl ?_
  refine xi_iload_n 1 dX12_within_1 rfl ?_
  refine xi_callV (as := [.int a1]) (rest := []) dX12_within_2 (fm_isNet G a1) mkX12_isNet w_1104 ws_35 w_1102 rfl rfl rfl rfl rfl (Nat.le_of_ble_eq_true rfl) (Nat.le_of_ble_eq_true rfl) (Nat.le_of_ble_eq_true rfl) (Nat.le_of_ble_eq_true rfl) (Nat.le_of_ble_eq_true rfl) ?_
  intro v M2 hq
  obtain ⟨rfl, rfl⟩ := hq
  show xW _ _ _ _ 5 _ [.int 0] (MX 0 (fun _ => 0) rd0 mo0 (fun _ => 0) (fun _ => 0) (fun _ => 0)) _ _
  refine xi_if_eq_t (tgt := 31) dX12_within_5 (by decide) (by decide) ?_
  refine xi_bipush (v := (-2)) dX12_within_31 (by decide) ?_
  exact xi_iret dX12_within_33 rfl rfl (Nat.le_of_ble_eq_true rfl) (Nat.le_of_ble_eq_true rfl) ⟨rfl, rfl⟩
set_option maxHeartbeats 4000000 in
set_option maxRecDepth 100000 in
theorem fm_firsts (G : xG) (a1 a2 : Int32) : xC G mX12_firsts 5 0 0 [.ref 149, .int a1, .int a2] (MX 0 (fun _ => 0) rd0 mo0 (fun _ => 0) (fun _ => 0) (fun _ => 0)) (fun v M2 => v = some (.int (-2)) ∧ M2 = (MX 0 (fun _ => 0) rd0 mo0 (fun _ => 0) (fun _ => 0) (fun _ => 0))) := by
  refine xC.of (by decide) (Nat.le_of_ble_eq_true rfl) ?_
  show xW _ _ _ _ 0 [(0, .ref 149), (1, .int a1), (2, .int a2)] [] _ 0 0
  refine xi_aload_n 0 dX12_firsts_0 rfl ?_
  refine xi_iload_n 1 dX12_firsts_1 rfl ?_
  refine xi_callV (as := [.int a1]) (rest := []) dX12_firsts_2 (fm_isNet G a1) mkX12_isNet w_1104 ws_35 w_1102 rfl rfl rfl rfl rfl (Nat.le_of_ble_eq_true rfl) (Nat.le_of_ble_eq_true rfl) (Nat.le_of_ble_eq_true rfl) (Nat.le_of_ble_eq_true rfl) (Nat.le_of_ble_eq_true rfl) ?_
  intro v M2 hq
  obtain ⟨rfl, rfl⟩ := hq
  show xW _ _ _ _ 5 _ [.int 0] (MX 0 (fun _ => 0) rd0 mo0 (fun _ => 0) (fun _ => 0) (fun _ => 0)) _ _
  refine xi_if_eq_t (tgt := 15) dX12_firsts_5 (by decide) (by decide) ?_
  refine xi_bipush (v := (-2)) dX12_firsts_15 (by decide) ?_
  exact xi_iret dX12_firsts_17 rfl rfl (Nat.le_of_ble_eq_true rfl) (Nat.le_of_ble_eq_true rfl) ⟨rfl, rfl⟩
set_option maxHeartbeats 4000000 in
set_option maxRecDepth 100000 in
theorem fm_bound (G : xG) (a1 a2 a3 : Int32) : xC G mX12_bound 5 0 0 [.ref 149, .int a1, .int a2, .int a3] (MX 0 (fun _ => 0) rd0 mo0 (fun _ => 0) (fun _ => 0) (fun _ => 0)) (fun v M2 => v = some (.int (-2)) ∧ M2 = (MX 0 (fun _ => 0) rd0 mo0 (fun _ => 0) (fun _ => 0) (fun _ => 0))) := by
  refine xC.of (by decide) (Nat.le_of_ble_eq_true rfl) ?_
  show xW _ _ _ _ 0 [(0, .ref 149), (1, .int a1), (2, .int a2), (3, .int a3)] [] _ 0 0
  refine xi_aload_n 0 dX12_bound_0 rfl ?_
  refine xi_iload_n 1 dX12_bound_1 rfl ?_
  refine xi_callV (as := [.int a1]) (rest := []) dX12_bound_2 (fm_isNet G a1) mkX12_isNet w_1104 ws_35 w_1102 rfl rfl rfl rfl rfl (Nat.le_of_ble_eq_true rfl) (Nat.le_of_ble_eq_true rfl) (Nat.le_of_ble_eq_true rfl) (Nat.le_of_ble_eq_true rfl) (Nat.le_of_ble_eq_true rfl) ?_
  intro v M2 hq
  obtain ⟨rfl, rfl⟩ := hq
  show xW _ _ _ _ 5 _ [.int 0] (MX 0 (fun _ => 0) rd0 mo0 (fun _ => 0) (fun _ => 0) (fun _ => 0)) _ _
  refine xi_if_eq_t (tgt := 46) dX12_bound_5 (by decide) (by decide) ?_
  refine xi_bipush (v := (-2)) dX12_bound_46 (by decide) ?_
  exact xi_iret dX12_bound_48 rfl rfl (Nat.le_of_ble_eq_true rfl) (Nat.le_of_ble_eq_true rfl) ⟨rfl, rfl⟩
set_option maxHeartbeats 4000000 in
set_option maxRecDepth 100000 in
theorem fm_minor (G : xG) (a1 : Int32) : xC G mX12_minor 5 0 0 [.ref 149, .int a1] (MX 0 (fun _ => 0) rd0 mo0 (fun _ => 0) (fun _ => 0) (fun _ => 0)) (fun v M2 => v = some (.int (-2)) ∧ M2 = (MX 0 (fun _ => 0) rd0 mo0 (fun _ => 0) (fun _ => 0) (fun _ => 0))) := by
  refine xC.of (by decide) (Nat.le_of_ble_eq_true rfl) ?_
  show xW _ _ _ _ 0 [(0, .ref 149), (1, .int a1)] [] _ 0 0
  refine xi_aload_n 0 dX12_minor_0 rfl ?_
  refine xi_iload_n 1 dX12_minor_1 rfl ?_
  refine xi_callV (as := [.int a1]) (rest := []) dX12_minor_2 (fm_isNet G a1) mkX12_isNet w_1104 ws_35 w_1102 rfl rfl rfl rfl rfl (Nat.le_of_ble_eq_true rfl) (Nat.le_of_ble_eq_true rfl) (Nat.le_of_ble_eq_true rfl) (Nat.le_of_ble_eq_true rfl) (Nat.le_of_ble_eq_true rfl) ?_
  intro v M2 hq
  obtain ⟨rfl, rfl⟩ := hq
  show xW _ _ _ _ 5 _ [.int 0] (MX 0 (fun _ => 0) rd0 mo0 (fun _ => 0) (fun _ => 0) (fun _ => 0)) _ _
  refine xi_if_ne_f (tgt := 11) dX12_minor_5 (by decide) (by decide) ?_
  refine xi_bipush (v := (-2)) dX12_minor_8 (by decide) ?_
  exact xi_iret dX12_minor_10 rfl rfl (Nat.le_of_ble_eq_true rfl) (Nat.le_of_ble_eq_true rfl) ⟨rfl, rfl⟩
set_option maxHeartbeats 4000000 in
set_option maxRecDepth 100000 in
theorem fm_among (G : xG) (a1 a2 a3 : Int32) : xC G mX12_among 5 0 0 [.ref 149, .int a1, .int a2, .int a3] (MX 0 (fun _ => 0) rd0 mo0 (fun _ => 0) (fun _ => 0) (fun _ => 0)) (fun v M2 => v = some (.int (-2)) ∧ M2 = (MX 0 (fun _ => 0) rd0 mo0 (fun _ => 0) (fun _ => 0) (fun _ => 0))) := by
  refine xC.of (by decide) (Nat.le_of_ble_eq_true rfl) ?_
  show xW _ _ _ _ 0 [(0, .ref 149), (1, .int a1), (2, .int a2), (3, .int a3)] [] _ 0 0
  refine xi_aload_n 0 dX12_among_0 rfl ?_
  refine xi_iload_n 1 dX12_among_1 rfl ?_
  refine xi_callV (as := [.int a1]) (rest := []) dX12_among_2 (fm_isNet G a1) mkX12_isNet w_1104 ws_35 w_1102 rfl rfl rfl rfl rfl (Nat.le_of_ble_eq_true rfl) (Nat.le_of_ble_eq_true rfl) (Nat.le_of_ble_eq_true rfl) (Nat.le_of_ble_eq_true rfl) (Nat.le_of_ble_eq_true rfl) ?_
  intro v M2 hq
  obtain ⟨rfl, rfl⟩ := hq
  show xW _ _ _ _ 5 _ [.int 0] (MX 0 (fun _ => 0) rd0 mo0 (fun _ => 0) (fun _ => 0) (fun _ => 0)) _ _
  refine xi_if_eq_t (tgt := 34) dX12_among_5 (by decide) (by decide) ?_
  refine xi_bipush (v := (-2)) dX12_among_34 (by decide) ?_
  exact xi_iret dX12_among_36 rfl rfl (Nat.le_of_ble_eq_true rfl) (Nat.le_of_ble_eq_true rfl) ⟨rfl, rfl⟩
set_option maxHeartbeats 4000000 in
set_option maxRecDepth 100000 in
theorem fm_split (G : xG) (a1 a2 a3 : Int32) : xC G mX12_split 5 0 0 [.ref 149, .int a1, .int a2, .int a3] (MX 0 (fun _ => 0) rd0 mo0 (fun _ => 0) (fun _ => 0) (fun _ => 0)) (fun v M2 => v = some (.int (-2)) ∧ M2 = (MX 0 (fun _ => 0) rd0 mo0 (fun _ => 0) (fun _ => 0) (fun _ => 0))) := by
  refine xC.of (by decide) (Nat.le_of_ble_eq_true rfl) ?_
  show xW _ _ _ _ 0 [(0, .ref 149), (1, .int a1), (2, .int a2), (3, .int a3)] [] _ 0 0
  refine xi_aload_n 0 dX12_split_0 rfl ?_
  refine xi_iload_n 1 dX12_split_1 rfl ?_
  refine xi_callV (as := [.int a1]) (rest := []) dX12_split_2 (fm_isNet G a1) mkX12_isNet w_1104 ws_35 w_1102 rfl rfl rfl rfl rfl (Nat.le_of_ble_eq_true rfl) (Nat.le_of_ble_eq_true rfl) (Nat.le_of_ble_eq_true rfl) (Nat.le_of_ble_eq_true rfl) (Nat.le_of_ble_eq_true rfl) ?_
  intro v M2 hq
  obtain ⟨rfl, rfl⟩ := hq
  show xW _ _ _ _ 5 _ [.int 0] (MX 0 (fun _ => 0) rd0 mo0 (fun _ => 0) (fun _ => 0) (fun _ => 0)) _ _
  refine xi_if_eq_t (tgt := 49) dX12_split_5 (by decide) (by decide) ?_
  refine xi_bipush (v := (-2)) dX12_split_49 (by decide) ?_
  exact xi_iret dX12_split_51 rfl rfl (Nat.le_of_ble_eq_true rfl) (Nat.le_of_ble_eq_true rfl) ⟨rfl, rfl⟩
set_option maxHeartbeats 4000000 in
set_option maxRecDepth 100000 in
theorem fm_halve (G : xG) (a1 : Int32) : xC G mX12_halve 5 0 0 [.ref 149, .int a1] (MX 0 (fun _ => 0) rd0 mo0 (fun _ => 0) (fun _ => 0) (fun _ => 0)) (fun v M2 => v = some (.int (-2)) ∧ M2 = (MX 0 (fun _ => 0) rd0 mo0 (fun _ => 0) (fun _ => 0) (fun _ => 0))) := by
  refine xC.of (by decide) (Nat.le_of_ble_eq_true rfl) ?_
  show xW _ _ _ _ 0 [(0, .ref 149), (1, .int a1)] [] _ 0 0
  refine xi_aload_n 0 dX12_halve_0 rfl ?_
  refine xi_iload_n 1 dX12_halve_1 rfl ?_
  refine xi_callV (as := [.int a1]) (rest := []) dX12_halve_2 (fm_isNet G a1) mkX12_isNet w_1104 ws_35 w_1102 rfl rfl rfl rfl rfl (Nat.le_of_ble_eq_true rfl) (Nat.le_of_ble_eq_true rfl) (Nat.le_of_ble_eq_true rfl) (Nat.le_of_ble_eq_true rfl) (Nat.le_of_ble_eq_true rfl) ?_
  intro v M2 hq
  obtain ⟨rfl, rfl⟩ := hq
  show xW _ _ _ _ 5 _ [.int 0] (MX 0 (fun _ => 0) rd0 mo0 (fun _ => 0) (fun _ => 0) (fun _ => 0)) _ _
  refine xi_if_ne_f (tgt := 11) dX12_halve_5 (by decide) (by decide) ?_
  refine xi_bipush (v := (-2)) dX12_halve_8 (by decide) ?_
  exact xi_iret dX12_halve_10 rfl rfl (Nat.le_of_ble_eq_true rfl) (Nat.le_of_ble_eq_true rfl) ⟨rfl, rfl⟩
set_option maxHeartbeats 4000000 in
set_option maxRecDepth 100000 in
theorem fm_bag (G : xG) (a1 a2 a3 : Int32) : xC G mX12_bag 5 0 0 [.ref 149, .int a1, .int a2, .int a3] (MX 0 (fun _ => 0) rd0 mo0 (fun _ => 0) (fun _ => 0) (fun _ => 0)) (fun v M2 => v = some (.int (-2)) ∧ M2 = (MX 0 (fun _ => 0) rd0 mo0 (fun _ => 0) (fun _ => 0) (fun _ => 0))) := by
  refine xC.of (by decide) (Nat.le_of_ble_eq_true rfl) ?_
  show xW _ _ _ _ 0 [(0, .ref 149), (1, .int a1), (2, .int a2), (3, .int a3)] [] _ 0 0
  refine xi_aload_n 0 dX12_bag_0 rfl ?_
  refine xi_iload_n 1 dX12_bag_1 rfl ?_
  refine xi_iload_n 3 dX12_bag_2 rfl ?_
  refine xi_callV (as := [.int a1, .int a3]) (rest := []) dX12_bag_3 (fm_isPoint G a1 a3) mkX12_isPoint w_1257 ws_63 w_1255 rfl rfl rfl rfl rfl (Nat.le_of_ble_eq_true rfl) (Nat.le_of_ble_eq_true rfl) (Nat.le_of_ble_eq_true rfl) (Nat.le_of_ble_eq_true rfl) (Nat.le_of_ble_eq_true rfl) ?_
  intro v M2 hq
  obtain ⟨rfl, rfl⟩ := hq
  show xW _ _ _ _ 6 _ [.int 0] (MX 0 (fun _ => 0) rd0 mo0 (fun _ => 0) (fun _ => 0) (fun _ => 0)) _ _
  refine xi_if_eq_t (tgt := 19) dX12_bag_6 (by decide) (by decide) ?_
  refine xi_bipush (v := (-2)) dX12_bag_19 (by decide) ?_
  exact xi_iret dX12_bag_21 rfl rfl (Nat.le_of_ble_eq_true rfl) (Nat.le_of_ble_eq_true rfl) ⟨rfl, rfl⟩
set_option maxHeartbeats 4000000 in
set_option maxRecDepth 100000 in
theorem fm_filled (G : xG) (a1 a2 : Int32) : xC G mX12_filled 5 0 0 [.ref 149, .int a1, .int a2] (MX 0 (fun _ => 0) rd0 mo0 (fun _ => 0) (fun _ => 0) (fun _ => 0)) (fun v M2 => v = some (.int (-2)) ∧ M2 = (MX 0 (fun _ => 0) rd0 mo0 (fun _ => 0) (fun _ => 0) (fun _ => 0))) := by
  refine xC.of (by decide) (Nat.le_of_ble_eq_true rfl) ?_
  show xW _ _ _ _ 0 [(0, .ref 149), (1, .int a1), (2, .int a2)] [] _ 0 0
  refine xi_aload_n 0 dX12_filled_0 rfl ?_
  refine xi_iload_n 1 dX12_filled_1 rfl ?_
  refine xi_callV (as := [.int a1]) (rest := []) dX12_filled_2 (fm_isNet G a1) mkX12_isNet w_1104 ws_35 w_1102 rfl rfl rfl rfl rfl (Nat.le_of_ble_eq_true rfl) (Nat.le_of_ble_eq_true rfl) (Nat.le_of_ble_eq_true rfl) (Nat.le_of_ble_eq_true rfl) (Nat.le_of_ble_eq_true rfl) ?_
  intro v M2 hq
  obtain ⟨rfl, rfl⟩ := hq
  show xW _ _ _ _ 5 _ [.int 0] (MX 0 (fun _ => 0) rd0 mo0 (fun _ => 0) (fun _ => 0) (fun _ => 0)) _ _
  refine xi_if_eq_t (tgt := 13) dX12_filled_5 (by decide) (by decide) ?_
  refine xi_bipush (v := (-2)) dX12_filled_13 (by decide) ?_
  exact xi_iret dX12_filled_15 rfl rfl (Nat.le_of_ble_eq_true rfl) (Nat.le_of_ble_eq_true rfl) ⟨rfl, rfl⟩
set_option maxHeartbeats 4000000 in
set_option maxRecDepth 100000 in
theorem fm_gain (G : xG) (a1 a2 a3 a4 : Int32) : xC G mX12_gain 5 0 0 [.ref 149, .int a1, .int a2, .int a3, .int a4] (MX 0 (fun _ => 0) rd0 mo0 (fun _ => 0) (fun _ => 0) (fun _ => 0)) (fun v M2 => v = some (.int (-1000)) ∧ M2 = (MX 0 (fun _ => 0) rd0 mo0 (fun _ => 0) (fun _ => 0) (fun _ => 0))) := by
  refine xC.of (by decide) (Nat.le_of_ble_eq_true rfl) ?_
  show xW _ _ _ _ 0 [(0, .ref 149), (1, .int a1), (2, .int a2), (3, .int a3), (4, .int a4)] [] _ 0 0
  refine xi_aload_n 0 dX12_gain_0 rfl ?_
  refine xi_iload_n 1 dX12_gain_1 rfl ?_
  refine xi_iload_n 3 dX12_gain_2 rfl ?_
  refine xi_callV (as := [.int a1, .int a3]) (rest := []) dX12_gain_3 (fm_isPoint G a1 a3) mkX12_isPoint w_1257 ws_63 w_1255 rfl rfl rfl rfl rfl (Nat.le_of_ble_eq_true rfl) (Nat.le_of_ble_eq_true rfl) (Nat.le_of_ble_eq_true rfl) (Nat.le_of_ble_eq_true rfl) (Nat.le_of_ble_eq_true rfl) ?_
  intro v M2 hq
  obtain ⟨rfl, rfl⟩ := hq
  show xW _ _ _ _ 6 _ [.int 0] (MX 0 (fun _ => 0) rd0 mo0 (fun _ => 0) (fun _ => 0) (fun _ => 0)) _ _
  refine xi_if_eq_t (tgt := 26) dX12_gain_6 (by decide) (by decide) ?_
  refine xi_sipush (v := (-1000)) dX12_gain_26 (by decide) ?_
  exact xi_iret dX12_gain_29 rfl rfl (Nat.le_of_ble_eq_true rfl) (Nat.le_of_ble_eq_true rfl) ⟨rfl, rfl⟩
set_option maxHeartbeats 4000000 in
set_option maxRecDepth 100000 in
theorem fm_swaps (G : xG) (a1 a2 a3 : Int32) : xC G mX12_swaps 5 0 0 [.ref 149, .int a1, .int a2, .int a3] (MX 0 (fun _ => 0) rd0 mo0 (fun _ => 0) (fun _ => 0) (fun _ => 0)) (fun v M2 => v = some (.int (-2)) ∧ M2 = (MX 0 (fun _ => 0) rd0 mo0 (fun _ => 0) (fun _ => 0) (fun _ => 0))) := by
  refine xC.of (by decide) (Nat.le_of_ble_eq_true rfl) ?_
  show xW _ _ _ _ 0 [(0, .ref 149), (1, .int a1), (2, .int a2), (3, .int a3)] [] _ 0 0
  refine xi_aload_n 0 dX12_swaps_0 rfl ?_
  refine xi_iload_n 1 dX12_swaps_1 rfl ?_
  refine xi_iload_n 2 dX12_swaps_2 rfl ?_
  refine xi_callV (as := [.int a1, .int a2]) (rest := []) dX12_swaps_3 (fm_isPoint G a1 a2) mkX12_isPoint w_1257 ws_63 w_1255 rfl rfl rfl rfl rfl (Nat.le_of_ble_eq_true rfl) (Nat.le_of_ble_eq_true rfl) (Nat.le_of_ble_eq_true rfl) (Nat.le_of_ble_eq_true rfl) (Nat.le_of_ble_eq_true rfl) ?_
  intro v M2 hq
  obtain ⟨rfl, rfl⟩ := hq
  show xW _ _ _ _ 6 _ [.int 0] (MX 0 (fun _ => 0) rd0 mo0 (fun _ => 0) (fun _ => 0) (fun _ => 0)) _ _
  refine xi_if_eq_t (tgt := 18) dX12_swaps_6 (by decide) (by decide) ?_
  refine xi_bipush (v := (-2)) dX12_swaps_18 (by decide) ?_
  exact xi_iret dX12_swaps_20 rfl rfl (Nat.le_of_ble_eq_true rfl) (Nat.le_of_ble_eq_true rfl) ⟨rfl, rfl⟩
set_option maxHeartbeats 4000000 in
set_option maxRecDepth 100000 in
theorem fm_moves (G : xG) (a1 a2 a3 : Int32) : xC G mX12_moves 5 0 0 [.ref 149, .int a1, .int a2, .int a3] (MX 0 (fun _ => 0) rd0 mo0 (fun _ => 0) (fun _ => 0) (fun _ => 0)) (fun v M2 => v = some (.int (-2)) ∧ M2 = (MX 0 (fun _ => 0) rd0 mo0 (fun _ => 0) (fun _ => 0) (fun _ => 0))) := by
  refine xC.of (by decide) (Nat.le_of_ble_eq_true rfl) ?_
  show xW _ _ _ _ 0 [(0, .ref 149), (1, .int a1), (2, .int a2), (3, .int a3)] [] _ 0 0
  refine xi_aload_n 0 dX12_moves_0 rfl ?_
  refine xi_iload_n 1 dX12_moves_1 rfl ?_
  refine xi_iload_n 2 dX12_moves_2 rfl ?_
  refine xi_callV (as := [.int a1, .int a2]) (rest := []) dX12_moves_3 (fm_isPoint G a1 a2) mkX12_isPoint w_1257 ws_63 w_1255 rfl rfl rfl rfl rfl (Nat.le_of_ble_eq_true rfl) (Nat.le_of_ble_eq_true rfl) (Nat.le_of_ble_eq_true rfl) (Nat.le_of_ble_eq_true rfl) (Nat.le_of_ble_eq_true rfl) ?_
  intro v M2 hq
  obtain ⟨rfl, rfl⟩ := hq
  show xW _ _ _ _ 6 _ [.int 0] (MX 0 (fun _ => 0) rd0 mo0 (fun _ => 0) (fun _ => 0) (fun _ => 0)) _ _
  refine xi_if_eq_t (tgt := 18) dX12_moves_6 (by decide) (by decide) ?_
  refine xi_bipush (v := (-2)) dX12_moves_18 (by decide) ?_
  exact xi_iret dX12_moves_20 rfl rfl (Nat.le_of_ble_eq_true rfl) (Nat.le_of_ble_eq_true rfl) ⟨rfl, rfl⟩
set_option maxHeartbeats 4000000 in
set_option maxRecDepth 100000 in
theorem fm_reverse (G : xG) (a1 : Int32) : xC G mX12_reverse 5 0 0 [.ref 149, .int a1] (MX 0 (fun _ => 0) rd0 mo0 (fun _ => 0) (fun _ => 0) (fun _ => 0)) (fun v M2 => v = some (.int (-2)) ∧ M2 = (MX 0 (fun _ => 0) rd0 mo0 (fun _ => 0) (fun _ => 0) (fun _ => 0))) := by
  refine xC.of (by decide) (Nat.le_of_ble_eq_true rfl) ?_
  show xW _ _ _ _ 0 [(0, .ref 149), (1, .int a1)] [] _ 0 0
  refine xi_aload_n 0 dX12_reverse_0 rfl ?_
  refine xi_iload_n 1 dX12_reverse_1 rfl ?_
  refine xi_callV (as := [.int a1]) (rest := []) dX12_reverse_2 (fm_isNet G a1) mkX12_isNet w_1104 ws_35 w_1102 rfl rfl rfl rfl rfl (Nat.le_of_ble_eq_true rfl) (Nat.le_of_ble_eq_true rfl) (Nat.le_of_ble_eq_true rfl) (Nat.le_of_ble_eq_true rfl) (Nat.le_of_ble_eq_true rfl) ?_
  intro v M2 hq
  obtain ⟨rfl, rfl⟩ := hq
  show xW _ _ _ _ 5 _ [.int 0] (MX 0 (fun _ => 0) rd0 mo0 (fun _ => 0) (fun _ => 0) (fun _ => 0)) _ _
  refine xi_if_ne_f (tgt := 11) dX12_reverse_5 (by decide) (by decide) ?_
  refine xi_bipush (v := (-2)) dX12_reverse_8 (by decide) ?_
  exact xi_iret dX12_reverse_10 rfl rfl (Nat.le_of_ble_eq_true rfl) (Nat.le_of_ble_eq_true rfl) ⟨rfl, rfl⟩
set_option maxHeartbeats 4000000 in
set_option maxRecDepth 100000 in
theorem fm_takes (G : xG) (a1 a2 : Int32) : xC G mX12_takes 5 0 0 [.ref 149, .int a1, .int a2] (MX 0 (fun _ => 0) rd0 mo0 (fun _ => 0) (fun _ => 0) (fun _ => 0)) (fun v M2 => v = some (.int (-2)) ∧ M2 = (MX 0 (fun _ => 0) rd0 mo0 (fun _ => 0) (fun _ => 0) (fun _ => 0))) := by
  refine xC.of (by decide) (Nat.le_of_ble_eq_true rfl) ?_
  show xW _ _ _ _ 0 [(0, .ref 149), (1, .int a1), (2, .int a2)] [] _ 0 0
  refine xi_aload_n 0 dX12_takes_0 rfl ?_
  refine xi_iload_n 1 dX12_takes_1 rfl ?_
  refine xi_callV (as := [.int a1]) (rest := []) dX12_takes_2 (fm_isNet G a1) mkX12_isNet w_1104 ws_35 w_1102 rfl rfl rfl rfl rfl (Nat.le_of_ble_eq_true rfl) (Nat.le_of_ble_eq_true rfl) (Nat.le_of_ble_eq_true rfl) (Nat.le_of_ble_eq_true rfl) (Nat.le_of_ble_eq_true rfl) ?_
  intro v M2 hq
  obtain ⟨rfl, rfl⟩ := hq
  show xW _ _ _ _ 5 _ [.int 0] (MX 0 (fun _ => 0) rd0 mo0 (fun _ => 0) (fun _ => 0) (fun _ => 0)) _ _
  refine xi_if_eq_t (tgt := 15) dX12_takes_5 (by decide) (by decide) ?_
  refine xi_bipush (v := (-2)) dX12_takes_15 (by decide) ?_
  exact xi_iret dX12_takes_17 rfl rfl (Nat.le_of_ble_eq_true rfl) (Nat.le_of_ble_eq_true rfl) ⟨rfl, rfl⟩
set_option maxHeartbeats 4000000 in
set_option maxRecDepth 100000 in
theorem fm_polish (G : xG) (a1 a2 : Int32) : xC G mX12_polish 5 0 0 [.ref 149, .int a1, .int a2] (MX 0 (fun _ => 0) rd0 mo0 (fun _ => 0) (fun _ => 0) (fun _ => 0)) (fun v M2 => v = some (.int (-2)) ∧ M2 = (MX 0 (fun _ => 0) rd0 mo0 (fun _ => 0) (fun _ => 0) (fun _ => 0))) := by
  refine xC.of (by decide) (Nat.le_of_ble_eq_true rfl) ?_
  show xW _ _ _ _ 0 [(0, .ref 149), (1, .int a1), (2, .int a2)] [] _ 0 0
  refine xi_aload_n 0 dX12_polish_0 rfl ?_
  refine xi_iload_n 1 dX12_polish_1 rfl ?_
  refine xi_callV (as := [.int a1]) (rest := []) dX12_polish_2 (fm_isNet G a1) mkX12_isNet w_1104 ws_35 w_1102 rfl rfl rfl rfl rfl (Nat.le_of_ble_eq_true rfl) (Nat.le_of_ble_eq_true rfl) (Nat.le_of_ble_eq_true rfl) (Nat.le_of_ble_eq_true rfl) (Nat.le_of_ble_eq_true rfl) ?_
  intro v M2 hq
  obtain ⟨rfl, rfl⟩ := hq
  show xW _ _ _ _ 5 _ [.int 0] (MX 0 (fun _ => 0) rd0 mo0 (fun _ => 0) (fun _ => 0) (fun _ => 0)) _ _
  refine xi_if_eq_t (tgt := 15) dX12_polish_5 (by decide) (by decide) ?_
  refine xi_bipush (v := (-2)) dX12_polish_15 (by decide) ?_
  exact xi_iret dX12_polish_17 rfl rfl (Nat.le_of_ble_eq_true rfl) (Nat.le_of_ble_eq_true rfl) ⟨rfl, rfl⟩
set_option maxHeartbeats 4000000 in
set_option maxRecDepth 100000 in
theorem fm_polished (G : xG) (a1 a2 : Int32) : xC G mX12_polished 5 0 0 [.ref 149, .int a1, .int a2] (MX 0 (fun _ => 0) rd0 mo0 (fun _ => 0) (fun _ => 0) (fun _ => 0)) (fun v M2 => v = some (.int (-2)) ∧ M2 = (MX 0 (fun _ => 0) rd0 mo0 (fun _ => 0) (fun _ => 0) (fun _ => 0))) := by
  refine xC.of (by decide) (Nat.le_of_ble_eq_true rfl) ?_
  show xW _ _ _ _ 0 [(0, .ref 149), (1, .int a1), (2, .int a2)] [] _ 0 0
  refine xi_aload_n 0 dX12_polished_0 rfl ?_
  refine xi_iload_n 1 dX12_polished_1 rfl ?_
  refine xi_callV (as := [.int a1]) (rest := []) dX12_polished_2 (fm_isNet G a1) mkX12_isNet w_1104 ws_35 w_1102 rfl rfl rfl rfl rfl (Nat.le_of_ble_eq_true rfl) (Nat.le_of_ble_eq_true rfl) (Nat.le_of_ble_eq_true rfl) (Nat.le_of_ble_eq_true rfl) (Nat.le_of_ble_eq_true rfl) ?_
  intro v M2 hq
  obtain ⟨rfl, rfl⟩ := hq
  show xW _ _ _ _ 5 _ [.int 0] (MX 0 (fun _ => 0) rd0 mo0 (fun _ => 0) (fun _ => 0) (fun _ => 0)) _ _
  refine xi_if_eq_t (tgt := 15) dX12_polished_5 (by decide) (by decide) ?_
  refine xi_bipush (v := (-2)) dX12_polished_15 (by decide) ?_
  exact xi_iret dX12_polished_17 rfl rfl (Nat.le_of_ble_eq_true rfl) (Nat.le_of_ble_eq_true rfl) ⟨rfl, rfl⟩
set_option maxHeartbeats 4000000 in
set_option maxRecDepth 100000 in
theorem fm_greedy (G : xG) (a1 a2 : Int32) : xC G mX12_greedy 5 0 0 [.ref 149, .int a1, .int a2] (MX 0 (fun _ => 0) rd0 mo0 (fun _ => 0) (fun _ => 0) (fun _ => 0)) (fun v M2 => v = some (.int (-2)) ∧ M2 = (MX 0 (fun _ => 0) rd0 mo0 (fun _ => 0) (fun _ => 0) (fun _ => 0))) := by
  refine xC.of (by decide) (Nat.le_of_ble_eq_true rfl) ?_
  show xW _ _ _ _ 0 [(0, .ref 149), (1, .int a1), (2, .int a2)] [] _ 0 0
  refine xi_aload_n 0 dX12_greedy_0 rfl ?_
  refine xi_iload_n 1 dX12_greedy_1 rfl ?_
  refine xi_callV (as := [.int a1]) (rest := []) dX12_greedy_2 (fm_isNet G a1) mkX12_isNet w_1104 ws_35 w_1102 rfl rfl rfl rfl rfl (Nat.le_of_ble_eq_true rfl) (Nat.le_of_ble_eq_true rfl) (Nat.le_of_ble_eq_true rfl) (Nat.le_of_ble_eq_true rfl) (Nat.le_of_ble_eq_true rfl) ?_
  intro v M2 hq
  obtain ⟨rfl, rfl⟩ := hq
  show xW _ _ _ _ 5 _ [.int 0] (MX 0 (fun _ => 0) rd0 mo0 (fun _ => 0) (fun _ => 0) (fun _ => 0)) _ _
  refine xi_if_eq_t (tgt := 20) dX12_greedy_5 (by decide) (by decide) ?_
  refine xi_bipush (v := (-2)) dX12_greedy_20 (by decide) ?_
  exact xi_iret dX12_greedy_22 rfl rfl (Nat.le_of_ble_eq_true rfl) (Nat.le_of_ble_eq_true rfl) ⟨rfl, rfl⟩
set_option maxHeartbeats 4000000 in
set_option maxRecDepth 100000 in
theorem fm_layers (G : xG) (a1 a2 : Int32) : xC G mX12_layers 5 0 0 [.ref 149, .int a1, .int a2] (MX 0 (fun _ => 0) rd0 mo0 (fun _ => 0) (fun _ => 0) (fun _ => 0)) (fun v M2 => v = some (.int (-2)) ∧ M2 = (MX 0 (fun _ => 0) rd0 mo0 (fun _ => 0) (fun _ => 0) (fun _ => 0))) := by
  refine xC.of (by decide) (Nat.le_of_ble_eq_true rfl) ?_
  show xW _ _ _ _ 0 [(0, .ref 149), (1, .int a1), (2, .int a2)] [] _ 0 0
  refine xi_aload_n 0 dX12_layers_0 rfl ?_
  refine xi_iload_n 1 dX12_layers_1 rfl ?_
  refine xi_iload_n 2 dX12_layers_2 rfl ?_
  refine xi_callV (as := [.int a1, .int a2]) (rest := []) dX12_layers_3 (fm_isPoint G a1 a2) mkX12_isPoint w_1257 ws_63 w_1255 rfl rfl rfl rfl rfl (Nat.le_of_ble_eq_true rfl) (Nat.le_of_ble_eq_true rfl) (Nat.le_of_ble_eq_true rfl) (Nat.le_of_ble_eq_true rfl) (Nat.le_of_ble_eq_true rfl) ?_
  intro v M2 hq
  obtain ⟨rfl, rfl⟩ := hq
  show xW _ _ _ _ 6 _ [.int 0] (MX 0 (fun _ => 0) rd0 mo0 (fun _ => 0) (fun _ => 0) (fun _ => 0)) _ _
  refine xi_if_ne_f (tgt := 12) dX12_layers_6 (by decide) (by decide) ?_
  refine xi_bipush (v := (-2)) dX12_layers_9 (by decide) ?_
  exact xi_iret dX12_layers_11 rfl rfl (Nat.le_of_ble_eq_true rfl) (Nat.le_of_ble_eq_true rfl) ⟨rfl, rfl⟩
set_option maxHeartbeats 4000000 in
set_option maxRecDepth 100000 in
theorem fm_adds (G : xG) (a1 a2 a3 a4 : Int32) : xC G mX12_adds 5 0 0 [.ref 149, .int a1, .int a2, .int a3, .int a4] (MX 0 (fun _ => 0) rd0 mo0 (fun _ => 0) (fun _ => 0) (fun _ => 0)) (fun v M2 => v = some (.int (-2)) ∧ M2 = (MX 0 (fun _ => 0) rd0 mo0 (fun _ => 0) (fun _ => 0) (fun _ => 0))) := by
  refine xC.of (by decide) (Nat.le_of_ble_eq_true rfl) ?_
  show xW _ _ _ _ 0 [(0, .ref 149), (1, .int a1), (2, .int a2), (3, .int a3), (4, .int a4)] [] _ 0 0
  refine xi_aload_n 0 dX12_adds_0 rfl ?_
  refine xi_iload_n 1 dX12_adds_1 rfl ?_
  refine xi_iload_n 2 dX12_adds_2 rfl ?_
  refine xi_iload_n 3 dX12_adds_3 rfl ?_
  refine xi_callV (as := [.int a1, .int a2, .int a3]) (rest := []) dX12_adds_4 (fm_areTwo G a1 a2 a3) mkX12_areTwo w_1500 ws_90 w_1498 rfl rfl rfl rfl rfl (Nat.le_of_ble_eq_true rfl) (Nat.le_of_ble_eq_true rfl) (Nat.le_of_ble_eq_true rfl) (Nat.le_of_ble_eq_true rfl) (Nat.le_of_ble_eq_true rfl) ?_
  intro v M2 hq
  obtain ⟨rfl, rfl⟩ := hq
  show xW _ _ _ _ 7 _ [.int 0] (MX 0 (fun _ => 0) rd0 mo0 (fun _ => 0) (fun _ => 0) (fun _ => 0)) _ _
  refine xi_if_eq_t (tgt := 23) dX12_adds_7 (by decide) (by decide) ?_
  refine xi_bipush (v := (-2)) dX12_adds_23 (by decide) ?_
  exact xi_iret dX12_adds_25 rfl rfl (Nat.le_of_ble_eq_true rfl) (Nat.le_of_ble_eq_true rfl) ⟨rfl, rfl⟩
set_option maxHeartbeats 4000000 in
set_option maxRecDepth 100000 in
theorem fm_cuts (G : xG) (a1 a2 a3 : Int32) : xC G mX12_cuts 5 0 0 [.ref 149, .int a1, .int a2, .int a3] (MX 0 (fun _ => 0) rd0 mo0 (fun _ => 0) (fun _ => 0) (fun _ => 0)) (fun v M2 => v = some (.int (-2)) ∧ M2 = (MX 0 (fun _ => 0) rd0 mo0 (fun _ => 0) (fun _ => 0) (fun _ => 0))) := by
  refine xC.of (by decide) (Nat.le_of_ble_eq_true rfl) ?_
  show xW _ _ _ _ 0 [(0, .ref 149), (1, .int a1), (2, .int a2), (3, .int a3)] [] _ 0 0
  refine xi_aload_n 0 dX12_cuts_0 rfl ?_
  refine xi_iload_n 1 dX12_cuts_1 rfl ?_
  refine xi_iload_n 2 dX12_cuts_2 rfl ?_
  refine xi_iload_n 3 dX12_cuts_3 rfl ?_
  refine xi_callV (as := [.int a1, .int a2, .int a3]) (rest := []) dX12_cuts_4 (fm_areTwo G a1 a2 a3) mkX12_areTwo w_1500 ws_90 w_1498 rfl rfl rfl rfl rfl (Nat.le_of_ble_eq_true rfl) (Nat.le_of_ble_eq_true rfl) (Nat.le_of_ble_eq_true rfl) (Nat.le_of_ble_eq_true rfl) (Nat.le_of_ble_eq_true rfl) ?_
  intro v M2 hq
  obtain ⟨rfl, rfl⟩ := hq
  show xW _ _ _ _ 7 _ [.int 0] (MX 0 (fun _ => 0) rd0 mo0 (fun _ => 0) (fun _ => 0) (fun _ => 0)) _ _
  refine xi_if_ne_f (tgt := 13) dX12_cuts_7 (by decide) (by decide) ?_
  refine xi_bipush (v := (-2)) dX12_cuts_10 (by decide) ?_
  exact xi_iret dX12_cuts_12 rfl rfl (Nat.le_of_ble_eq_true rfl) (Nat.le_of_ble_eq_true rfl) ⟨rfl, rfl⟩
set_option maxHeartbeats 4000000 in
set_option maxRecDepth 100000 in
theorem fm_merges (G : xG) (a1 a2 a3 : Int32) : xC G mX12_merges 5 0 0 [.ref 149, .int a1, .int a2, .int a3] (MX 0 (fun _ => 0) rd0 mo0 (fun _ => 0) (fun _ => 0) (fun _ => 0)) (fun v M2 => v = some (.int (-2)) ∧ M2 = (MX 0 (fun _ => 0) rd0 mo0 (fun _ => 0) (fun _ => 0) (fun _ => 0))) := by
  refine xC.of (by decide) (Nat.le_of_ble_eq_true rfl) ?_
  show xW _ _ _ _ 0 [(0, .ref 149), (1, .int a1), (2, .int a2), (3, .int a3)] [] _ 0 0
  refine xi_aload_n 0 dX12_merges_0 rfl ?_
  refine xi_iload_n 1 dX12_merges_1 rfl ?_
  refine xi_iload_n 2 dX12_merges_2 rfl ?_
  refine xi_iload_n 3 dX12_merges_3 rfl ?_
  refine xi_callV (as := [.int a1, .int a2, .int a3]) (rest := []) dX12_merges_4 (fm_areTwo G a1 a2 a3) mkX12_areTwo w_1500 ws_90 w_1498 rfl rfl rfl rfl rfl (Nat.le_of_ble_eq_true rfl) (Nat.le_of_ble_eq_true rfl) (Nat.le_of_ble_eq_true rfl) (Nat.le_of_ble_eq_true rfl) (Nat.le_of_ble_eq_true rfl) ?_
  intro v M2 hq
  obtain ⟨rfl, rfl⟩ := hq
  show xW _ _ _ _ 7 _ [.int 0] (MX 0 (fun _ => 0) rd0 mo0 (fun _ => 0) (fun _ => 0) (fun _ => 0)) _ _
  refine xi_if_ne_f (tgt := 13) dX12_merges_7 (by decide) (by decide) ?_
  refine xi_bipush (v := (-2)) dX12_merges_10 (by decide) ?_
  exact xi_iret dX12_merges_12 rfl rfl (Nat.le_of_ble_eq_true rfl) (Nat.le_of_ble_eq_true rfl) ⟨rfl, rfl⟩
set_option maxHeartbeats 4000000 in
set_option maxRecDepth 100000 in
theorem fm_tell (G : xG) (a1 a2 : Int32) : xC G mX12_tell 5 0 0 [.ref 149, .int a1, .int a2] (MX 0 (fun _ => 0) rd0 mo0 (fun _ => 0) (fun _ => 0) (fun _ => 0)) (fun v M2 => v = some (.int (-2)) ∧ M2 = (MX 0 (fun _ => 0) rd0 mo0 (fun _ => 0) (fun _ => 0) (fun _ => 0))) := by
  refine xC.of (by decide) (Nat.le_of_ble_eq_true rfl) ?_
  show xW _ _ _ _ 0 [(0, .ref 149), (1, .int a1), (2, .int a2)] [] _ 0 0
  refine xi_aload_n 0 dX12_tell_0 rfl ?_
  refine xi_iload_n 1 dX12_tell_1 rfl ?_
  refine xi_callV (as := [.int a1]) (rest := []) dX12_tell_2 (fm_isNet G a1) mkX12_isNet w_1104 ws_35 w_1102 rfl rfl rfl rfl rfl (Nat.le_of_ble_eq_true rfl) (Nat.le_of_ble_eq_true rfl) (Nat.le_of_ble_eq_true rfl) (Nat.le_of_ble_eq_true rfl) (Nat.le_of_ble_eq_true rfl) ?_
  intro v M2 hq
  obtain ⟨rfl, rfl⟩ := hq
  show xW _ _ _ _ 5 _ [.int 0] (MX 0 (fun _ => 0) rd0 mo0 (fun _ => 0) (fun _ => 0) (fun _ => 0)) _ _
  refine xi_if_eq_t (tgt := 18) dX12_tell_5 (by decide) (by decide) ?_
  refine xi_bipush (v := (-2)) dX12_tell_18 (by decide) ?_
  exact xi_iret dX12_tell_20 rfl rfl (Nat.le_of_ble_eq_true rfl) (Nat.le_of_ble_eq_true rfl) ⟨rfl, rfl⟩
set_option maxHeartbeats 4000000 in
set_option maxRecDepth 100000 in
theorem fm_drops_0 (G : xG) : xC G mX12_drops 5 0 0 [.ref 149, .int 0] (MX 0 (fun _ => 0) rd0 mo0 (fun _ => 0) (fun _ => 0) (fun _ => 0)) (fun v M2 => v = some (.int 0) ∧ M2 = (MX 0 (fun _ => 0) rd0 mo0 (fun _ => 0) (fun _ => 0) (fun _ => 0))) := by
  refine xC.of (by decide) (Nat.le_of_ble_eq_true rfl) ?_
  show xW _ _ _ _ 0 [(0, .ref 149), (1, .int 0)] [] _ 0 0
  refine xi_iload_n 1 dX12_drops_0 rfl ?_
  refine xi_callS (as := [.int 0]) (rest := []) dX12_drops_1 (au_9 G) mkX12_isSlot w_1096 w_1095 rfl rfl (Nat.le_of_ble_eq_true rfl) (Nat.le_of_ble_eq_true rfl) (Nat.le_of_ble_eq_true rfl) (Nat.le_of_ble_eq_true rfl) (Nat.le_of_ble_eq_true rfl) ?_
  intro v M2 hq
  obtain ⟨rfl, rfl⟩ := hq
  show xW _ _ _ _ 4 _ [.int 1] (MX 0 (fun _ => 0) rd0 mo0 (fun _ => 0) (fun _ => 0) (fun _ => 0)) _ _
  refine xi_if_ne_t (tgt := 10) dX12_drops_4 (by decide) (by decide) ?_
  refine xi_aload_n 0 dX12_drops_10 rfl ?_
  refine xi_iload_n 1 dX12_drops_11 rfl ?_
  refine xi_callV (as := [.int 0]) (rest := []) dX12_drops_12 (fm_isNet G 0) mkX12_isNet w_1104 ws_35 w_1102 rfl rfl rfl rfl rfl (Nat.le_of_ble_eq_true rfl) (Nat.le_of_ble_eq_true rfl) (Nat.le_of_ble_eq_true rfl) (Nat.le_of_ble_eq_true rfl) (Nat.le_of_ble_eq_true rfl) ?_
  intro v M2 hq
  obtain ⟨rfl, rfl⟩ := hq
  show xW _ _ _ _ 15 _ [.int 0] (MX 0 (fun _ => 0) rd0 mo0 (fun _ => 0) (fun _ => 0) (fun _ => 0)) _ _
  refine xi_if_ne_f (tgt := 20) dX12_drops_15 (by decide) (by decide) ?_
  refine xi_iconst (v := 0) dX12_drops_18 (by decide) ?_
  exact xi_iret dX12_drops_19 rfl rfl (Nat.le_of_ble_eq_true rfl) (Nat.le_of_ble_eq_true rfl) ⟨rfl, rfl⟩
set_option maxHeartbeats 4000000 in
set_option maxRecDepth 100000 in
theorem fm_drops_1 (G : xG) : xC G mX12_drops 5 0 0 [.ref 149, .int 1] (MX 0 (fun _ => 0) rd0 mo0 (fun _ => 0) (fun _ => 0) (fun _ => 0)) (fun v M2 => v = some (.int 0) ∧ M2 = (MX 0 (fun _ => 0) rd0 mo0 (fun _ => 0) (fun _ => 0) (fun _ => 0))) := by
  refine xC.of (by decide) (Nat.le_of_ble_eq_true rfl) ?_
  show xW _ _ _ _ 0 [(0, .ref 149), (1, .int 1)] [] _ 0 0
  refine xi_iload_n 1 dX12_drops_0 rfl ?_
  refine xi_callS (as := [.int 1]) (rest := []) dX12_drops_1 (au_12 G) mkX12_isSlot w_1096 w_1095 rfl rfl (Nat.le_of_ble_eq_true rfl) (Nat.le_of_ble_eq_true rfl) (Nat.le_of_ble_eq_true rfl) (Nat.le_of_ble_eq_true rfl) (Nat.le_of_ble_eq_true rfl) ?_
  intro v M2 hq
  obtain ⟨rfl, rfl⟩ := hq
  show xW _ _ _ _ 4 _ [.int 1] (MX 0 (fun _ => 0) rd0 mo0 (fun _ => 0) (fun _ => 0) (fun _ => 0)) _ _
  refine xi_if_ne_t (tgt := 10) dX12_drops_4 (by decide) (by decide) ?_
  refine xi_aload_n 0 dX12_drops_10 rfl ?_
  refine xi_iload_n 1 dX12_drops_11 rfl ?_
  refine xi_callV (as := [.int 1]) (rest := []) dX12_drops_12 (fm_isNet G 1) mkX12_isNet w_1104 ws_35 w_1102 rfl rfl rfl rfl rfl (Nat.le_of_ble_eq_true rfl) (Nat.le_of_ble_eq_true rfl) (Nat.le_of_ble_eq_true rfl) (Nat.le_of_ble_eq_true rfl) (Nat.le_of_ble_eq_true rfl) ?_
  intro v M2 hq
  obtain ⟨rfl, rfl⟩ := hq
  show xW _ _ _ _ 15 _ [.int 0] (MX 0 (fun _ => 0) rd0 mo0 (fun _ => 0) (fun _ => 0) (fun _ => 0)) _ _
  refine xi_if_ne_f (tgt := 20) dX12_drops_15 (by decide) (by decide) ?_
  refine xi_iconst (v := 0) dX12_drops_18 (by decide) ?_
  exact xi_iret dX12_drops_19 rfl rfl (Nat.le_of_ble_eq_true rfl) (Nat.le_of_ble_eq_true rfl) ⟨rfl, rfl⟩
set_option maxHeartbeats 4000000 in
set_option maxRecDepth 100000 in
theorem fm_drops_2 (G : xG) : xC G mX12_drops 5 0 0 [.ref 149, .int 2] (MX 0 (fun _ => 0) rd0 mo0 (fun _ => 0) (fun _ => 0) (fun _ => 0)) (fun v M2 => v = some (.int 0) ∧ M2 = (MX 0 (fun _ => 0) rd0 mo0 (fun _ => 0) (fun _ => 0) (fun _ => 0))) := by
  refine xC.of (by decide) (Nat.le_of_ble_eq_true rfl) ?_
  show xW _ _ _ _ 0 [(0, .ref 149), (1, .int 2)] [] _ 0 0
  refine xi_iload_n 1 dX12_drops_0 rfl ?_
  refine xi_callS (as := [.int 2]) (rest := []) dX12_drops_1 (au_15 G) mkX12_isSlot w_1096 w_1095 rfl rfl (Nat.le_of_ble_eq_true rfl) (Nat.le_of_ble_eq_true rfl) (Nat.le_of_ble_eq_true rfl) (Nat.le_of_ble_eq_true rfl) (Nat.le_of_ble_eq_true rfl) ?_
  intro v M2 hq
  obtain ⟨rfl, rfl⟩ := hq
  show xW _ _ _ _ 4 _ [.int 1] (MX 0 (fun _ => 0) rd0 mo0 (fun _ => 0) (fun _ => 0) (fun _ => 0)) _ _
  refine xi_if_ne_t (tgt := 10) dX12_drops_4 (by decide) (by decide) ?_
  refine xi_aload_n 0 dX12_drops_10 rfl ?_
  refine xi_iload_n 1 dX12_drops_11 rfl ?_
  refine xi_callV (as := [.int 2]) (rest := []) dX12_drops_12 (fm_isNet G 2) mkX12_isNet w_1104 ws_35 w_1102 rfl rfl rfl rfl rfl (Nat.le_of_ble_eq_true rfl) (Nat.le_of_ble_eq_true rfl) (Nat.le_of_ble_eq_true rfl) (Nat.le_of_ble_eq_true rfl) (Nat.le_of_ble_eq_true rfl) ?_
  intro v M2 hq
  obtain ⟨rfl, rfl⟩ := hq
  show xW _ _ _ _ 15 _ [.int 0] (MX 0 (fun _ => 0) rd0 mo0 (fun _ => 0) (fun _ => 0) (fun _ => 0)) _ _
  refine xi_if_ne_f (tgt := 20) dX12_drops_15 (by decide) (by decide) ?_
  refine xi_iconst (v := 0) dX12_drops_18 (by decide) ?_
  exact xi_iret dX12_drops_19 rfl rfl (Nat.le_of_ble_eq_true rfl) (Nat.le_of_ble_eq_true rfl) ⟨rfl, rfl⟩
set_option maxHeartbeats 4000000 in
set_option maxRecDepth 100000 in
theorem fm_drops_out (G : xG) (a1 : Int32) (h : a1 < 0 ∨ 3 ≤ a1) : xC G mX12_drops 5 0 0 [.ref 149, .int a1] (MX 0 (fun _ => 0) rd0 mo0 (fun _ => 0) (fun _ => 0) (fun _ => 0)) (fun v M2 => v = some (.int (-2)) ∧ M2 = (MX 0 (fun _ => 0) rd0 mo0 (fun _ => 0) (fun _ => 0) (fun _ => 0))) := by
  refine xC.of (by decide) (Nat.le_of_ble_eq_true rfl) ?_
  show xW _ _ _ _ 0 [(0, .ref 149), (1, .int a1)] [] _ 0 0
  refine xi_iload_n 1 dX12_drops_0 rfl ?_
  refine xi_callS (as := [.int a1]) (rest := []) dX12_drops_1 (fm_isSlot_out G _ h) mkX12_isSlot w_1096 w_1095 rfl rfl (Nat.le_of_ble_eq_true rfl) (Nat.le_of_ble_eq_true rfl) (Nat.le_of_ble_eq_true rfl) (Nat.le_of_ble_eq_true rfl) (Nat.le_of_ble_eq_true rfl) ?_
  intro v M2 hq
  obtain ⟨rfl, rfl⟩ := hq
  show xW _ _ _ _ 4 _ [.int 0] (MX 0 (fun _ => 0) rd0 mo0 (fun _ => 0) (fun _ => 0) (fun _ => 0)) _ _
  refine xi_if_ne_f (tgt := 10) dX12_drops_4 (by decide) (by decide) ?_
  refine xi_bipush (v := (-2)) dX12_drops_7 (by decide) ?_
  exact xi_iret dX12_drops_9 rfl rfl (Nat.le_of_ble_eq_true rfl) (Nat.le_of_ble_eq_true rfl) ⟨rfl, rfl⟩
set_option maxHeartbeats 4000000 in
set_option maxRecDepth 100000 in
theorem fm_undo (G : xG) : xC G mX12_undo 5 0 0 [.ref 149] (MX 0 (fun _ => 0) rd0 mo0 (fun _ => 0) (fun _ => 0) (fun _ => 0)) (fun v M2 => v = some (.int (-1)) ∧ M2 = (MX 0 (fun _ => 0) rd0 mo0 (fun _ => 0) (fun _ => 0) (fun _ => 0))) := by
  refine xC.of (by decide) (Nat.le_of_ble_eq_true rfl) ?_
  show xW _ _ _ _ 0 [(0, .ref 149)] [] _ 0 0
  refine xi_aload_n 0 dX12_undo_0 rfl ?_
  refine xi_get (f := 3) dX12_undo_1 rfl rfl ok_9 (by decide) w_1011 rfl ?_
  refine xi_if_ne_f (tgt := 9) dX12_undo_4 (by decide) (by decide) ?_
  refine xi_iconst (v := (-1)) dX12_undo_7 (by decide) ?_
  exact xi_iret dX12_undo_8 rfl rfl (Nat.le_of_ble_eq_true rfl) (Nat.le_of_ble_eq_true rfl) ⟨rfl, rfl⟩
set_option maxHeartbeats 4000000 in
set_option maxRecDepth 100000 in
theorem fm_fault (G : xG) (a1 : Int32) : xC G mX12_fault 5 0 0 [.ref 149, .int a1] (MX 0 (fun _ => 0) rd0 mo0 (fun _ => 0) (fun _ => 0) (fun _ => 0)) (fun v M2 => v = some (.int (if a1 = 0 then 0 else (-1))) ∧ M2 = (MX 0 (fun _ => 0) rd0 mo0 (fun _ => 0) (fun _ => 0) (fun _ => 0))) := by
  refine xC.of (by decide) (Nat.le_of_ble_eq_true rfl) ?_
  show xW _ _ _ _ 0 [(0, .ref 149), (1, .int a1)] [] _ 0 0
  refine xi_iload_n 1 dX12_fault_0 rfl ?_
  refine xi_if_ne (tgt := 11) dX12_fault_1 (by decide) (fun c1 => ?_) (fun c1 => ?_)
  · refine xi_iload_n 1 dX12_fault_11 rfl ?_
    refine xi_iconst (v := 1) dX12_fault_12 (by decide) ?_
    refine xi_icmp_ne (tgt := 23) dX12_fault_13 (by decide) (fun c2 => ?_) (fun c2 => ?_)
    · refine xi_iconst (v := (-1)) dX12_fault_23 (by decide) ?_
      exact xi_iret dX12_fault_24 rfl rfl (Nat.le_of_ble_eq_true rfl) (Nat.le_of_ble_eq_true rfl) ⟨by simp only [c1, if_pos, if_neg, if_true, if_false, not_false_eq_true], rfl⟩
    · refine xi_aload_n 0 dX12_fault_16 rfl ?_
      refine xi_get (f := 7) dX12_fault_17 rfl rfl ok_9 (by decide) w_1015 rfl ?_
      refine xi_goto (tgt := 24) dX12_fault_20 (by decide) ?_
      exact xi_iret dX12_fault_24 rfl rfl (Nat.le_of_ble_eq_true rfl) (Nat.le_of_ble_eq_true rfl) ⟨by simp only [c1, if_pos, if_neg, if_true, if_false, not_false_eq_true], rfl⟩
  · refine xi_aload_n 0 dX12_fault_4 rfl ?_
    refine xi_get (f := 6) dX12_fault_5 rfl rfl ok_9 (by decide) w_1014 rfl ?_
    refine xi_goto (tgt := 24) dX12_fault_8 (by decide) ?_
    exact xi_iret dX12_fault_24 rfl rfl (Nat.le_of_ble_eq_true rfl) (Nat.le_of_ble_eq_true rfl) ⟨by simp only [c1, if_pos, if_neg, if_true, if_false, not_false_eq_true], rfl⟩
set_option maxHeartbeats 4000000 in
set_option maxRecDepth 100000 in
theorem fm_octet (G : xG) (a1 : Int32) : xC G mX12_octet 5 0 0 [.ref 149, .int a1] (MX 0 (fun _ => 0) rd0 mo0 (fun _ => 0) (fun _ => 0) (fun _ => 0)) (fun v M2 => v = some (.int (-1)) ∧ M2 = (MX 0 (fun _ => 0) rd0 mo0 (fun _ => 0) (fun _ => 0) (fun _ => 0))) := by
  refine xC.of (by decide) (Nat.le_of_ble_eq_true rfl) ?_
  show xW _ _ _ _ 0 [(0, .ref 149), (1, .int a1)] [] _ 0 0
  refine xi_iload_n 1 dX12_octet_0 rfl ?_
  refine xi_i2l dX12_octet_1 rfl ?_
  refine xi_lconst (v := 0) dX12_octet_2 (by decide) ?_
  refine xi_aload_n 0 dX12_octet_3 rfl ?_
  refine xi_get (f := 25) dX12_octet_4 rfl rfl ok_9 (by decide) w_1033 rfl ?_
  refine xi_iconst (v := 1) dX12_octet_7 (by decide) ?_
  refine xi_isub (v := (-1)) dX12_octet_8 (by decide) ?_
  refine xi_i2l (v := (-1)) dX12_octet_9 (by decide) ?_
  refine xi_callS (as := [.long a1.toInt64, .long 0, .long (-1)]) (rest := []) dX12_octet_10 (fm_in_o G _ (outm _)) mkX12_in w_1100 w_1099 rfl rfl (Nat.le_of_ble_eq_true rfl) (Nat.le_of_ble_eq_true rfl) (Nat.le_of_ble_eq_true rfl) (Nat.le_of_ble_eq_true rfl) (Nat.le_of_ble_eq_true rfl) ?_
  intro v M2 hq
  obtain ⟨rfl, rfl⟩ := hq
  show xW _ _ _ _ 13 _ [.int 0] (MX 0 (fun _ => 0) rd0 mo0 (fun _ => 0) (fun _ => 0) (fun _ => 0)) _ _
  refine xi_if_eq_t (tgt := 25) dX12_octet_13 (by decide) (by decide) ?_
  refine xi_iconst (v := (-1)) dX12_octet_25 (by decide) ?_
  exact xi_iret dX12_octet_26 rfl rfl (Nat.le_of_ble_eq_true rfl) (Nat.le_of_ble_eq_true rfl) ⟨rfl, rfl⟩
set_option maxHeartbeats 4000000 in
set_option maxRecDepth 100000 in
theorem fm_count_0 (G : xG) : xC G mX12_count 5 0 0 [.ref 149, .int 0] (MX 0 (fun _ => 0) rd0 mo0 (fun _ => 0) (fun _ => 0) (fun _ => 0)) (fun v M2 => v = some (.int 0) ∧ M2 = (MX 0 (fun _ => 0) rd0 mo0 (fun _ => 0) (fun _ => 0) (fun _ => 0))) := by
  refine xC.of (by decide) (Nat.le_of_ble_eq_true rfl) ?_
  show xW _ _ _ _ 0 [(0, .ref 149), (1, .int 0)] [] _ 0 0
  refine xi_iconst (v := 0) dX12_count_0 (by decide) ?_
  refine xi_istore_n (lv' := [(2, .int 0), (0, .ref 149), (1, .int 0)]) dX12_count_1 (by decide) rfl ?_
  refine xi_iconst (v := 0) dX12_count_2 (by decide) ?_
  refine xi_istore_n (lv' := [(3, .int 0), (2, .int 0), (0, .ref 149), (1, .int 0)]) dX12_count_3 (by decide) rfl ?_
  refine xi_iload_n 0 dX12_count_4 rfl ?_
  refine xi_iconst (v := 3) dX12_count_5 (by decide) ?_
  refine xi_icmp_ge_f (tgt := 33) dX12_count_6 (by decide) (by decide) ?_
  refine xi_iload_n 1 dX12_count_9 rfl ?_
  refine xi_aload_n 2 dX12_count_10 rfl ?_
  refine xi_iload_n 0 dX12_count_11 rfl ?_
  refine xi_callV (as := [.int 0]) (rest := [.int 0]) dX12_count_12 (fm_isNet G 0) mkX12_isNet w_1104 ws_35 w_1102 rfl rfl rfl rfl rfl (Nat.le_of_ble_eq_true rfl) (Nat.le_of_ble_eq_true rfl) (Nat.le_of_ble_eq_true rfl) (Nat.le_of_ble_eq_true rfl) (Nat.le_of_ble_eq_true rfl) ?_
  intro v M2 hq
  obtain ⟨rfl, rfl⟩ := hq
  show xW _ _ _ _ 15 _ [.int 0, .int 0] (MX 0 (fun _ => 0) rd0 mo0 (fun _ => 0) (fun _ => 0) (fun _ => 0)) _ _
  refine xi_if_eq_t (tgt := 24) dX12_count_15 (by decide) (by decide) ?_
  refine xi_iconst (v := 0) dX12_count_24 (by decide) ?_
  refine xi_ior (v := 0) dX12_count_25 (by decide) ?_
  refine xi_istore_n (lv' := [(2, .int 0), (3, .int 0), (0, .ref 149), (1, .int 0)]) dX12_count_26 (by decide) rfl ?_
  refine xi_iinc (v := 1) (lv' := [(3, .int 1), (2, .int 0), (0, .ref 149), (1, .int 0)]) 1 dX12_count_27 rfl (by decide) (by decide) rfl ?_
  refine xi_goto (tgt := 4) dX12_count_30 (by decide) ?_
  refine xi_iload_n 0 dX12_count_4 rfl ?_
  refine xi_iconst (v := 3) dX12_count_5 (by decide) ?_
  refine xi_icmp_ge_f (tgt := 33) dX12_count_6 (by decide) (by decide) ?_
  refine xi_iload_n 1 dX12_count_9 rfl ?_
  refine xi_aload_n 2 dX12_count_10 rfl ?_
  refine xi_iload_n 0 dX12_count_11 rfl ?_
  refine xi_callV (as := [.int 1]) (rest := [.int 0]) dX12_count_12 (fm_isNet G 1) mkX12_isNet w_1104 ws_35 w_1102 rfl rfl rfl rfl rfl (Nat.le_of_ble_eq_true rfl) (Nat.le_of_ble_eq_true rfl) (Nat.le_of_ble_eq_true rfl) (Nat.le_of_ble_eq_true rfl) (Nat.le_of_ble_eq_true rfl) ?_
  intro v M2 hq
  obtain ⟨rfl, rfl⟩ := hq
  show xW _ _ _ _ 15 _ [.int 0, .int 0] (MX 0 (fun _ => 0) rd0 mo0 (fun _ => 0) (fun _ => 0) (fun _ => 0)) _ _
  refine xi_if_eq_t (tgt := 24) dX12_count_15 (by decide) (by decide) ?_
  refine xi_iconst (v := 0) dX12_count_24 (by decide) ?_
  refine xi_ior (v := 0) dX12_count_25 (by decide) ?_
  refine xi_istore_n (lv' := [(2, .int 0), (3, .int 1), (0, .ref 149), (1, .int 0)]) dX12_count_26 (by decide) rfl ?_
  refine xi_iinc (v := 2) (lv' := [(3, .int 2), (2, .int 0), (0, .ref 149), (1, .int 0)]) 1 dX12_count_27 rfl (by decide) (by decide) rfl ?_
  refine xi_goto (tgt := 4) dX12_count_30 (by decide) ?_
  refine xi_iload_n 0 dX12_count_4 rfl ?_
  refine xi_iconst (v := 3) dX12_count_5 (by decide) ?_
  refine xi_icmp_ge_f (tgt := 33) dX12_count_6 (by decide) (by decide) ?_
  refine xi_iload_n 1 dX12_count_9 rfl ?_
  refine xi_aload_n 2 dX12_count_10 rfl ?_
  refine xi_iload_n 0 dX12_count_11 rfl ?_
  refine xi_callV (as := [.int 2]) (rest := [.int 0]) dX12_count_12 (fm_isNet G 2) mkX12_isNet w_1104 ws_35 w_1102 rfl rfl rfl rfl rfl (Nat.le_of_ble_eq_true rfl) (Nat.le_of_ble_eq_true rfl) (Nat.le_of_ble_eq_true rfl) (Nat.le_of_ble_eq_true rfl) (Nat.le_of_ble_eq_true rfl) ?_
  intro v M2 hq
  obtain ⟨rfl, rfl⟩ := hq
  show xW _ _ _ _ 15 _ [.int 0, .int 0] (MX 0 (fun _ => 0) rd0 mo0 (fun _ => 0) (fun _ => 0) (fun _ => 0)) _ _
  refine xi_if_eq_t (tgt := 24) dX12_count_15 (by decide) (by decide) ?_
  refine xi_iconst (v := 0) dX12_count_24 (by decide) ?_
  refine xi_ior (v := 0) dX12_count_25 (by decide) ?_
  refine xi_istore_n (lv' := [(2, .int 0), (3, .int 2), (0, .ref 149), (1, .int 0)]) dX12_count_26 (by decide) rfl ?_
  refine xi_iinc (v := 3) (lv' := [(3, .int 3), (2, .int 0), (0, .ref 149), (1, .int 0)]) 1 dX12_count_27 rfl (by decide) (by decide) rfl ?_
  refine xi_goto (tgt := 4) dX12_count_30 (by decide) ?_
  refine xi_iload_n 0 dX12_count_4 rfl ?_
  refine xi_iconst (v := 3) dX12_count_5 (by decide) ?_
  refine xi_icmp_ge_t (tgt := 33) dX12_count_6 (by decide) (by decide) ?_
  refine xi_iload_n 3 dX12_count_33 rfl ?_
  refine xi_tableIn (off := 30) (tgt := 64) dX12_count_34 (by decide) (by decide) (by decide) (by decide) ?_
  refine xi_iload_n 1 dX12_count_64 rfl ?_
  exact xi_iret dX12_count_65 rfl rfl (Nat.le_of_ble_eq_true rfl) (Nat.le_of_ble_eq_true rfl) ⟨rfl, rfl⟩
set_option maxHeartbeats 4000000 in
set_option maxRecDepth 100000 in
theorem fm_count_1 (G : xG) : xC G mX12_count 5 0 0 [.ref 149, .int 1] (MX 0 (fun _ => 0) rd0 mo0 (fun _ => 0) (fun _ => 0) (fun _ => 0)) (fun v M2 => v = some (.int 0) ∧ M2 = (MX 0 (fun _ => 0) rd0 mo0 (fun _ => 0) (fun _ => 0) (fun _ => 0))) := by
  refine xC.of (by decide) (Nat.le_of_ble_eq_true rfl) ?_
  show xW _ _ _ _ 0 [(0, .ref 149), (1, .int 1)] [] _ 0 0
  refine xi_iconst (v := 0) dX12_count_0 (by decide) ?_
  refine xi_istore_n (lv' := [(2, .int 0), (0, .ref 149), (1, .int 1)]) dX12_count_1 (by decide) rfl ?_
  refine xi_iconst (v := 0) dX12_count_2 (by decide) ?_
  refine xi_istore_n (lv' := [(3, .int 0), (2, .int 0), (0, .ref 149), (1, .int 1)]) dX12_count_3 (by decide) rfl ?_
  refine xi_iload_n 0 dX12_count_4 rfl ?_
  refine xi_iconst (v := 3) dX12_count_5 (by decide) ?_
  refine xi_icmp_ge_f (tgt := 33) dX12_count_6 (by decide) (by decide) ?_
  refine xi_iload_n 1 dX12_count_9 rfl ?_
  refine xi_aload_n 2 dX12_count_10 rfl ?_
  refine xi_iload_n 0 dX12_count_11 rfl ?_
  refine xi_callV (as := [.int 0]) (rest := [.int 0]) dX12_count_12 (fm_isNet G 0) mkX12_isNet w_1104 ws_35 w_1102 rfl rfl rfl rfl rfl (Nat.le_of_ble_eq_true rfl) (Nat.le_of_ble_eq_true rfl) (Nat.le_of_ble_eq_true rfl) (Nat.le_of_ble_eq_true rfl) (Nat.le_of_ble_eq_true rfl) ?_
  intro v M2 hq
  obtain ⟨rfl, rfl⟩ := hq
  show xW _ _ _ _ 15 _ [.int 0, .int 0] (MX 0 (fun _ => 0) rd0 mo0 (fun _ => 0) (fun _ => 0) (fun _ => 0)) _ _
  refine xi_if_eq_t (tgt := 24) dX12_count_15 (by decide) (by decide) ?_
  refine xi_iconst (v := 0) dX12_count_24 (by decide) ?_
  refine xi_ior (v := 0) dX12_count_25 (by decide) ?_
  refine xi_istore_n (lv' := [(2, .int 0), (3, .int 0), (0, .ref 149), (1, .int 1)]) dX12_count_26 (by decide) rfl ?_
  refine xi_iinc (v := 1) (lv' := [(3, .int 1), (2, .int 0), (0, .ref 149), (1, .int 1)]) 1 dX12_count_27 rfl (by decide) (by decide) rfl ?_
  refine xi_goto (tgt := 4) dX12_count_30 (by decide) ?_
  refine xi_iload_n 0 dX12_count_4 rfl ?_
  refine xi_iconst (v := 3) dX12_count_5 (by decide) ?_
  refine xi_icmp_ge_f (tgt := 33) dX12_count_6 (by decide) (by decide) ?_
  refine xi_iload_n 1 dX12_count_9 rfl ?_
  refine xi_aload_n 2 dX12_count_10 rfl ?_
  refine xi_iload_n 0 dX12_count_11 rfl ?_
  refine xi_callV (as := [.int 1]) (rest := [.int 0]) dX12_count_12 (fm_isNet G 1) mkX12_isNet w_1104 ws_35 w_1102 rfl rfl rfl rfl rfl (Nat.le_of_ble_eq_true rfl) (Nat.le_of_ble_eq_true rfl) (Nat.le_of_ble_eq_true rfl) (Nat.le_of_ble_eq_true rfl) (Nat.le_of_ble_eq_true rfl) ?_
  intro v M2 hq
  obtain ⟨rfl, rfl⟩ := hq
  show xW _ _ _ _ 15 _ [.int 0, .int 0] (MX 0 (fun _ => 0) rd0 mo0 (fun _ => 0) (fun _ => 0) (fun _ => 0)) _ _
  refine xi_if_eq_t (tgt := 24) dX12_count_15 (by decide) (by decide) ?_
  refine xi_iconst (v := 0) dX12_count_24 (by decide) ?_
  refine xi_ior (v := 0) dX12_count_25 (by decide) ?_
  refine xi_istore_n (lv' := [(2, .int 0), (3, .int 1), (0, .ref 149), (1, .int 1)]) dX12_count_26 (by decide) rfl ?_
  refine xi_iinc (v := 2) (lv' := [(3, .int 2), (2, .int 0), (0, .ref 149), (1, .int 1)]) 1 dX12_count_27 rfl (by decide) (by decide) rfl ?_
  refine xi_goto (tgt := 4) dX12_count_30 (by decide) ?_
  refine xi_iload_n 0 dX12_count_4 rfl ?_
  refine xi_iconst (v := 3) dX12_count_5 (by decide) ?_
  refine xi_icmp_ge_f (tgt := 33) dX12_count_6 (by decide) (by decide) ?_
  refine xi_iload_n 1 dX12_count_9 rfl ?_
  refine xi_aload_n 2 dX12_count_10 rfl ?_
  refine xi_iload_n 0 dX12_count_11 rfl ?_
  refine xi_callV (as := [.int 2]) (rest := [.int 0]) dX12_count_12 (fm_isNet G 2) mkX12_isNet w_1104 ws_35 w_1102 rfl rfl rfl rfl rfl (Nat.le_of_ble_eq_true rfl) (Nat.le_of_ble_eq_true rfl) (Nat.le_of_ble_eq_true rfl) (Nat.le_of_ble_eq_true rfl) (Nat.le_of_ble_eq_true rfl) ?_
  intro v M2 hq
  obtain ⟨rfl, rfl⟩ := hq
  show xW _ _ _ _ 15 _ [.int 0, .int 0] (MX 0 (fun _ => 0) rd0 mo0 (fun _ => 0) (fun _ => 0) (fun _ => 0)) _ _
  refine xi_if_eq_t (tgt := 24) dX12_count_15 (by decide) (by decide) ?_
  refine xi_iconst (v := 0) dX12_count_24 (by decide) ?_
  refine xi_ior (v := 0) dX12_count_25 (by decide) ?_
  refine xi_istore_n (lv' := [(2, .int 0), (3, .int 2), (0, .ref 149), (1, .int 1)]) dX12_count_26 (by decide) rfl ?_
  refine xi_iinc (v := 3) (lv' := [(3, .int 3), (2, .int 0), (0, .ref 149), (1, .int 1)]) 1 dX12_count_27 rfl (by decide) (by decide) rfl ?_
  refine xi_goto (tgt := 4) dX12_count_30 (by decide) ?_
  refine xi_iload_n 0 dX12_count_4 rfl ?_
  refine xi_iconst (v := 3) dX12_count_5 (by decide) ?_
  refine xi_icmp_ge_t (tgt := 33) dX12_count_6 (by decide) (by decide) ?_
  refine xi_iload_n 3 dX12_count_33 rfl ?_
  refine xi_tableIn (off := 32) (tgt := 66) dX12_count_34 (by decide) (by decide) (by decide) (by decide) ?_
  refine xi_aload_n 2 dX12_count_66 rfl ?_
  refine xi_get (f := 3) dX12_count_67 rfl rfl ok_9 (by decide) w_1011 rfl ?_
  exact xi_iret dX12_count_70 rfl rfl (Nat.le_of_ble_eq_true rfl) (Nat.le_of_ble_eq_true rfl) ⟨rfl, rfl⟩
set_option maxHeartbeats 4000000 in
set_option maxRecDepth 100000 in
theorem fm_count_2 (G : xG) : xC G mX12_count 5 0 0 [.ref 149, .int 2] (MX 0 (fun _ => 0) rd0 mo0 (fun _ => 0) (fun _ => 0) (fun _ => 0)) (fun v M2 => v = some (.int 0) ∧ M2 = (MX 0 (fun _ => 0) rd0 mo0 (fun _ => 0) (fun _ => 0) (fun _ => 0))) := by
  refine xC.of (by decide) (Nat.le_of_ble_eq_true rfl) ?_
  show xW _ _ _ _ 0 [(0, .ref 149), (1, .int 2)] [] _ 0 0
  refine xi_iconst (v := 0) dX12_count_0 (by decide) ?_
  refine xi_istore_n (lv' := [(2, .int 0), (0, .ref 149), (1, .int 2)]) dX12_count_1 (by decide) rfl ?_
  refine xi_iconst (v := 0) dX12_count_2 (by decide) ?_
  refine xi_istore_n (lv' := [(3, .int 0), (2, .int 0), (0, .ref 149), (1, .int 2)]) dX12_count_3 (by decide) rfl ?_
  refine xi_iload_n 0 dX12_count_4 rfl ?_
  refine xi_iconst (v := 3) dX12_count_5 (by decide) ?_
  refine xi_icmp_ge_f (tgt := 33) dX12_count_6 (by decide) (by decide) ?_
  refine xi_iload_n 1 dX12_count_9 rfl ?_
  refine xi_aload_n 2 dX12_count_10 rfl ?_
  refine xi_iload_n 0 dX12_count_11 rfl ?_
  refine xi_callV (as := [.int 0]) (rest := [.int 0]) dX12_count_12 (fm_isNet G 0) mkX12_isNet w_1104 ws_35 w_1102 rfl rfl rfl rfl rfl (Nat.le_of_ble_eq_true rfl) (Nat.le_of_ble_eq_true rfl) (Nat.le_of_ble_eq_true rfl) (Nat.le_of_ble_eq_true rfl) (Nat.le_of_ble_eq_true rfl) ?_
  intro v M2 hq
  obtain ⟨rfl, rfl⟩ := hq
  show xW _ _ _ _ 15 _ [.int 0, .int 0] (MX 0 (fun _ => 0) rd0 mo0 (fun _ => 0) (fun _ => 0) (fun _ => 0)) _ _
  refine xi_if_eq_t (tgt := 24) dX12_count_15 (by decide) (by decide) ?_
  refine xi_iconst (v := 0) dX12_count_24 (by decide) ?_
  refine xi_ior (v := 0) dX12_count_25 (by decide) ?_
  refine xi_istore_n (lv' := [(2, .int 0), (3, .int 0), (0, .ref 149), (1, .int 2)]) dX12_count_26 (by decide) rfl ?_
  refine xi_iinc (v := 1) (lv' := [(3, .int 1), (2, .int 0), (0, .ref 149), (1, .int 2)]) 1 dX12_count_27 rfl (by decide) (by decide) rfl ?_
  refine xi_goto (tgt := 4) dX12_count_30 (by decide) ?_
  refine xi_iload_n 0 dX12_count_4 rfl ?_
  refine xi_iconst (v := 3) dX12_count_5 (by decide) ?_
  refine xi_icmp_ge_f (tgt := 33) dX12_count_6 (by decide) (by decide) ?_
  refine xi_iload_n 1 dX12_count_9 rfl ?_
  refine xi_aload_n 2 dX12_count_10 rfl ?_
  refine xi_iload_n 0 dX12_count_11 rfl ?_
  refine xi_callV (as := [.int 1]) (rest := [.int 0]) dX12_count_12 (fm_isNet G 1) mkX12_isNet w_1104 ws_35 w_1102 rfl rfl rfl rfl rfl (Nat.le_of_ble_eq_true rfl) (Nat.le_of_ble_eq_true rfl) (Nat.le_of_ble_eq_true rfl) (Nat.le_of_ble_eq_true rfl) (Nat.le_of_ble_eq_true rfl) ?_
  intro v M2 hq
  obtain ⟨rfl, rfl⟩ := hq
  show xW _ _ _ _ 15 _ [.int 0, .int 0] (MX 0 (fun _ => 0) rd0 mo0 (fun _ => 0) (fun _ => 0) (fun _ => 0)) _ _
  refine xi_if_eq_t (tgt := 24) dX12_count_15 (by decide) (by decide) ?_
  refine xi_iconst (v := 0) dX12_count_24 (by decide) ?_
  refine xi_ior (v := 0) dX12_count_25 (by decide) ?_
  refine xi_istore_n (lv' := [(2, .int 0), (3, .int 1), (0, .ref 149), (1, .int 2)]) dX12_count_26 (by decide) rfl ?_
  refine xi_iinc (v := 2) (lv' := [(3, .int 2), (2, .int 0), (0, .ref 149), (1, .int 2)]) 1 dX12_count_27 rfl (by decide) (by decide) rfl ?_
  refine xi_goto (tgt := 4) dX12_count_30 (by decide) ?_
  refine xi_iload_n 0 dX12_count_4 rfl ?_
  refine xi_iconst (v := 3) dX12_count_5 (by decide) ?_
  refine xi_icmp_ge_f (tgt := 33) dX12_count_6 (by decide) (by decide) ?_
  refine xi_iload_n 1 dX12_count_9 rfl ?_
  refine xi_aload_n 2 dX12_count_10 rfl ?_
  refine xi_iload_n 0 dX12_count_11 rfl ?_
  refine xi_callV (as := [.int 2]) (rest := [.int 0]) dX12_count_12 (fm_isNet G 2) mkX12_isNet w_1104 ws_35 w_1102 rfl rfl rfl rfl rfl (Nat.le_of_ble_eq_true rfl) (Nat.le_of_ble_eq_true rfl) (Nat.le_of_ble_eq_true rfl) (Nat.le_of_ble_eq_true rfl) (Nat.le_of_ble_eq_true rfl) ?_
  intro v M2 hq
  obtain ⟨rfl, rfl⟩ := hq
  show xW _ _ _ _ 15 _ [.int 0, .int 0] (MX 0 (fun _ => 0) rd0 mo0 (fun _ => 0) (fun _ => 0) (fun _ => 0)) _ _
  refine xi_if_eq_t (tgt := 24) dX12_count_15 (by decide) (by decide) ?_
  refine xi_iconst (v := 0) dX12_count_24 (by decide) ?_
  refine xi_ior (v := 0) dX12_count_25 (by decide) ?_
  refine xi_istore_n (lv' := [(2, .int 0), (3, .int 2), (0, .ref 149), (1, .int 2)]) dX12_count_26 (by decide) rfl ?_
  refine xi_iinc (v := 3) (lv' := [(3, .int 3), (2, .int 0), (0, .ref 149), (1, .int 2)]) 1 dX12_count_27 rfl (by decide) (by decide) rfl ?_
  refine xi_goto (tgt := 4) dX12_count_30 (by decide) ?_
  refine xi_iload_n 0 dX12_count_4 rfl ?_
  refine xi_iconst (v := 3) dX12_count_5 (by decide) ?_
  refine xi_icmp_ge_t (tgt := 33) dX12_count_6 (by decide) (by decide) ?_
  refine xi_iload_n 3 dX12_count_33 rfl ?_
  refine xi_tableIn (off := 37) (tgt := 71) dX12_count_34 (by decide) (by decide) (by decide) (by decide) ?_
  refine xi_aload_n 2 dX12_count_71 rfl ?_
  refine xi_get (f := 5) dX12_count_72 rfl rfl ok_9 (by decide) w_1013 rfl ?_
  exact xi_iret dX12_count_75 rfl rfl (Nat.le_of_ble_eq_true rfl) (Nat.le_of_ble_eq_true rfl) ⟨rfl, rfl⟩
set_option maxHeartbeats 4000000 in
set_option maxRecDepth 100000 in
theorem fm_count_3 (G : xG) : xC G mX12_count 5 0 0 [.ref 149, .int 3] (MX 0 (fun _ => 0) rd0 mo0 (fun _ => 0) (fun _ => 0) (fun _ => 0)) (fun v M2 => v = some (.int 0) ∧ M2 = (MX 0 (fun _ => 0) rd0 mo0 (fun _ => 0) (fun _ => 0) (fun _ => 0))) := by
  refine xC.of (by decide) (Nat.le_of_ble_eq_true rfl) ?_
  show xW _ _ _ _ 0 [(0, .ref 149), (1, .int 3)] [] _ 0 0
  refine xi_iconst (v := 0) dX12_count_0 (by decide) ?_
  refine xi_istore_n (lv' := [(2, .int 0), (0, .ref 149), (1, .int 3)]) dX12_count_1 (by decide) rfl ?_
  refine xi_iconst (v := 0) dX12_count_2 (by decide) ?_
  refine xi_istore_n (lv' := [(3, .int 0), (2, .int 0), (0, .ref 149), (1, .int 3)]) dX12_count_3 (by decide) rfl ?_
  refine xi_iload_n 0 dX12_count_4 rfl ?_
  refine xi_iconst (v := 3) dX12_count_5 (by decide) ?_
  refine xi_icmp_ge_f (tgt := 33) dX12_count_6 (by decide) (by decide) ?_
  refine xi_iload_n 1 dX12_count_9 rfl ?_
  refine xi_aload_n 2 dX12_count_10 rfl ?_
  refine xi_iload_n 0 dX12_count_11 rfl ?_
  refine xi_callV (as := [.int 0]) (rest := [.int 0]) dX12_count_12 (fm_isNet G 0) mkX12_isNet w_1104 ws_35 w_1102 rfl rfl rfl rfl rfl (Nat.le_of_ble_eq_true rfl) (Nat.le_of_ble_eq_true rfl) (Nat.le_of_ble_eq_true rfl) (Nat.le_of_ble_eq_true rfl) (Nat.le_of_ble_eq_true rfl) ?_
  intro v M2 hq
  obtain ⟨rfl, rfl⟩ := hq
  show xW _ _ _ _ 15 _ [.int 0, .int 0] (MX 0 (fun _ => 0) rd0 mo0 (fun _ => 0) (fun _ => 0) (fun _ => 0)) _ _
  refine xi_if_eq_t (tgt := 24) dX12_count_15 (by decide) (by decide) ?_
  refine xi_iconst (v := 0) dX12_count_24 (by decide) ?_
  refine xi_ior (v := 0) dX12_count_25 (by decide) ?_
  refine xi_istore_n (lv' := [(2, .int 0), (3, .int 0), (0, .ref 149), (1, .int 3)]) dX12_count_26 (by decide) rfl ?_
  refine xi_iinc (v := 1) (lv' := [(3, .int 1), (2, .int 0), (0, .ref 149), (1, .int 3)]) 1 dX12_count_27 rfl (by decide) (by decide) rfl ?_
  refine xi_goto (tgt := 4) dX12_count_30 (by decide) ?_
  refine xi_iload_n 0 dX12_count_4 rfl ?_
  refine xi_iconst (v := 3) dX12_count_5 (by decide) ?_
  refine xi_icmp_ge_f (tgt := 33) dX12_count_6 (by decide) (by decide) ?_
  refine xi_iload_n 1 dX12_count_9 rfl ?_
  refine xi_aload_n 2 dX12_count_10 rfl ?_
  refine xi_iload_n 0 dX12_count_11 rfl ?_
  refine xi_callV (as := [.int 1]) (rest := [.int 0]) dX12_count_12 (fm_isNet G 1) mkX12_isNet w_1104 ws_35 w_1102 rfl rfl rfl rfl rfl (Nat.le_of_ble_eq_true rfl) (Nat.le_of_ble_eq_true rfl) (Nat.le_of_ble_eq_true rfl) (Nat.le_of_ble_eq_true rfl) (Nat.le_of_ble_eq_true rfl) ?_
  intro v M2 hq
  obtain ⟨rfl, rfl⟩ := hq
  show xW _ _ _ _ 15 _ [.int 0, .int 0] (MX 0 (fun _ => 0) rd0 mo0 (fun _ => 0) (fun _ => 0) (fun _ => 0)) _ _
  refine xi_if_eq_t (tgt := 24) dX12_count_15 (by decide) (by decide) ?_
  refine xi_iconst (v := 0) dX12_count_24 (by decide) ?_
  refine xi_ior (v := 0) dX12_count_25 (by decide) ?_
  refine xi_istore_n (lv' := [(2, .int 0), (3, .int 1), (0, .ref 149), (1, .int 3)]) dX12_count_26 (by decide) rfl ?_
  refine xi_iinc (v := 2) (lv' := [(3, .int 2), (2, .int 0), (0, .ref 149), (1, .int 3)]) 1 dX12_count_27 rfl (by decide) (by decide) rfl ?_
  refine xi_goto (tgt := 4) dX12_count_30 (by decide) ?_
  refine xi_iload_n 0 dX12_count_4 rfl ?_
  refine xi_iconst (v := 3) dX12_count_5 (by decide) ?_
  refine xi_icmp_ge_f (tgt := 33) dX12_count_6 (by decide) (by decide) ?_
  refine xi_iload_n 1 dX12_count_9 rfl ?_
  refine xi_aload_n 2 dX12_count_10 rfl ?_
  refine xi_iload_n 0 dX12_count_11 rfl ?_
  refine xi_callV (as := [.int 2]) (rest := [.int 0]) dX12_count_12 (fm_isNet G 2) mkX12_isNet w_1104 ws_35 w_1102 rfl rfl rfl rfl rfl (Nat.le_of_ble_eq_true rfl) (Nat.le_of_ble_eq_true rfl) (Nat.le_of_ble_eq_true rfl) (Nat.le_of_ble_eq_true rfl) (Nat.le_of_ble_eq_true rfl) ?_
  intro v M2 hq
  obtain ⟨rfl, rfl⟩ := hq
  show xW _ _ _ _ 15 _ [.int 0, .int 0] (MX 0 (fun _ => 0) rd0 mo0 (fun _ => 0) (fun _ => 0) (fun _ => 0)) _ _
  refine xi_if_eq_t (tgt := 24) dX12_count_15 (by decide) (by decide) ?_
  refine xi_iconst (v := 0) dX12_count_24 (by decide) ?_
  refine xi_ior (v := 0) dX12_count_25 (by decide) ?_
  refine xi_istore_n (lv' := [(2, .int 0), (3, .int 2), (0, .ref 149), (1, .int 3)]) dX12_count_26 (by decide) rfl ?_
  refine xi_iinc (v := 3) (lv' := [(3, .int 3), (2, .int 0), (0, .ref 149), (1, .int 3)]) 1 dX12_count_27 rfl (by decide) (by decide) rfl ?_
  refine xi_goto (tgt := 4) dX12_count_30 (by decide) ?_
  refine xi_iload_n 0 dX12_count_4 rfl ?_
  refine xi_iconst (v := 3) dX12_count_5 (by decide) ?_
  refine xi_icmp_ge_t (tgt := 33) dX12_count_6 (by decide) (by decide) ?_
  refine xi_iload_n 3 dX12_count_33 rfl ?_
  refine xi_tableIn (off := 42) (tgt := 76) dX12_count_34 (by decide) (by decide) (by decide) (by decide) ?_
  refine xi_aload_n 2 dX12_count_76 rfl ?_
  refine xi_get (f := 25) dX12_count_77 rfl rfl ok_9 (by decide) w_1033 rfl ?_
  exact xi_iret dX12_count_80 rfl rfl (Nat.le_of_ble_eq_true rfl) (Nat.le_of_ble_eq_true rfl) ⟨rfl, rfl⟩
set_option maxHeartbeats 4000000 in
set_option maxRecDepth 100000 in
theorem fm_count_out (G : xG) (a1 : Int32) (h : a1.toInt < 0 ∨ 3 < a1.toInt) : xC G mX12_count 5 0 0 [.ref 149, .int a1] (MX 0 (fun _ => 0) rd0 mo0 (fun _ => 0) (fun _ => 0) (fun _ => 0)) (fun v M2 => v = some (.int (-1)) ∧ M2 = (MX 0 (fun _ => 0) rd0 mo0 (fun _ => 0) (fun _ => 0) (fun _ => 0))) := by
  refine xC.of (by decide) (Nat.le_of_ble_eq_true rfl) ?_
  show xW _ _ _ _ 0 [(0, .ref 149), (1, .int a1)] [] _ 0 0
  refine xi_iconst (v := 0) dX12_count_0 (by decide) ?_
  refine xi_istore_n (lv' := [(2, .int 0), (0, .ref 149), (1, .int a1)]) dX12_count_1 (by decide) rfl ?_
  refine xi_iconst (v := 0) dX12_count_2 (by decide) ?_
  refine xi_istore_n (lv' := [(3, .int 0), (2, .int 0), (0, .ref 149), (1, .int a1)]) dX12_count_3 (by decide) rfl ?_
  refine xi_iload_n 0 dX12_count_4 rfl ?_
  refine xi_iconst (v := 3) dX12_count_5 (by decide) ?_
  refine xi_icmp_ge_f (tgt := 33) dX12_count_6 (by decide) (by decide) ?_
  refine xi_iload_n 1 dX12_count_9 rfl ?_
  refine xi_aload_n 2 dX12_count_10 rfl ?_
  refine xi_iload_n 0 dX12_count_11 rfl ?_
  refine xi_callV (as := [.int 0]) (rest := [.int 0]) dX12_count_12 (fm_isNet G 0) mkX12_isNet w_1104 ws_35 w_1102 rfl rfl rfl rfl rfl (Nat.le_of_ble_eq_true rfl) (Nat.le_of_ble_eq_true rfl) (Nat.le_of_ble_eq_true rfl) (Nat.le_of_ble_eq_true rfl) (Nat.le_of_ble_eq_true rfl) ?_
  intro v M2 hq
  obtain ⟨rfl, rfl⟩ := hq
  show xW _ _ _ _ 15 _ [.int 0, .int 0] (MX 0 (fun _ => 0) rd0 mo0 (fun _ => 0) (fun _ => 0) (fun _ => 0)) _ _
  refine xi_if_eq_t (tgt := 24) dX12_count_15 (by decide) (by decide) ?_
  refine xi_iconst (v := 0) dX12_count_24 (by decide) ?_
  refine xi_ior (v := 0) dX12_count_25 (by decide) ?_
  refine xi_istore_n (lv' := [(2, .int 0), (3, .int 0), (0, .ref 149), (1, .int a1)]) dX12_count_26 (by decide) rfl ?_
  refine xi_iinc (v := 1) (lv' := [(3, .int 1), (2, .int 0), (0, .ref 149), (1, .int a1)]) 1 dX12_count_27 rfl (by decide) (by decide) rfl ?_
  refine xi_goto (tgt := 4) dX12_count_30 (by decide) ?_
  refine xi_iload_n 0 dX12_count_4 rfl ?_
  refine xi_iconst (v := 3) dX12_count_5 (by decide) ?_
  refine xi_icmp_ge_f (tgt := 33) dX12_count_6 (by decide) (by decide) ?_
  refine xi_iload_n 1 dX12_count_9 rfl ?_
  refine xi_aload_n 2 dX12_count_10 rfl ?_
  refine xi_iload_n 0 dX12_count_11 rfl ?_
  refine xi_callV (as := [.int 1]) (rest := [.int 0]) dX12_count_12 (fm_isNet G 1) mkX12_isNet w_1104 ws_35 w_1102 rfl rfl rfl rfl rfl (Nat.le_of_ble_eq_true rfl) (Nat.le_of_ble_eq_true rfl) (Nat.le_of_ble_eq_true rfl) (Nat.le_of_ble_eq_true rfl) (Nat.le_of_ble_eq_true rfl) ?_
  intro v M2 hq
  obtain ⟨rfl, rfl⟩ := hq
  show xW _ _ _ _ 15 _ [.int 0, .int 0] (MX 0 (fun _ => 0) rd0 mo0 (fun _ => 0) (fun _ => 0) (fun _ => 0)) _ _
  refine xi_if_eq_t (tgt := 24) dX12_count_15 (by decide) (by decide) ?_
  refine xi_iconst (v := 0) dX12_count_24 (by decide) ?_
  refine xi_ior (v := 0) dX12_count_25 (by decide) ?_
  refine xi_istore_n (lv' := [(2, .int 0), (3, .int 1), (0, .ref 149), (1, .int a1)]) dX12_count_26 (by decide) rfl ?_
  refine xi_iinc (v := 2) (lv' := [(3, .int 2), (2, .int 0), (0, .ref 149), (1, .int a1)]) 1 dX12_count_27 rfl (by decide) (by decide) rfl ?_
  refine xi_goto (tgt := 4) dX12_count_30 (by decide) ?_
  refine xi_iload_n 0 dX12_count_4 rfl ?_
  refine xi_iconst (v := 3) dX12_count_5 (by decide) ?_
  refine xi_icmp_ge_f (tgt := 33) dX12_count_6 (by decide) (by decide) ?_
  refine xi_iload_n 1 dX12_count_9 rfl ?_
  refine xi_aload_n 2 dX12_count_10 rfl ?_
  refine xi_iload_n 0 dX12_count_11 rfl ?_
  refine xi_callV (as := [.int 2]) (rest := [.int 0]) dX12_count_12 (fm_isNet G 2) mkX12_isNet w_1104 ws_35 w_1102 rfl rfl rfl rfl rfl (Nat.le_of_ble_eq_true rfl) (Nat.le_of_ble_eq_true rfl) (Nat.le_of_ble_eq_true rfl) (Nat.le_of_ble_eq_true rfl) (Nat.le_of_ble_eq_true rfl) ?_
  intro v M2 hq
  obtain ⟨rfl, rfl⟩ := hq
  show xW _ _ _ _ 15 _ [.int 0, .int 0] (MX 0 (fun _ => 0) rd0 mo0 (fun _ => 0) (fun _ => 0) (fun _ => 0)) _ _
  refine xi_if_eq_t (tgt := 24) dX12_count_15 (by decide) (by decide) ?_
  refine xi_iconst (v := 0) dX12_count_24 (by decide) ?_
  refine xi_ior (v := 0) dX12_count_25 (by decide) ?_
  refine xi_istore_n (lv' := [(2, .int 0), (3, .int 2), (0, .ref 149), (1, .int a1)]) dX12_count_26 (by decide) rfl ?_
  refine xi_iinc (v := 3) (lv' := [(3, .int 3), (2, .int 0), (0, .ref 149), (1, .int a1)]) 1 dX12_count_27 rfl (by decide) (by decide) rfl ?_
  refine xi_goto (tgt := 4) dX12_count_30 (by decide) ?_
  refine xi_iload_n 0 dX12_count_4 rfl ?_
  refine xi_iconst (v := 3) dX12_count_5 (by decide) ?_
  refine xi_icmp_ge_t (tgt := 33) dX12_count_6 (by decide) (by decide) ?_
  refine xi_iload_n 3 dX12_count_33 rfl ?_
  refine xi_tableOut (tgt := 81) dX12_count_34 h (by decide) ?_
  refine xi_iconst (v := (-1)) dX12_count_81 (by decide) ?_
  exact xi_iret dX12_count_82 rfl rfl (Nat.le_of_ble_eq_true rfl) (Nat.le_of_ble_eq_true rfl) ⟨rfl, rfl⟩
set_option maxHeartbeats 4000000 in
set_option maxRecDepth 100000 in
theorem au_17 (G : xG) : xC G mX12_in 0 0 0 [.long 0, .long 0, .long 0] (MX 0 (fun _ => 0) rd0 mo0 (fun _ => 0) (fun _ => 0) (fun _ => 0)) (fun v M2 => v = some (.int 1) ∧ M2 = (MX 0 (fun _ => 0) rd0 mo0 (fun _ => 0) (fun _ => 0) (fun _ => 0))) := by
  refine xC.of (by decide) (Nat.le_of_ble_eq_true rfl) ?_
  show xW _ _ _ _ 0 [(0, .long 0), (2, .long 0), (4, .long 0)] [] _ 0 0
  refine xi_lload_n 0 dX12_in_0 rfl ?_
  refine xi_lload_n 1 dX12_in_1 rfl ?_
  refine xi_lcmp (v := 0) dX12_in_2 (by decide) ?_
  refine xi_if_lt_f (tgt := 17) dX12_in_3 (by decide) (by decide) ?_
  refine xi_lload_n 0 dX12_in_6 rfl ?_
  refine xi_lload 2 dX12_in_7 rfl ?_
  refine xi_lcmp (v := 0) dX12_in_9 (by decide) ?_
  refine xi_if_gt_f (tgt := 17) dX12_in_10 (by decide) (by decide) ?_
  refine xi_iconst (v := 1) dX12_in_13 (by decide) ?_
  refine xi_goto (tgt := 18) dX12_in_14 (by decide) ?_
  exact xi_iret dX12_in_18 rfl (by decide) (Nat.le_of_ble_eq_true rfl) (Nat.le_of_ble_eq_true rfl) ⟨rfl, rfl⟩
set_option maxHeartbeats 4000000 in
set_option maxRecDepth 100000 in
theorem fm_end_0 (G : xG) : xC G mX12_end 5 0 0 [.ref 149, .int 0] (MX 0 (fun _ => 0) rd0 mo0 (fun _ => 0) (fun _ => 0) (fun _ => 0)) (fun v M2 => v = some (.int 0) ∧ M2 = (MX 0 (fun _ => 0) rd0 mo0 (fun _ => 0) (fun _ => 0) (fun _ => 0))) := by
  refine xC.of (by decide) (Nat.le_of_ble_eq_true rfl) ?_
  show xW _ _ _ _ 0 [(0, .ref 149), (1, .int 0)] [] _ 0 0
  refine xi_iload_n 1 dX12_end_0 rfl ?_
  refine xi_i2l (v := 0) dX12_end_1 (by decide) ?_
  refine xi_lconst (v := 0) dX12_end_2 (by decide) ?_
  refine xi_aload_n 0 dX12_end_3 rfl ?_
  refine xi_get (f := 5) dX12_end_4 rfl rfl ok_9 (by decide) w_1013 rfl ?_
  refine xi_i2l (v := 0) dX12_end_7 (by decide) ?_
  refine xi_callS (as := [.long 0, .long 0, .long 0]) (rest := []) dX12_end_8 (au_17 G) mkX12_in w_1100 w_1099 rfl rfl (Nat.le_of_ble_eq_true rfl) (Nat.le_of_ble_eq_true rfl) (Nat.le_of_ble_eq_true rfl) (Nat.le_of_ble_eq_true rfl) (Nat.le_of_ble_eq_true rfl) ?_
  intro v M2 hq
  obtain ⟨rfl, rfl⟩ := hq
  show xW _ _ _ _ 11 _ [.int 1] (MX 0 (fun _ => 0) rd0 mo0 (fun _ => 0) (fun _ => 0) (fun _ => 0)) _ _
  refine xi_if_ne_t (tgt := 16) dX12_end_11 (by decide) (by decide) ?_
  refine xi_aload_n 0 dX12_end_16 rfl ?_
  refine xi_iload_n 1 dX12_end_17 rfl ?_
  refine xi_put (f := 5) (ty := .int) (M' := (MX 0 (fun _ => 0) rd0 mo0 (fun _ => 0) (fun _ => 0) (fun _ => 0))) dX12_end_18 rfl rfl ok_9 (by decide) w_1013 rfl pf_I (fun _ h => by cases h) rfl rfl (Nat.le_of_ble_eq_true rfl) rfl ?_
  refine xi_iload_n 1 dX12_end_21 rfl ?_
  exact xi_iret dX12_end_22 rfl rfl (Nat.le_of_ble_eq_true rfl) (Nat.le_of_ble_eq_true rfl) ⟨rfl, rfl⟩
set_option maxHeartbeats 4000000 in
set_option maxRecDepth 100000 in
theorem fm_end_out (G : xG) (a1 : Int32) (h : a1 < 0 ∨ 0 < a1) : xC G mX12_end 5 0 0 [.ref 149, .int a1] (MX 0 (fun _ => 0) rd0 mo0 (fun _ => 0) (fun _ => 0) (fun _ => 0)) (fun v M2 => v = some (.int (-1)) ∧ M2 = (MX 0 (fun _ => 0) rd0 mo0 (fun _ => 0) (fun _ => 0) (fun _ => 0))) := by
  refine xC.of (by decide) (Nat.le_of_ble_eq_true rfl) ?_
  show xW _ _ _ _ 0 [(0, .ref 149), (1, .int a1)] [] _ 0 0
  refine xi_iload_n 1 dX12_end_0 rfl ?_
  refine xi_i2l dX12_end_1 rfl ?_
  refine xi_lconst (v := 0) dX12_end_2 (by decide) ?_
  refine xi_aload_n 0 dX12_end_3 rfl ?_
  refine xi_get (f := 5) dX12_end_4 rfl rfl ok_9 (by decide) w_1013 rfl ?_
  refine xi_i2l (v := 0) dX12_end_7 (by decide) ?_
  refine xi_callS (as := [.long a1.toInt64, .long 0, .long 0]) (rest := []) dX12_end_8 (fm_in_e G _ (out1 h)) mkX12_in w_1100 w_1099 rfl rfl (Nat.le_of_ble_eq_true rfl) (Nat.le_of_ble_eq_true rfl) (Nat.le_of_ble_eq_true rfl) (Nat.le_of_ble_eq_true rfl) (Nat.le_of_ble_eq_true rfl) ?_
  intro v M2 hq
  obtain ⟨rfl, rfl⟩ := hq
  show xW _ _ _ _ 11 _ [.int 0] (MX 0 (fun _ => 0) rd0 mo0 (fun _ => 0) (fun _ => 0) (fun _ => 0)) _ _
  refine xi_if_ne_f (tgt := 16) dX12_end_11 (by decide) (by decide) ?_
  refine xi_iconst (v := (-1)) dX12_end_14 (by decide) ?_
  exact xi_iret dX12_end_15 rfl rfl (Nat.le_of_ble_eq_true rfl) (Nat.le_of_ble_eq_true rfl) ⟨rfl, rfl⟩
set_option maxHeartbeats 4000000 in
set_option maxRecDepth 100000 in
theorem fm_feed (G : xG) (f : Nat → Int32) (a1 a2 a3 a4 a5 : Int32) : xC G mX12_feed 5 1 5 [.ref 149, .int a1, .int a2, .int a3, .int a4, .int a5] (MX 20 f rd0 mo0 (fun _ => 0) (fun _ => 0) (fun _ => 0)) (fun v M2 => v = some (.int 20) ∧ True) := by
  refine xC.of (by decide) (Nat.le_of_ble_eq_true rfl) ?_
  show xW _ _ _ _ 0 [(0, .ref 149), (1, .int a1), (2, .int a2), (3, .int a3), (4, .int a4), (5, .int a5)] [] _ 0 0
  refine xi_aload_n 0 dX12_feed_0 rfl ?_
  refine xi_get (f := 5) dX12_feed_1 rfl rfl ok_9 (by decide) w_1013 rfl ?_
  refine xi_sipush (v := 380) dX12_feed_4 (by decide) ?_
  refine xi_icmp_le_t (tgt := 12) dX12_feed_7 (by decide) (by decide) ?_
  refine xi_iconst (v := 5) dX12_feed_12 (by decide) ?_
  refine xi_newI (i := 163) (N := 5) (M' := (MX 20 f rd0 mo0 (fun _ => 0) (fun _ => 0) (fun _ => 0) ++ [xz 5])) dX12_feed_13 w_95 (by decide) (by decide) (Nat.le_of_ble_eq_true rfl) rfl rfl (Nat.le_of_ble_eq_true rfl) (Nat.le_of_ble_eq_true rfl) ?_
  refine xi_dup dX12_feed_15 rfl ?_
  refine xi_iconst (v := 0) dX12_feed_16 (by decide) ?_
  refine xi_iload_n 1 dX12_feed_17 rfl ?_
  refine xi_iastore (M' := (MX 20 f rd0 mo0 (fun _ => 0) (fun _ => 0) (fun _ => 0) ++ [.inl (0, 5, .inl (upd (fun _ => 0) 0 a1))])) dX12_feed_18 rfl (by unfold vp_in; decide) rfl ?_
  refine xi_dup dX12_feed_19 rfl ?_
  refine xi_iconst (v := 1) dX12_feed_20 (by decide) ?_
  refine xi_iload_n 2 dX12_feed_21 rfl ?_
  refine xi_iastore (M' := (MX 20 f rd0 mo0 (fun _ => 0) (fun _ => 0) (fun _ => 0) ++ [.inl (0, 5, .inl (upd (upd (fun _ => 0) 0 a1) 1 a2))])) dX12_feed_22 rfl (by unfold vp_in; decide) rfl ?_
  refine xi_dup dX12_feed_23 rfl ?_
  refine xi_iconst (v := 2) dX12_feed_24 (by decide) ?_
  refine xi_iload_n 3 dX12_feed_25 rfl ?_
  refine xi_iastore (M' := (MX 20 f rd0 mo0 (fun _ => 0) (fun _ => 0) (fun _ => 0) ++ [.inl (0, 5, .inl (upd (upd (upd (fun _ => 0) 0 a1) 1 a2) 2 a3))])) dX12_feed_26 rfl (by unfold vp_in; decide) rfl ?_
  refine xi_dup dX12_feed_27 rfl ?_
  refine xi_iconst (v := 3) dX12_feed_28 (by decide) ?_
  refine xi_iload 4 dX12_feed_29 rfl ?_
  refine xi_iastore (M' := (MX 20 f rd0 mo0 (fun _ => 0) (fun _ => 0) (fun _ => 0) ++ [.inl (0, 5, .inl (upd (upd (upd (upd (fun _ => 0) 0 a1) 1 a2) 2 a3) 3 a4))])) dX12_feed_31 rfl (by unfold vp_in; decide) rfl ?_
  refine xi_dup dX12_feed_32 rfl ?_
  refine xi_iconst (v := 4) dX12_feed_33 (by decide) ?_
  refine xi_iload 5 dX12_feed_34 rfl ?_
  refine xi_iastore (M' := (MX 20 f rd0 mo0 (fun _ => 0) (fun _ => 0) (fun _ => 0) ++ [.inl (0, 5, .inl (upd (upd (upd (upd (upd (fun _ => 0) 0 a1) 1 a2) 2 a3) 3 a4) 4 a5))])) dX12_feed_36 rfl (by unfold vp_in; decide) rfl ?_
  refine xi_astore (lv' := [(6, .ref 163), (0, .ref 149), (1, .int a1), (2, .int a2), (3, .int a3), (4, .int a4), (5, .int a5)]) dX12_feed_37 (by decide) rfl ?_
  refine xi_iconst (v := 0) dX12_feed_39 (by decide) ?_
  refine xi_istore (lv' := [(7, .int 0), (6, .ref 163), (0, .ref 149), (1, .int a1), (2, .int a2), (3, .int a3), (4, .int a4), (5, .int a5)]) dX12_feed_40 (by decide) rfl ?_
  refine xi_iload 0 dX12_feed_42 rfl ?_
  refine xi_bipush (v := 20) dX12_feed_44 (by decide) ?_
  refine xi_icmp_ge_f (tgt := 89) dX12_feed_46 (by decide) (by decide) ?_
  refine xi_aload_n 2 dX12_feed_49 rfl ?_
  refine xi_get (f := 4) dX12_feed_50 rfl rfl ok_9 (by decide) w_1012 rfl ?_
  refine xi_aload_n 2 dX12_feed_53 rfl ?_
  refine xi_get (f := 5) dX12_feed_54 rfl rfl ok_9 (by decide) w_1013 rfl ?_
  refine xi_iload 0 dX12_feed_57 rfl ?_
  refine xi_iadd (v := 0) dX12_feed_59 (by decide) ?_
  refine xi_aload 1 dX12_feed_60 rfl ?_
  refine xi_iload 0 dX12_feed_62 rfl ?_
  refine xi_iconst (v := 4) dX12_feed_64 (by decide) ?_
  refine xi_idiv (v := 0) dX12_feed_65 (by decide) (by decide) ?_
  refine xi_iaload (v := a1) dX12_feed_66 rfl (by unfold vp_in; decide) rfl ?_
  refine xi_bipush (v := 24) dX12_feed_67 (by decide) ?_
  refine xi_bipush (v := 8) dX12_feed_69 (by decide) ?_
  refine xi_iload 0 dX12_feed_71 rfl ?_
  refine xi_iconst (v := 4) dX12_feed_73 (by decide) ?_
  refine xi_irem (v := 0) dX12_feed_74 (by decide) (by decide) ?_
  refine xi_imul (v := 0) dX12_feed_75 (by decide) ?_
  refine xi_isub (v := 24) dX12_feed_76 (by decide) ?_
  refine xi_iushr dX12_feed_77 rfl ?_
  refine xi_sipush (v := 255) dX12_feed_78 (by decide) ?_
  refine xi_iand dX12_feed_81 rfl ?_
  refine xi_iastore (M' := (MX 20 f rd0 mo0 (fun _ => 0) (fun _ => 0) (upd (fun _ => 0) 0 (((a1.toUInt32 >>> (((24 : Int32)).toUInt32 &&& Int32.toUInt32 31)).toInt32) &&& 255)) ++ [.inl (0, 5, .inl (upd (upd (upd (upd (upd (fun _ => 0) 0 a1) 1 a2) 2 a3) 3 a4) 4 a5))])) dX12_feed_82 rfl (by unfold vp_in; decide) rfl ?_
  refine xi_iinc (v := 1) (lv' := [(7, .int 1), (6, .ref 163), (0, .ref 149), (1, .int a1), (2, .int a2), (3, .int a3), (4, .int a4), (5, .int a5)]) 0 dX12_feed_83 rfl (by decide) (by decide) rfl ?_
  refine xi_goto (tgt := 42) dX12_feed_86 (by decide) ?_
  refine xi_iload 0 dX12_feed_42 rfl ?_
  refine xi_bipush (v := 20) dX12_feed_44 (by decide) ?_
  refine xi_icmp_ge_f (tgt := 89) dX12_feed_46 (by decide) (by decide) ?_
  refine xi_aload_n 2 dX12_feed_49 rfl ?_
  refine xi_get (f := 4) dX12_feed_50 rfl rfl ok_9 (by decide) w_1012 rfl ?_
  refine xi_aload_n 2 dX12_feed_53 rfl ?_
  refine xi_get (f := 5) dX12_feed_54 rfl rfl ok_9 (by decide) w_1013 rfl ?_
  refine xi_iload 0 dX12_feed_57 rfl ?_
  refine xi_iadd (v := 1) dX12_feed_59 (by decide) ?_
  refine xi_aload 1 dX12_feed_60 rfl ?_
  refine xi_iload 0 dX12_feed_62 rfl ?_
  refine xi_iconst (v := 4) dX12_feed_64 (by decide) ?_
  refine xi_idiv (v := 0) dX12_feed_65 (by decide) (by decide) ?_
  refine xi_iaload (v := a1) dX12_feed_66 rfl (by unfold vp_in; decide) rfl ?_
  refine xi_bipush (v := 24) dX12_feed_67 (by decide) ?_
  refine xi_bipush (v := 8) dX12_feed_69 (by decide) ?_
  refine xi_iload 0 dX12_feed_71 rfl ?_
  refine xi_iconst (v := 4) dX12_feed_73 (by decide) ?_
  refine xi_irem (v := 1) dX12_feed_74 (by decide) (by decide) ?_
  refine xi_imul (v := 8) dX12_feed_75 (by decide) ?_
  refine xi_isub (v := 16) dX12_feed_76 (by decide) ?_
  refine xi_iushr dX12_feed_77 rfl ?_
  refine xi_sipush (v := 255) dX12_feed_78 (by decide) ?_
  refine xi_iand dX12_feed_81 rfl ?_
  refine xi_iastore (M' := (MX 20 f rd0 mo0 (fun _ => 0) (fun _ => 0) (upd (upd (fun _ => 0) 0 (((a1.toUInt32 >>> (((24 : Int32)).toUInt32 &&& Int32.toUInt32 31)).toInt32) &&& 255)) 1 (((a1.toUInt32 >>> (((16 : Int32)).toUInt32 &&& Int32.toUInt32 31)).toInt32) &&& 255)) ++ [.inl (0, 5, .inl (upd (upd (upd (upd (upd (fun _ => 0) 0 a1) 1 a2) 2 a3) 3 a4) 4 a5))])) dX12_feed_82 rfl (by unfold vp_in; decide) rfl ?_
  refine xi_iinc (v := 2) (lv' := [(7, .int 2), (6, .ref 163), (0, .ref 149), (1, .int a1), (2, .int a2), (3, .int a3), (4, .int a4), (5, .int a5)]) 0 dX12_feed_83 rfl (by decide) (by decide) rfl ?_
  refine xi_goto (tgt := 42) dX12_feed_86 (by decide) ?_
  refine xi_iload 0 dX12_feed_42 rfl ?_
  refine xi_bipush (v := 20) dX12_feed_44 (by decide) ?_
  refine xi_icmp_ge_f (tgt := 89) dX12_feed_46 (by decide) (by decide) ?_
  refine xi_aload_n 2 dX12_feed_49 rfl ?_
  refine xi_get (f := 4) dX12_feed_50 rfl rfl ok_9 (by decide) w_1012 rfl ?_
  refine xi_aload_n 2 dX12_feed_53 rfl ?_
  refine xi_get (f := 5) dX12_feed_54 rfl rfl ok_9 (by decide) w_1013 rfl ?_
  refine xi_iload 0 dX12_feed_57 rfl ?_
  refine xi_iadd (v := 2) dX12_feed_59 (by decide) ?_
  refine xi_aload 1 dX12_feed_60 rfl ?_
  refine xi_iload 0 dX12_feed_62 rfl ?_
  refine xi_iconst (v := 4) dX12_feed_64 (by decide) ?_
  refine xi_idiv (v := 0) dX12_feed_65 (by decide) (by decide) ?_
  refine xi_iaload (v := a1) dX12_feed_66 rfl (by unfold vp_in; decide) rfl ?_
  refine xi_bipush (v := 24) dX12_feed_67 (by decide) ?_
  refine xi_bipush (v := 8) dX12_feed_69 (by decide) ?_
  refine xi_iload 0 dX12_feed_71 rfl ?_
  refine xi_iconst (v := 4) dX12_feed_73 (by decide) ?_
  refine xi_irem (v := 2) dX12_feed_74 (by decide) (by decide) ?_
  refine xi_imul (v := 16) dX12_feed_75 (by decide) ?_
  refine xi_isub (v := 8) dX12_feed_76 (by decide) ?_
  refine xi_iushr dX12_feed_77 rfl ?_
  refine xi_sipush (v := 255) dX12_feed_78 (by decide) ?_
  refine xi_iand dX12_feed_81 rfl ?_
  refine xi_iastore (M' := (MX 20 f rd0 mo0 (fun _ => 0) (fun _ => 0) (upd (upd (upd (fun _ => 0) 0 (((a1.toUInt32 >>> (((24 : Int32)).toUInt32 &&& Int32.toUInt32 31)).toInt32) &&& 255)) 1 (((a1.toUInt32 >>> (((16 : Int32)).toUInt32 &&& Int32.toUInt32 31)).toInt32) &&& 255)) 2 (((a1.toUInt32 >>> (((8 : Int32)).toUInt32 &&& Int32.toUInt32 31)).toInt32) &&& 255)) ++ [.inl (0, 5, .inl (upd (upd (upd (upd (upd (fun _ => 0) 0 a1) 1 a2) 2 a3) 3 a4) 4 a5))])) dX12_feed_82 rfl (by unfold vp_in; decide) rfl ?_
  refine xi_iinc (v := 3) (lv' := [(7, .int 3), (6, .ref 163), (0, .ref 149), (1, .int a1), (2, .int a2), (3, .int a3), (4, .int a4), (5, .int a5)]) 0 dX12_feed_83 rfl (by decide) (by decide) rfl ?_
  refine xi_goto (tgt := 42) dX12_feed_86 (by decide) ?_
  refine xi_iload 0 dX12_feed_42 rfl ?_
  refine xi_bipush (v := 20) dX12_feed_44 (by decide) ?_
  refine xi_icmp_ge_f (tgt := 89) dX12_feed_46 (by decide) (by decide) ?_
  refine xi_aload_n 2 dX12_feed_49 rfl ?_
  refine xi_get (f := 4) dX12_feed_50 rfl rfl ok_9 (by decide) w_1012 rfl ?_
  refine xi_aload_n 2 dX12_feed_53 rfl ?_
  refine xi_get (f := 5) dX12_feed_54 rfl rfl ok_9 (by decide) w_1013 rfl ?_
  refine xi_iload 0 dX12_feed_57 rfl ?_
  refine xi_iadd (v := 3) dX12_feed_59 (by decide) ?_
  refine xi_aload 1 dX12_feed_60 rfl ?_
  refine xi_iload 0 dX12_feed_62 rfl ?_
  refine xi_iconst (v := 4) dX12_feed_64 (by decide) ?_
  refine xi_idiv (v := 0) dX12_feed_65 (by decide) (by decide) ?_
  refine xi_iaload (v := a1) dX12_feed_66 rfl (by unfold vp_in; decide) rfl ?_
  refine xi_bipush (v := 24) dX12_feed_67 (by decide) ?_
  refine xi_bipush (v := 8) dX12_feed_69 (by decide) ?_
  refine xi_iload 0 dX12_feed_71 rfl ?_
  refine xi_iconst (v := 4) dX12_feed_73 (by decide) ?_
  refine xi_irem (v := 3) dX12_feed_74 (by decide) (by decide) ?_
  refine xi_imul (v := 24) dX12_feed_75 (by decide) ?_
  refine xi_isub (v := 0) dX12_feed_76 (by decide) ?_
  refine xi_iushr dX12_feed_77 rfl ?_
  refine xi_sipush (v := 255) dX12_feed_78 (by decide) ?_
  refine xi_iand dX12_feed_81 rfl ?_
  refine xi_iastore (M' := (MX 20 f rd0 mo0 (fun _ => 0) (fun _ => 0) (upd (upd (upd (upd (fun _ => 0) 0 (((a1.toUInt32 >>> (((24 : Int32)).toUInt32 &&& Int32.toUInt32 31)).toInt32) &&& 255)) 1 (((a1.toUInt32 >>> (((16 : Int32)).toUInt32 &&& Int32.toUInt32 31)).toInt32) &&& 255)) 2 (((a1.toUInt32 >>> (((8 : Int32)).toUInt32 &&& Int32.toUInt32 31)).toInt32) &&& 255)) 3 (((a1.toUInt32 >>> (((0 : Int32)).toUInt32 &&& Int32.toUInt32 31)).toInt32) &&& 255)) ++ [.inl (0, 5, .inl (upd (upd (upd (upd (upd (fun _ => 0) 0 a1) 1 a2) 2 a3) 3 a4) 4 a5))])) dX12_feed_82 rfl (by unfold vp_in; decide) rfl ?_
  refine xi_iinc (v := 4) (lv' := [(7, .int 4), (6, .ref 163), (0, .ref 149), (1, .int a1), (2, .int a2), (3, .int a3), (4, .int a4), (5, .int a5)]) 0 dX12_feed_83 rfl (by decide) (by decide) rfl ?_
  refine xi_goto (tgt := 42) dX12_feed_86 (by decide) ?_
  refine xi_iload 0 dX12_feed_42 rfl ?_
  refine xi_bipush (v := 20) dX12_feed_44 (by decide) ?_
  refine xi_icmp_ge_f (tgt := 89) dX12_feed_46 (by decide) (by decide) ?_
  refine xi_aload_n 2 dX12_feed_49 rfl ?_
  refine xi_get (f := 4) dX12_feed_50 rfl rfl ok_9 (by decide) w_1012 rfl ?_
  refine xi_aload_n 2 dX12_feed_53 rfl ?_
  refine xi_get (f := 5) dX12_feed_54 rfl rfl ok_9 (by decide) w_1013 rfl ?_
  refine xi_iload 0 dX12_feed_57 rfl ?_
  refine xi_iadd (v := 4) dX12_feed_59 (by decide) ?_
  refine xi_aload 1 dX12_feed_60 rfl ?_
  refine xi_iload 0 dX12_feed_62 rfl ?_
  refine xi_iconst (v := 4) dX12_feed_64 (by decide) ?_
  refine xi_idiv (v := 1) dX12_feed_65 (by decide) (by decide) ?_
  refine xi_iaload (v := a2) dX12_feed_66 rfl (by unfold vp_in; decide) rfl ?_
  refine xi_bipush (v := 24) dX12_feed_67 (by decide) ?_
  refine xi_bipush (v := 8) dX12_feed_69 (by decide) ?_
  refine xi_iload 0 dX12_feed_71 rfl ?_
  refine xi_iconst (v := 4) dX12_feed_73 (by decide) ?_
  refine xi_irem (v := 0) dX12_feed_74 (by decide) (by decide) ?_
  refine xi_imul (v := 0) dX12_feed_75 (by decide) ?_
  refine xi_isub (v := 24) dX12_feed_76 (by decide) ?_
  refine xi_iushr dX12_feed_77 rfl ?_
  refine xi_sipush (v := 255) dX12_feed_78 (by decide) ?_
  refine xi_iand dX12_feed_81 rfl ?_
  refine xi_iastore (M' := (MX 20 f rd0 mo0 (fun _ => 0) (fun _ => 0) (upd (upd (upd (upd (upd (fun _ => 0) 0 (((a1.toUInt32 >>> (((24 : Int32)).toUInt32 &&& Int32.toUInt32 31)).toInt32) &&& 255)) 1 (((a1.toUInt32 >>> (((16 : Int32)).toUInt32 &&& Int32.toUInt32 31)).toInt32) &&& 255)) 2 (((a1.toUInt32 >>> (((8 : Int32)).toUInt32 &&& Int32.toUInt32 31)).toInt32) &&& 255)) 3 (((a1.toUInt32 >>> (((0 : Int32)).toUInt32 &&& Int32.toUInt32 31)).toInt32) &&& 255)) 4 (((a2.toUInt32 >>> (((24 : Int32)).toUInt32 &&& Int32.toUInt32 31)).toInt32) &&& 255)) ++ [.inl (0, 5, .inl (upd (upd (upd (upd (upd (fun _ => 0) 0 a1) 1 a2) 2 a3) 3 a4) 4 a5))])) dX12_feed_82 rfl (by unfold vp_in; decide) rfl ?_
  refine xi_iinc (v := 5) (lv' := [(7, .int 5), (6, .ref 163), (0, .ref 149), (1, .int a1), (2, .int a2), (3, .int a3), (4, .int a4), (5, .int a5)]) 0 dX12_feed_83 rfl (by decide) (by decide) rfl ?_
  refine xi_goto (tgt := 42) dX12_feed_86 (by decide) ?_
  refine xi_iload 0 dX12_feed_42 rfl ?_
  refine xi_bipush (v := 20) dX12_feed_44 (by decide) ?_
  refine xi_icmp_ge_f (tgt := 89) dX12_feed_46 (by decide) (by decide) ?_
  refine xi_aload_n 2 dX12_feed_49 rfl ?_
  refine xi_get (f := 4) dX12_feed_50 rfl rfl ok_9 (by decide) w_1012 rfl ?_
  refine xi_aload_n 2 dX12_feed_53 rfl ?_
  refine xi_get (f := 5) dX12_feed_54 rfl rfl ok_9 (by decide) w_1013 rfl ?_
  refine xi_iload 0 dX12_feed_57 rfl ?_
  refine xi_iadd (v := 5) dX12_feed_59 (by decide) ?_
  refine xi_aload 1 dX12_feed_60 rfl ?_
  refine xi_iload 0 dX12_feed_62 rfl ?_
  refine xi_iconst (v := 4) dX12_feed_64 (by decide) ?_
  refine xi_idiv (v := 1) dX12_feed_65 (by decide) (by decide) ?_
  refine xi_iaload (v := a2) dX12_feed_66 rfl (by unfold vp_in; decide) rfl ?_
  refine xi_bipush (v := 24) dX12_feed_67 (by decide) ?_
  refine xi_bipush (v := 8) dX12_feed_69 (by decide) ?_
  refine xi_iload 0 dX12_feed_71 rfl ?_
  refine xi_iconst (v := 4) dX12_feed_73 (by decide) ?_
  refine xi_irem (v := 1) dX12_feed_74 (by decide) (by decide) ?_
  refine xi_imul (v := 8) dX12_feed_75 (by decide) ?_
  refine xi_isub (v := 16) dX12_feed_76 (by decide) ?_
  refine xi_iushr dX12_feed_77 rfl ?_
  refine xi_sipush (v := 255) dX12_feed_78 (by decide) ?_
  refine xi_iand dX12_feed_81 rfl ?_
  refine xi_iastore (M' := (MX 20 f rd0 mo0 (fun _ => 0) (fun _ => 0) (upd (upd (upd (upd (upd (upd (fun _ => 0) 0 (((a1.toUInt32 >>> (((24 : Int32)).toUInt32 &&& Int32.toUInt32 31)).toInt32) &&& 255)) 1 (((a1.toUInt32 >>> (((16 : Int32)).toUInt32 &&& Int32.toUInt32 31)).toInt32) &&& 255)) 2 (((a1.toUInt32 >>> (((8 : Int32)).toUInt32 &&& Int32.toUInt32 31)).toInt32) &&& 255)) 3 (((a1.toUInt32 >>> (((0 : Int32)).toUInt32 &&& Int32.toUInt32 31)).toInt32) &&& 255)) 4 (((a2.toUInt32 >>> (((24 : Int32)).toUInt32 &&& Int32.toUInt32 31)).toInt32) &&& 255)) 5 (((a2.toUInt32 >>> (((16 : Int32)).toUInt32 &&& Int32.toUInt32 31)).toInt32) &&& 255)) ++ [.inl (0, 5, .inl (upd (upd (upd (upd (upd (fun _ => 0) 0 a1) 1 a2) 2 a3) 3 a4) 4 a5))])) dX12_feed_82 rfl (by unfold vp_in; decide) rfl ?_
  refine xi_iinc (v := 6) (lv' := [(7, .int 6), (6, .ref 163), (0, .ref 149), (1, .int a1), (2, .int a2), (3, .int a3), (4, .int a4), (5, .int a5)]) 0 dX12_feed_83 rfl (by decide) (by decide) rfl ?_
  refine xi_goto (tgt := 42) dX12_feed_86 (by decide) ?_
  refine xi_iload 0 dX12_feed_42 rfl ?_
  refine xi_bipush (v := 20) dX12_feed_44 (by decide) ?_
  refine xi_icmp_ge_f (tgt := 89) dX12_feed_46 (by decide) (by decide) ?_
  refine xi_aload_n 2 dX12_feed_49 rfl ?_
  refine xi_get (f := 4) dX12_feed_50 rfl rfl ok_9 (by decide) w_1012 rfl ?_
  refine xi_aload_n 2 dX12_feed_53 rfl ?_
  refine xi_get (f := 5) dX12_feed_54 rfl rfl ok_9 (by decide) w_1013 rfl ?_
  refine xi_iload 0 dX12_feed_57 rfl ?_
  refine xi_iadd (v := 6) dX12_feed_59 (by decide) ?_
  refine xi_aload 1 dX12_feed_60 rfl ?_
  refine xi_iload 0 dX12_feed_62 rfl ?_
  refine xi_iconst (v := 4) dX12_feed_64 (by decide) ?_
  refine xi_idiv (v := 1) dX12_feed_65 (by decide) (by decide) ?_
  refine xi_iaload (v := a2) dX12_feed_66 rfl (by unfold vp_in; decide) rfl ?_
  refine xi_bipush (v := 24) dX12_feed_67 (by decide) ?_
  refine xi_bipush (v := 8) dX12_feed_69 (by decide) ?_
  refine xi_iload 0 dX12_feed_71 rfl ?_
  refine xi_iconst (v := 4) dX12_feed_73 (by decide) ?_
  refine xi_irem (v := 2) dX12_feed_74 (by decide) (by decide) ?_
  refine xi_imul (v := 16) dX12_feed_75 (by decide) ?_
  refine xi_isub (v := 8) dX12_feed_76 (by decide) ?_
  refine xi_iushr dX12_feed_77 rfl ?_
  refine xi_sipush (v := 255) dX12_feed_78 (by decide) ?_
  refine xi_iand dX12_feed_81 rfl ?_
  refine xi_iastore (M' := (MX 20 f rd0 mo0 (fun _ => 0) (fun _ => 0) (upd (upd (upd (upd (upd (upd (upd (fun _ => 0) 0 (((a1.toUInt32 >>> (((24 : Int32)).toUInt32 &&& Int32.toUInt32 31)).toInt32) &&& 255)) 1 (((a1.toUInt32 >>> (((16 : Int32)).toUInt32 &&& Int32.toUInt32 31)).toInt32) &&& 255)) 2 (((a1.toUInt32 >>> (((8 : Int32)).toUInt32 &&& Int32.toUInt32 31)).toInt32) &&& 255)) 3 (((a1.toUInt32 >>> (((0 : Int32)).toUInt32 &&& Int32.toUInt32 31)).toInt32) &&& 255)) 4 (((a2.toUInt32 >>> (((24 : Int32)).toUInt32 &&& Int32.toUInt32 31)).toInt32) &&& 255)) 5 (((a2.toUInt32 >>> (((16 : Int32)).toUInt32 &&& Int32.toUInt32 31)).toInt32) &&& 255)) 6 (((a2.toUInt32 >>> (((8 : Int32)).toUInt32 &&& Int32.toUInt32 31)).toInt32) &&& 255)) ++ [.inl (0, 5, .inl (upd (upd (upd (upd (upd (fun _ => 0) 0 a1) 1 a2) 2 a3) 3 a4) 4 a5))])) dX12_feed_82 rfl (by unfold vp_in; decide) rfl ?_
  refine xi_iinc (v := 7) (lv' := [(7, .int 7), (6, .ref 163), (0, .ref 149), (1, .int a1), (2, .int a2), (3, .int a3), (4, .int a4), (5, .int a5)]) 0 dX12_feed_83 rfl (by decide) (by decide) rfl ?_
  refine xi_goto (tgt := 42) dX12_feed_86 (by decide) ?_
  refine xi_iload 0 dX12_feed_42 rfl ?_
  refine xi_bipush (v := 20) dX12_feed_44 (by decide) ?_
  refine xi_icmp_ge_f (tgt := 89) dX12_feed_46 (by decide) (by decide) ?_
  refine xi_aload_n 2 dX12_feed_49 rfl ?_
  refine xi_get (f := 4) dX12_feed_50 rfl rfl ok_9 (by decide) w_1012 rfl ?_
  refine xi_aload_n 2 dX12_feed_53 rfl ?_
  refine xi_get (f := 5) dX12_feed_54 rfl rfl ok_9 (by decide) w_1013 rfl ?_
  refine xi_iload 0 dX12_feed_57 rfl ?_
  refine xi_iadd (v := 7) dX12_feed_59 (by decide) ?_
  refine xi_aload 1 dX12_feed_60 rfl ?_
  refine xi_iload 0 dX12_feed_62 rfl ?_
  refine xi_iconst (v := 4) dX12_feed_64 (by decide) ?_
  refine xi_idiv (v := 1) dX12_feed_65 (by decide) (by decide) ?_
  refine xi_iaload (v := a2) dX12_feed_66 rfl (by unfold vp_in; decide) rfl ?_
  refine xi_bipush (v := 24) dX12_feed_67 (by decide) ?_
  refine xi_bipush (v := 8) dX12_feed_69 (by decide) ?_
  refine xi_iload 0 dX12_feed_71 rfl ?_
  refine xi_iconst (v := 4) dX12_feed_73 (by decide) ?_
  refine xi_irem (v := 3) dX12_feed_74 (by decide) (by decide) ?_
  refine xi_imul (v := 24) dX12_feed_75 (by decide) ?_
  refine xi_isub (v := 0) dX12_feed_76 (by decide) ?_
  refine xi_iushr dX12_feed_77 rfl ?_
  refine xi_sipush (v := 255) dX12_feed_78 (by decide) ?_
  refine xi_iand dX12_feed_81 rfl ?_
  refine xi_iastore (M' := (MX 20 f rd0 mo0 (fun _ => 0) (fun _ => 0) (upd (upd (upd (upd (upd (upd (upd (upd (fun _ => 0) 0 (((a1.toUInt32 >>> (((24 : Int32)).toUInt32 &&& Int32.toUInt32 31)).toInt32) &&& 255)) 1 (((a1.toUInt32 >>> (((16 : Int32)).toUInt32 &&& Int32.toUInt32 31)).toInt32) &&& 255)) 2 (((a1.toUInt32 >>> (((8 : Int32)).toUInt32 &&& Int32.toUInt32 31)).toInt32) &&& 255)) 3 (((a1.toUInt32 >>> (((0 : Int32)).toUInt32 &&& Int32.toUInt32 31)).toInt32) &&& 255)) 4 (((a2.toUInt32 >>> (((24 : Int32)).toUInt32 &&& Int32.toUInt32 31)).toInt32) &&& 255)) 5 (((a2.toUInt32 >>> (((16 : Int32)).toUInt32 &&& Int32.toUInt32 31)).toInt32) &&& 255)) 6 (((a2.toUInt32 >>> (((8 : Int32)).toUInt32 &&& Int32.toUInt32 31)).toInt32) &&& 255)) 7 (((a2.toUInt32 >>> (((0 : Int32)).toUInt32 &&& Int32.toUInt32 31)).toInt32) &&& 255)) ++ [.inl (0, 5, .inl (upd (upd (upd (upd (upd (fun _ => 0) 0 a1) 1 a2) 2 a3) 3 a4) 4 a5))])) dX12_feed_82 rfl (by unfold vp_in; decide) rfl ?_
  refine xi_iinc (v := 8) (lv' := [(7, .int 8), (6, .ref 163), (0, .ref 149), (1, .int a1), (2, .int a2), (3, .int a3), (4, .int a4), (5, .int a5)]) 0 dX12_feed_83 rfl (by decide) (by decide) rfl ?_
  refine xi_goto (tgt := 42) dX12_feed_86 (by decide) ?_
  refine xi_iload 0 dX12_feed_42 rfl ?_
  refine xi_bipush (v := 20) dX12_feed_44 (by decide) ?_
  refine xi_icmp_ge_f (tgt := 89) dX12_feed_46 (by decide) (by decide) ?_
  refine xi_aload_n 2 dX12_feed_49 rfl ?_
  refine xi_get (f := 4) dX12_feed_50 rfl rfl ok_9 (by decide) w_1012 rfl ?_
  refine xi_aload_n 2 dX12_feed_53 rfl ?_
  refine xi_get (f := 5) dX12_feed_54 rfl rfl ok_9 (by decide) w_1013 rfl ?_
  refine xi_iload 0 dX12_feed_57 rfl ?_
  refine xi_iadd (v := 8) dX12_feed_59 (by decide) ?_
  refine xi_aload 1 dX12_feed_60 rfl ?_
  refine xi_iload 0 dX12_feed_62 rfl ?_
  refine xi_iconst (v := 4) dX12_feed_64 (by decide) ?_
  refine xi_idiv (v := 2) dX12_feed_65 (by decide) (by decide) ?_
  refine xi_iaload (v := a3) dX12_feed_66 rfl (by unfold vp_in; decide) rfl ?_
  refine xi_bipush (v := 24) dX12_feed_67 (by decide) ?_
  refine xi_bipush (v := 8) dX12_feed_69 (by decide) ?_
  refine xi_iload 0 dX12_feed_71 rfl ?_
  refine xi_iconst (v := 4) dX12_feed_73 (by decide) ?_
  refine xi_irem (v := 0) dX12_feed_74 (by decide) (by decide) ?_
  refine xi_imul (v := 0) dX12_feed_75 (by decide) ?_
  refine xi_isub (v := 24) dX12_feed_76 (by decide) ?_
  refine xi_iushr dX12_feed_77 rfl ?_
  refine xi_sipush (v := 255) dX12_feed_78 (by decide) ?_
  refine xi_iand dX12_feed_81 rfl ?_
  refine xi_iastore (M' := (MX 20 f rd0 mo0 (fun _ => 0) (fun _ => 0) (upd (upd (upd (upd (upd (upd (upd (upd (upd (fun _ => 0) 0 (((a1.toUInt32 >>> (((24 : Int32)).toUInt32 &&& Int32.toUInt32 31)).toInt32) &&& 255)) 1 (((a1.toUInt32 >>> (((16 : Int32)).toUInt32 &&& Int32.toUInt32 31)).toInt32) &&& 255)) 2 (((a1.toUInt32 >>> (((8 : Int32)).toUInt32 &&& Int32.toUInt32 31)).toInt32) &&& 255)) 3 (((a1.toUInt32 >>> (((0 : Int32)).toUInt32 &&& Int32.toUInt32 31)).toInt32) &&& 255)) 4 (((a2.toUInt32 >>> (((24 : Int32)).toUInt32 &&& Int32.toUInt32 31)).toInt32) &&& 255)) 5 (((a2.toUInt32 >>> (((16 : Int32)).toUInt32 &&& Int32.toUInt32 31)).toInt32) &&& 255)) 6 (((a2.toUInt32 >>> (((8 : Int32)).toUInt32 &&& Int32.toUInt32 31)).toInt32) &&& 255)) 7 (((a2.toUInt32 >>> (((0 : Int32)).toUInt32 &&& Int32.toUInt32 31)).toInt32) &&& 255)) 8 (((a3.toUInt32 >>> (((24 : Int32)).toUInt32 &&& Int32.toUInt32 31)).toInt32) &&& 255)) ++ [.inl (0, 5, .inl (upd (upd (upd (upd (upd (fun _ => 0) 0 a1) 1 a2) 2 a3) 3 a4) 4 a5))])) dX12_feed_82 rfl (by unfold vp_in; decide) rfl ?_
  refine xi_iinc (v := 9) (lv' := [(7, .int 9), (6, .ref 163), (0, .ref 149), (1, .int a1), (2, .int a2), (3, .int a3), (4, .int a4), (5, .int a5)]) 0 dX12_feed_83 rfl (by decide) (by decide) rfl ?_
  refine xi_goto (tgt := 42) dX12_feed_86 (by decide) ?_
  refine xi_iload 0 dX12_feed_42 rfl ?_
  refine xi_bipush (v := 20) dX12_feed_44 (by decide) ?_
  refine xi_icmp_ge_f (tgt := 89) dX12_feed_46 (by decide) (by decide) ?_
  refine xi_aload_n 2 dX12_feed_49 rfl ?_
  refine xi_get (f := 4) dX12_feed_50 rfl rfl ok_9 (by decide) w_1012 rfl ?_
  refine xi_aload_n 2 dX12_feed_53 rfl ?_
  refine xi_get (f := 5) dX12_feed_54 rfl rfl ok_9 (by decide) w_1013 rfl ?_
  refine xi_iload 0 dX12_feed_57 rfl ?_
  refine xi_iadd (v := 9) dX12_feed_59 (by decide) ?_
  refine xi_aload 1 dX12_feed_60 rfl ?_
  refine xi_iload 0 dX12_feed_62 rfl ?_
  refine xi_iconst (v := 4) dX12_feed_64 (by decide) ?_
  refine xi_idiv (v := 2) dX12_feed_65 (by decide) (by decide) ?_
  refine xi_iaload (v := a3) dX12_feed_66 rfl (by unfold vp_in; decide) rfl ?_
  refine xi_bipush (v := 24) dX12_feed_67 (by decide) ?_
  refine xi_bipush (v := 8) dX12_feed_69 (by decide) ?_
  refine xi_iload 0 dX12_feed_71 rfl ?_
  refine xi_iconst (v := 4) dX12_feed_73 (by decide) ?_
  refine xi_irem (v := 1) dX12_feed_74 (by decide) (by decide) ?_
  refine xi_imul (v := 8) dX12_feed_75 (by decide) ?_
  refine xi_isub (v := 16) dX12_feed_76 (by decide) ?_
  refine xi_iushr dX12_feed_77 rfl ?_
  refine xi_sipush (v := 255) dX12_feed_78 (by decide) ?_
  refine xi_iand dX12_feed_81 rfl ?_
  refine xi_iastore (M' := (MX 20 f rd0 mo0 (fun _ => 0) (fun _ => 0) (upd (upd (upd (upd (upd (upd (upd (upd (upd (upd (fun _ => 0) 0 (((a1.toUInt32 >>> (((24 : Int32)).toUInt32 &&& Int32.toUInt32 31)).toInt32) &&& 255)) 1 (((a1.toUInt32 >>> (((16 : Int32)).toUInt32 &&& Int32.toUInt32 31)).toInt32) &&& 255)) 2 (((a1.toUInt32 >>> (((8 : Int32)).toUInt32 &&& Int32.toUInt32 31)).toInt32) &&& 255)) 3 (((a1.toUInt32 >>> (((0 : Int32)).toUInt32 &&& Int32.toUInt32 31)).toInt32) &&& 255)) 4 (((a2.toUInt32 >>> (((24 : Int32)).toUInt32 &&& Int32.toUInt32 31)).toInt32) &&& 255)) 5 (((a2.toUInt32 >>> (((16 : Int32)).toUInt32 &&& Int32.toUInt32 31)).toInt32) &&& 255)) 6 (((a2.toUInt32 >>> (((8 : Int32)).toUInt32 &&& Int32.toUInt32 31)).toInt32) &&& 255)) 7 (((a2.toUInt32 >>> (((0 : Int32)).toUInt32 &&& Int32.toUInt32 31)).toInt32) &&& 255)) 8 (((a3.toUInt32 >>> (((24 : Int32)).toUInt32 &&& Int32.toUInt32 31)).toInt32) &&& 255)) 9 (((a3.toUInt32 >>> (((16 : Int32)).toUInt32 &&& Int32.toUInt32 31)).toInt32) &&& 255)) ++ [.inl (0, 5, .inl (upd (upd (upd (upd (upd (fun _ => 0) 0 a1) 1 a2) 2 a3) 3 a4) 4 a5))])) dX12_feed_82 rfl (by unfold vp_in; decide) rfl ?_
  refine xi_iinc (v := 10) (lv' := [(7, .int 10), (6, .ref 163), (0, .ref 149), (1, .int a1), (2, .int a2), (3, .int a3), (4, .int a4), (5, .int a5)]) 0 dX12_feed_83 rfl (by decide) (by decide) rfl ?_
  refine xi_goto (tgt := 42) dX12_feed_86 (by decide) ?_
  refine xi_iload 0 dX12_feed_42 rfl ?_
  refine xi_bipush (v := 20) dX12_feed_44 (by decide) ?_
  refine xi_icmp_ge_f (tgt := 89) dX12_feed_46 (by decide) (by decide) ?_
  refine xi_aload_n 2 dX12_feed_49 rfl ?_
  refine xi_get (f := 4) dX12_feed_50 rfl rfl ok_9 (by decide) w_1012 rfl ?_
  refine xi_aload_n 2 dX12_feed_53 rfl ?_
  refine xi_get (f := 5) dX12_feed_54 rfl rfl ok_9 (by decide) w_1013 rfl ?_
  refine xi_iload 0 dX12_feed_57 rfl ?_
  refine xi_iadd (v := 10) dX12_feed_59 (by decide) ?_
  refine xi_aload 1 dX12_feed_60 rfl ?_
  refine xi_iload 0 dX12_feed_62 rfl ?_
  refine xi_iconst (v := 4) dX12_feed_64 (by decide) ?_
  refine xi_idiv (v := 2) dX12_feed_65 (by decide) (by decide) ?_
  refine xi_iaload (v := a3) dX12_feed_66 rfl (by unfold vp_in; decide) rfl ?_
  refine xi_bipush (v := 24) dX12_feed_67 (by decide) ?_
  refine xi_bipush (v := 8) dX12_feed_69 (by decide) ?_
  refine xi_iload 0 dX12_feed_71 rfl ?_
  refine xi_iconst (v := 4) dX12_feed_73 (by decide) ?_
  refine xi_irem (v := 2) dX12_feed_74 (by decide) (by decide) ?_
  refine xi_imul (v := 16) dX12_feed_75 (by decide) ?_
  refine xi_isub (v := 8) dX12_feed_76 (by decide) ?_
  refine xi_iushr dX12_feed_77 rfl ?_
  refine xi_sipush (v := 255) dX12_feed_78 (by decide) ?_
  refine xi_iand dX12_feed_81 rfl ?_
  refine xi_iastore (M' := (MX 20 f rd0 mo0 (fun _ => 0) (fun _ => 0) (upd (upd (upd (upd (upd (upd (upd (upd (upd (upd (upd (fun _ => 0) 0 (((a1.toUInt32 >>> (((24 : Int32)).toUInt32 &&& Int32.toUInt32 31)).toInt32) &&& 255)) 1 (((a1.toUInt32 >>> (((16 : Int32)).toUInt32 &&& Int32.toUInt32 31)).toInt32) &&& 255)) 2 (((a1.toUInt32 >>> (((8 : Int32)).toUInt32 &&& Int32.toUInt32 31)).toInt32) &&& 255)) 3 (((a1.toUInt32 >>> (((0 : Int32)).toUInt32 &&& Int32.toUInt32 31)).toInt32) &&& 255)) 4 (((a2.toUInt32 >>> (((24 : Int32)).toUInt32 &&& Int32.toUInt32 31)).toInt32) &&& 255)) 5 (((a2.toUInt32 >>> (((16 : Int32)).toUInt32 &&& Int32.toUInt32 31)).toInt32) &&& 255)) 6 (((a2.toUInt32 >>> (((8 : Int32)).toUInt32 &&& Int32.toUInt32 31)).toInt32) &&& 255)) 7 (((a2.toUInt32 >>> (((0 : Int32)).toUInt32 &&& Int32.toUInt32 31)).toInt32) &&& 255)) 8 (((a3.toUInt32 >>> (((24 : Int32)).toUInt32 &&& Int32.toUInt32 31)).toInt32) &&& 255)) 9 (((a3.toUInt32 >>> (((16 : Int32)).toUInt32 &&& Int32.toUInt32 31)).toInt32) &&& 255)) 10 (((a3.toUInt32 >>> (((8 : Int32)).toUInt32 &&& Int32.toUInt32 31)).toInt32) &&& 255)) ++ [.inl (0, 5, .inl (upd (upd (upd (upd (upd (fun _ => 0) 0 a1) 1 a2) 2 a3) 3 a4) 4 a5))])) dX12_feed_82 rfl (by unfold vp_in; decide) rfl ?_
  refine xi_iinc (v := 11) (lv' := [(7, .int 11), (6, .ref 163), (0, .ref 149), (1, .int a1), (2, .int a2), (3, .int a3), (4, .int a4), (5, .int a5)]) 0 dX12_feed_83 rfl (by decide) (by decide) rfl ?_
  refine xi_goto (tgt := 42) dX12_feed_86 (by decide) ?_
  refine xi_iload 0 dX12_feed_42 rfl ?_
  refine xi_bipush (v := 20) dX12_feed_44 (by decide) ?_
  refine xi_icmp_ge_f (tgt := 89) dX12_feed_46 (by decide) (by decide) ?_
  refine xi_aload_n 2 dX12_feed_49 rfl ?_
  refine xi_get (f := 4) dX12_feed_50 rfl rfl ok_9 (by decide) w_1012 rfl ?_
  refine xi_aload_n 2 dX12_feed_53 rfl ?_
  refine xi_get (f := 5) dX12_feed_54 rfl rfl ok_9 (by decide) w_1013 rfl ?_
  refine xi_iload 0 dX12_feed_57 rfl ?_
  refine xi_iadd (v := 11) dX12_feed_59 (by decide) ?_
  refine xi_aload 1 dX12_feed_60 rfl ?_
  refine xi_iload 0 dX12_feed_62 rfl ?_
  refine xi_iconst (v := 4) dX12_feed_64 (by decide) ?_
  refine xi_idiv (v := 2) dX12_feed_65 (by decide) (by decide) ?_
  refine xi_iaload (v := a3) dX12_feed_66 rfl (by unfold vp_in; decide) rfl ?_
  refine xi_bipush (v := 24) dX12_feed_67 (by decide) ?_
  refine xi_bipush (v := 8) dX12_feed_69 (by decide) ?_
  refine xi_iload 0 dX12_feed_71 rfl ?_
  refine xi_iconst (v := 4) dX12_feed_73 (by decide) ?_
  refine xi_irem (v := 3) dX12_feed_74 (by decide) (by decide) ?_
  refine xi_imul (v := 24) dX12_feed_75 (by decide) ?_
  refine xi_isub (v := 0) dX12_feed_76 (by decide) ?_
  refine xi_iushr dX12_feed_77 rfl ?_
  refine xi_sipush (v := 255) dX12_feed_78 (by decide) ?_
  refine xi_iand dX12_feed_81 rfl ?_
  refine xi_iastore (M' := (MX 20 f rd0 mo0 (fun _ => 0) (fun _ => 0) (upd (upd (upd (upd (upd (upd (upd (upd (upd (upd (upd (upd (fun _ => 0) 0 (((a1.toUInt32 >>> (((24 : Int32)).toUInt32 &&& Int32.toUInt32 31)).toInt32) &&& 255)) 1 (((a1.toUInt32 >>> (((16 : Int32)).toUInt32 &&& Int32.toUInt32 31)).toInt32) &&& 255)) 2 (((a1.toUInt32 >>> (((8 : Int32)).toUInt32 &&& Int32.toUInt32 31)).toInt32) &&& 255)) 3 (((a1.toUInt32 >>> (((0 : Int32)).toUInt32 &&& Int32.toUInt32 31)).toInt32) &&& 255)) 4 (((a2.toUInt32 >>> (((24 : Int32)).toUInt32 &&& Int32.toUInt32 31)).toInt32) &&& 255)) 5 (((a2.toUInt32 >>> (((16 : Int32)).toUInt32 &&& Int32.toUInt32 31)).toInt32) &&& 255)) 6 (((a2.toUInt32 >>> (((8 : Int32)).toUInt32 &&& Int32.toUInt32 31)).toInt32) &&& 255)) 7 (((a2.toUInt32 >>> (((0 : Int32)).toUInt32 &&& Int32.toUInt32 31)).toInt32) &&& 255)) 8 (((a3.toUInt32 >>> (((24 : Int32)).toUInt32 &&& Int32.toUInt32 31)).toInt32) &&& 255)) 9 (((a3.toUInt32 >>> (((16 : Int32)).toUInt32 &&& Int32.toUInt32 31)).toInt32) &&& 255)) 10 (((a3.toUInt32 >>> (((8 : Int32)).toUInt32 &&& Int32.toUInt32 31)).toInt32) &&& 255)) 11 (((a3.toUInt32 >>> (((0 : Int32)).toUInt32 &&& Int32.toUInt32 31)).toInt32) &&& 255)) ++ [.inl (0, 5, .inl (upd (upd (upd (upd (upd (fun _ => 0) 0 a1) 1 a2) 2 a3) 3 a4) 4 a5))])) dX12_feed_82 rfl (by unfold vp_in; decide) rfl ?_
  refine xi_iinc (v := 12) (lv' := [(7, .int 12), (6, .ref 163), (0, .ref 149), (1, .int a1), (2, .int a2), (3, .int a3), (4, .int a4), (5, .int a5)]) 0 dX12_feed_83 rfl (by decide) (by decide) rfl ?_
  refine xi_goto (tgt := 42) dX12_feed_86 (by decide) ?_
  refine xi_iload 0 dX12_feed_42 rfl ?_
  refine xi_bipush (v := 20) dX12_feed_44 (by decide) ?_
  refine xi_icmp_ge_f (tgt := 89) dX12_feed_46 (by decide) (by decide) ?_
  refine xi_aload_n 2 dX12_feed_49 rfl ?_
  refine xi_get (f := 4) dX12_feed_50 rfl rfl ok_9 (by decide) w_1012 rfl ?_
  refine xi_aload_n 2 dX12_feed_53 rfl ?_
  refine xi_get (f := 5) dX12_feed_54 rfl rfl ok_9 (by decide) w_1013 rfl ?_
  refine xi_iload 0 dX12_feed_57 rfl ?_
  refine xi_iadd (v := 12) dX12_feed_59 (by decide) ?_
  refine xi_aload 1 dX12_feed_60 rfl ?_
  refine xi_iload 0 dX12_feed_62 rfl ?_
  refine xi_iconst (v := 4) dX12_feed_64 (by decide) ?_
  refine xi_idiv (v := 3) dX12_feed_65 (by decide) (by decide) ?_
  refine xi_iaload (v := a4) dX12_feed_66 rfl (by unfold vp_in; decide) rfl ?_
  refine xi_bipush (v := 24) dX12_feed_67 (by decide) ?_
  refine xi_bipush (v := 8) dX12_feed_69 (by decide) ?_
  refine xi_iload 0 dX12_feed_71 rfl ?_
  refine xi_iconst (v := 4) dX12_feed_73 (by decide) ?_
  refine xi_irem (v := 0) dX12_feed_74 (by decide) (by decide) ?_
  refine xi_imul (v := 0) dX12_feed_75 (by decide) ?_
  refine xi_isub (v := 24) dX12_feed_76 (by decide) ?_
  refine xi_iushr dX12_feed_77 rfl ?_
  refine xi_sipush (v := 255) dX12_feed_78 (by decide) ?_
  refine xi_iand dX12_feed_81 rfl ?_
  refine xi_iastore (M' := (MX 20 f rd0 mo0 (fun _ => 0) (fun _ => 0) (upd (upd (upd (upd (upd (upd (upd (upd (upd (upd (upd (upd (upd (fun _ => 0) 0 (((a1.toUInt32 >>> (((24 : Int32)).toUInt32 &&& Int32.toUInt32 31)).toInt32) &&& 255)) 1 (((a1.toUInt32 >>> (((16 : Int32)).toUInt32 &&& Int32.toUInt32 31)).toInt32) &&& 255)) 2 (((a1.toUInt32 >>> (((8 : Int32)).toUInt32 &&& Int32.toUInt32 31)).toInt32) &&& 255)) 3 (((a1.toUInt32 >>> (((0 : Int32)).toUInt32 &&& Int32.toUInt32 31)).toInt32) &&& 255)) 4 (((a2.toUInt32 >>> (((24 : Int32)).toUInt32 &&& Int32.toUInt32 31)).toInt32) &&& 255)) 5 (((a2.toUInt32 >>> (((16 : Int32)).toUInt32 &&& Int32.toUInt32 31)).toInt32) &&& 255)) 6 (((a2.toUInt32 >>> (((8 : Int32)).toUInt32 &&& Int32.toUInt32 31)).toInt32) &&& 255)) 7 (((a2.toUInt32 >>> (((0 : Int32)).toUInt32 &&& Int32.toUInt32 31)).toInt32) &&& 255)) 8 (((a3.toUInt32 >>> (((24 : Int32)).toUInt32 &&& Int32.toUInt32 31)).toInt32) &&& 255)) 9 (((a3.toUInt32 >>> (((16 : Int32)).toUInt32 &&& Int32.toUInt32 31)).toInt32) &&& 255)) 10 (((a3.toUInt32 >>> (((8 : Int32)).toUInt32 &&& Int32.toUInt32 31)).toInt32) &&& 255)) 11 (((a3.toUInt32 >>> (((0 : Int32)).toUInt32 &&& Int32.toUInt32 31)).toInt32) &&& 255)) 12 (((a4.toUInt32 >>> (((24 : Int32)).toUInt32 &&& Int32.toUInt32 31)).toInt32) &&& 255)) ++ [.inl (0, 5, .inl (upd (upd (upd (upd (upd (fun _ => 0) 0 a1) 1 a2) 2 a3) 3 a4) 4 a5))])) dX12_feed_82 rfl (by unfold vp_in; decide) rfl ?_
  refine xi_iinc (v := 13) (lv' := [(7, .int 13), (6, .ref 163), (0, .ref 149), (1, .int a1), (2, .int a2), (3, .int a3), (4, .int a4), (5, .int a5)]) 0 dX12_feed_83 rfl (by decide) (by decide) rfl ?_
  refine xi_goto (tgt := 42) dX12_feed_86 (by decide) ?_
  refine xi_iload 0 dX12_feed_42 rfl ?_
  refine xi_bipush (v := 20) dX12_feed_44 (by decide) ?_
  refine xi_icmp_ge_f (tgt := 89) dX12_feed_46 (by decide) (by decide) ?_
  refine xi_aload_n 2 dX12_feed_49 rfl ?_
  refine xi_get (f := 4) dX12_feed_50 rfl rfl ok_9 (by decide) w_1012 rfl ?_
  refine xi_aload_n 2 dX12_feed_53 rfl ?_
  refine xi_get (f := 5) dX12_feed_54 rfl rfl ok_9 (by decide) w_1013 rfl ?_
  refine xi_iload 0 dX12_feed_57 rfl ?_
  refine xi_iadd (v := 13) dX12_feed_59 (by decide) ?_
  refine xi_aload 1 dX12_feed_60 rfl ?_
  refine xi_iload 0 dX12_feed_62 rfl ?_
  refine xi_iconst (v := 4) dX12_feed_64 (by decide) ?_
  refine xi_idiv (v := 3) dX12_feed_65 (by decide) (by decide) ?_
  refine xi_iaload (v := a4) dX12_feed_66 rfl (by unfold vp_in; decide) rfl ?_
  refine xi_bipush (v := 24) dX12_feed_67 (by decide) ?_
  refine xi_bipush (v := 8) dX12_feed_69 (by decide) ?_
  refine xi_iload 0 dX12_feed_71 rfl ?_
  refine xi_iconst (v := 4) dX12_feed_73 (by decide) ?_
  refine xi_irem (v := 1) dX12_feed_74 (by decide) (by decide) ?_
  refine xi_imul (v := 8) dX12_feed_75 (by decide) ?_
  refine xi_isub (v := 16) dX12_feed_76 (by decide) ?_
  refine xi_iushr dX12_feed_77 rfl ?_
  refine xi_sipush (v := 255) dX12_feed_78 (by decide) ?_
  refine xi_iand dX12_feed_81 rfl ?_
  refine xi_iastore (M' := (MX 20 f rd0 mo0 (fun _ => 0) (fun _ => 0) (upd (upd (upd (upd (upd (upd (upd (upd (upd (upd (upd (upd (upd (upd (fun _ => 0) 0 (((a1.toUInt32 >>> (((24 : Int32)).toUInt32 &&& Int32.toUInt32 31)).toInt32) &&& 255)) 1 (((a1.toUInt32 >>> (((16 : Int32)).toUInt32 &&& Int32.toUInt32 31)).toInt32) &&& 255)) 2 (((a1.toUInt32 >>> (((8 : Int32)).toUInt32 &&& Int32.toUInt32 31)).toInt32) &&& 255)) 3 (((a1.toUInt32 >>> (((0 : Int32)).toUInt32 &&& Int32.toUInt32 31)).toInt32) &&& 255)) 4 (((a2.toUInt32 >>> (((24 : Int32)).toUInt32 &&& Int32.toUInt32 31)).toInt32) &&& 255)) 5 (((a2.toUInt32 >>> (((16 : Int32)).toUInt32 &&& Int32.toUInt32 31)).toInt32) &&& 255)) 6 (((a2.toUInt32 >>> (((8 : Int32)).toUInt32 &&& Int32.toUInt32 31)).toInt32) &&& 255)) 7 (((a2.toUInt32 >>> (((0 : Int32)).toUInt32 &&& Int32.toUInt32 31)).toInt32) &&& 255)) 8 (((a3.toUInt32 >>> (((24 : Int32)).toUInt32 &&& Int32.toUInt32 31)).toInt32) &&& 255)) 9 (((a3.toUInt32 >>> (((16 : Int32)).toUInt32 &&& Int32.toUInt32 31)).toInt32) &&& 255)) 10 (((a3.toUInt32 >>> (((8 : Int32)).toUInt32 &&& Int32.toUInt32 31)).toInt32) &&& 255)) 11 (((a3.toUInt32 >>> (((0 : Int32)).toUInt32 &&& Int32.toUInt32 31)).toInt32) &&& 255)) 12 (((a4.toUInt32 >>> (((24 : Int32)).toUInt32 &&& Int32.toUInt32 31)).toInt32) &&& 255)) 13 (((a4.toUInt32 >>> (((16 : Int32)).toUInt32 &&& Int32.toUInt32 31)).toInt32) &&& 255)) ++ [.inl (0, 5, .inl (upd (upd (upd (upd (upd (fun _ => 0) 0 a1) 1 a2) 2 a3) 3 a4) 4 a5))])) dX12_feed_82 rfl (by unfold vp_in; decide) rfl ?_
  refine xi_iinc (v := 14) (lv' := [(7, .int 14), (6, .ref 163), (0, .ref 149), (1, .int a1), (2, .int a2), (3, .int a3), (4, .int a4), (5, .int a5)]) 0 dX12_feed_83 rfl (by decide) (by decide) rfl ?_
  refine xi_goto (tgt := 42) dX12_feed_86 (by decide) ?_
  refine xi_iload 0 dX12_feed_42 rfl ?_
  refine xi_bipush (v := 20) dX12_feed_44 (by decide) ?_
  refine xi_icmp_ge_f (tgt := 89) dX12_feed_46 (by decide) (by decide) ?_
  refine xi_aload_n 2 dX12_feed_49 rfl ?_
  refine xi_get (f := 4) dX12_feed_50 rfl rfl ok_9 (by decide) w_1012 rfl ?_
  refine xi_aload_n 2 dX12_feed_53 rfl ?_
  refine xi_get (f := 5) dX12_feed_54 rfl rfl ok_9 (by decide) w_1013 rfl ?_
  refine xi_iload 0 dX12_feed_57 rfl ?_
  refine xi_iadd (v := 14) dX12_feed_59 (by decide) ?_
  refine xi_aload 1 dX12_feed_60 rfl ?_
  refine xi_iload 0 dX12_feed_62 rfl ?_
  refine xi_iconst (v := 4) dX12_feed_64 (by decide) ?_
  refine xi_idiv (v := 3) dX12_feed_65 (by decide) (by decide) ?_
  refine xi_iaload (v := a4) dX12_feed_66 rfl (by unfold vp_in; decide) rfl ?_
  refine xi_bipush (v := 24) dX12_feed_67 (by decide) ?_
  refine xi_bipush (v := 8) dX12_feed_69 (by decide) ?_
  refine xi_iload 0 dX12_feed_71 rfl ?_
  refine xi_iconst (v := 4) dX12_feed_73 (by decide) ?_
  refine xi_irem (v := 2) dX12_feed_74 (by decide) (by decide) ?_
  refine xi_imul (v := 16) dX12_feed_75 (by decide) ?_
  refine xi_isub (v := 8) dX12_feed_76 (by decide) ?_
  refine xi_iushr dX12_feed_77 rfl ?_
  refine xi_sipush (v := 255) dX12_feed_78 (by decide) ?_
  refine xi_iand dX12_feed_81 rfl ?_
  refine xi_iastore (M' := (MX 20 f rd0 mo0 (fun _ => 0) (fun _ => 0) (upd (upd (upd (upd (upd (upd (upd (upd (upd (upd (upd (upd (upd (upd (upd (fun _ => 0) 0 (((a1.toUInt32 >>> (((24 : Int32)).toUInt32 &&& Int32.toUInt32 31)).toInt32) &&& 255)) 1 (((a1.toUInt32 >>> (((16 : Int32)).toUInt32 &&& Int32.toUInt32 31)).toInt32) &&& 255)) 2 (((a1.toUInt32 >>> (((8 : Int32)).toUInt32 &&& Int32.toUInt32 31)).toInt32) &&& 255)) 3 (((a1.toUInt32 >>> (((0 : Int32)).toUInt32 &&& Int32.toUInt32 31)).toInt32) &&& 255)) 4 (((a2.toUInt32 >>> (((24 : Int32)).toUInt32 &&& Int32.toUInt32 31)).toInt32) &&& 255)) 5 (((a2.toUInt32 >>> (((16 : Int32)).toUInt32 &&& Int32.toUInt32 31)).toInt32) &&& 255)) 6 (((a2.toUInt32 >>> (((8 : Int32)).toUInt32 &&& Int32.toUInt32 31)).toInt32) &&& 255)) 7 (((a2.toUInt32 >>> (((0 : Int32)).toUInt32 &&& Int32.toUInt32 31)).toInt32) &&& 255)) 8 (((a3.toUInt32 >>> (((24 : Int32)).toUInt32 &&& Int32.toUInt32 31)).toInt32) &&& 255)) 9 (((a3.toUInt32 >>> (((16 : Int32)).toUInt32 &&& Int32.toUInt32 31)).toInt32) &&& 255)) 10 (((a3.toUInt32 >>> (((8 : Int32)).toUInt32 &&& Int32.toUInt32 31)).toInt32) &&& 255)) 11 (((a3.toUInt32 >>> (((0 : Int32)).toUInt32 &&& Int32.toUInt32 31)).toInt32) &&& 255)) 12 (((a4.toUInt32 >>> (((24 : Int32)).toUInt32 &&& Int32.toUInt32 31)).toInt32) &&& 255)) 13 (((a4.toUInt32 >>> (((16 : Int32)).toUInt32 &&& Int32.toUInt32 31)).toInt32) &&& 255)) 14 (((a4.toUInt32 >>> (((8 : Int32)).toUInt32 &&& Int32.toUInt32 31)).toInt32) &&& 255)) ++ [.inl (0, 5, .inl (upd (upd (upd (upd (upd (fun _ => 0) 0 a1) 1 a2) 2 a3) 3 a4) 4 a5))])) dX12_feed_82 rfl (by unfold vp_in; decide) rfl ?_
  refine xi_iinc (v := 15) (lv' := [(7, .int 15), (6, .ref 163), (0, .ref 149), (1, .int a1), (2, .int a2), (3, .int a3), (4, .int a4), (5, .int a5)]) 0 dX12_feed_83 rfl (by decide) (by decide) rfl ?_
  refine xi_goto (tgt := 42) dX12_feed_86 (by decide) ?_
  refine xi_iload 0 dX12_feed_42 rfl ?_
  refine xi_bipush (v := 20) dX12_feed_44 (by decide) ?_
  refine xi_icmp_ge_f (tgt := 89) dX12_feed_46 (by decide) (by decide) ?_
  refine xi_aload_n 2 dX12_feed_49 rfl ?_
  refine xi_get (f := 4) dX12_feed_50 rfl rfl ok_9 (by decide) w_1012 rfl ?_
  refine xi_aload_n 2 dX12_feed_53 rfl ?_
  refine xi_get (f := 5) dX12_feed_54 rfl rfl ok_9 (by decide) w_1013 rfl ?_
  refine xi_iload 0 dX12_feed_57 rfl ?_
  refine xi_iadd (v := 15) dX12_feed_59 (by decide) ?_
  refine xi_aload 1 dX12_feed_60 rfl ?_
  refine xi_iload 0 dX12_feed_62 rfl ?_
  refine xi_iconst (v := 4) dX12_feed_64 (by decide) ?_
  refine xi_idiv (v := 3) dX12_feed_65 (by decide) (by decide) ?_
  refine xi_iaload (v := a4) dX12_feed_66 rfl (by unfold vp_in; decide) rfl ?_
  refine xi_bipush (v := 24) dX12_feed_67 (by decide) ?_
  refine xi_bipush (v := 8) dX12_feed_69 (by decide) ?_
  refine xi_iload 0 dX12_feed_71 rfl ?_
  refine xi_iconst (v := 4) dX12_feed_73 (by decide) ?_
  refine xi_irem (v := 3) dX12_feed_74 (by decide) (by decide) ?_
  refine xi_imul (v := 24) dX12_feed_75 (by decide) ?_
  refine xi_isub (v := 0) dX12_feed_76 (by decide) ?_
  refine xi_iushr dX12_feed_77 rfl ?_
  refine xi_sipush (v := 255) dX12_feed_78 (by decide) ?_
  refine xi_iand dX12_feed_81 rfl ?_
  refine xi_iastore (M' := (MX 20 f rd0 mo0 (fun _ => 0) (fun _ => 0) (upd (upd (upd (upd (upd (upd (upd (upd (upd (upd (upd (upd (upd (upd (upd (upd (fun _ => 0) 0 (((a1.toUInt32 >>> (((24 : Int32)).toUInt32 &&& Int32.toUInt32 31)).toInt32) &&& 255)) 1 (((a1.toUInt32 >>> (((16 : Int32)).toUInt32 &&& Int32.toUInt32 31)).toInt32) &&& 255)) 2 (((a1.toUInt32 >>> (((8 : Int32)).toUInt32 &&& Int32.toUInt32 31)).toInt32) &&& 255)) 3 (((a1.toUInt32 >>> (((0 : Int32)).toUInt32 &&& Int32.toUInt32 31)).toInt32) &&& 255)) 4 (((a2.toUInt32 >>> (((24 : Int32)).toUInt32 &&& Int32.toUInt32 31)).toInt32) &&& 255)) 5 (((a2.toUInt32 >>> (((16 : Int32)).toUInt32 &&& Int32.toUInt32 31)).toInt32) &&& 255)) 6 (((a2.toUInt32 >>> (((8 : Int32)).toUInt32 &&& Int32.toUInt32 31)).toInt32) &&& 255)) 7 (((a2.toUInt32 >>> (((0 : Int32)).toUInt32 &&& Int32.toUInt32 31)).toInt32) &&& 255)) 8 (((a3.toUInt32 >>> (((24 : Int32)).toUInt32 &&& Int32.toUInt32 31)).toInt32) &&& 255)) 9 (((a3.toUInt32 >>> (((16 : Int32)).toUInt32 &&& Int32.toUInt32 31)).toInt32) &&& 255)) 10 (((a3.toUInt32 >>> (((8 : Int32)).toUInt32 &&& Int32.toUInt32 31)).toInt32) &&& 255)) 11 (((a3.toUInt32 >>> (((0 : Int32)).toUInt32 &&& Int32.toUInt32 31)).toInt32) &&& 255)) 12 (((a4.toUInt32 >>> (((24 : Int32)).toUInt32 &&& Int32.toUInt32 31)).toInt32) &&& 255)) 13 (((a4.toUInt32 >>> (((16 : Int32)).toUInt32 &&& Int32.toUInt32 31)).toInt32) &&& 255)) 14 (((a4.toUInt32 >>> (((8 : Int32)).toUInt32 &&& Int32.toUInt32 31)).toInt32) &&& 255)) 15 (((a4.toUInt32 >>> (((0 : Int32)).toUInt32 &&& Int32.toUInt32 31)).toInt32) &&& 255)) ++ [.inl (0, 5, .inl (upd (upd (upd (upd (upd (fun _ => 0) 0 a1) 1 a2) 2 a3) 3 a4) 4 a5))])) dX12_feed_82 rfl (by unfold vp_in; decide) rfl ?_
  refine xi_iinc (v := 16) (lv' := [(7, .int 16), (6, .ref 163), (0, .ref 149), (1, .int a1), (2, .int a2), (3, .int a3), (4, .int a4), (5, .int a5)]) 0 dX12_feed_83 rfl (by decide) (by decide) rfl ?_
  refine xi_goto (tgt := 42) dX12_feed_86 (by decide) ?_
  refine xi_iload 0 dX12_feed_42 rfl ?_
  refine xi_bipush (v := 20) dX12_feed_44 (by decide) ?_
  refine xi_icmp_ge_f (tgt := 89) dX12_feed_46 (by decide) (by decide) ?_
  refine xi_aload_n 2 dX12_feed_49 rfl ?_
  refine xi_get (f := 4) dX12_feed_50 rfl rfl ok_9 (by decide) w_1012 rfl ?_
  refine xi_aload_n 2 dX12_feed_53 rfl ?_
  refine xi_get (f := 5) dX12_feed_54 rfl rfl ok_9 (by decide) w_1013 rfl ?_
  refine xi_iload 0 dX12_feed_57 rfl ?_
  refine xi_iadd (v := 16) dX12_feed_59 (by decide) ?_
  refine xi_aload 1 dX12_feed_60 rfl ?_
  refine xi_iload 0 dX12_feed_62 rfl ?_
  refine xi_iconst (v := 4) dX12_feed_64 (by decide) ?_
  refine xi_idiv (v := 4) dX12_feed_65 (by decide) (by decide) ?_
  refine xi_iaload (v := a5) dX12_feed_66 rfl (by unfold vp_in; decide) rfl ?_
  refine xi_bipush (v := 24) dX12_feed_67 (by decide) ?_
  refine xi_bipush (v := 8) dX12_feed_69 (by decide) ?_
  refine xi_iload 0 dX12_feed_71 rfl ?_
  refine xi_iconst (v := 4) dX12_feed_73 (by decide) ?_
  refine xi_irem (v := 0) dX12_feed_74 (by decide) (by decide) ?_
  refine xi_imul (v := 0) dX12_feed_75 (by decide) ?_
  refine xi_isub (v := 24) dX12_feed_76 (by decide) ?_
  refine xi_iushr dX12_feed_77 rfl ?_
  refine xi_sipush (v := 255) dX12_feed_78 (by decide) ?_
  refine xi_iand dX12_feed_81 rfl ?_
  refine xi_iastore (M' := (MX 20 f rd0 mo0 (fun _ => 0) (fun _ => 0) (upd (upd (upd (upd (upd (upd (upd (upd (upd (upd (upd (upd (upd (upd (upd (upd (upd (fun _ => 0) 0 (((a1.toUInt32 >>> (((24 : Int32)).toUInt32 &&& Int32.toUInt32 31)).toInt32) &&& 255)) 1 (((a1.toUInt32 >>> (((16 : Int32)).toUInt32 &&& Int32.toUInt32 31)).toInt32) &&& 255)) 2 (((a1.toUInt32 >>> (((8 : Int32)).toUInt32 &&& Int32.toUInt32 31)).toInt32) &&& 255)) 3 (((a1.toUInt32 >>> (((0 : Int32)).toUInt32 &&& Int32.toUInt32 31)).toInt32) &&& 255)) 4 (((a2.toUInt32 >>> (((24 : Int32)).toUInt32 &&& Int32.toUInt32 31)).toInt32) &&& 255)) 5 (((a2.toUInt32 >>> (((16 : Int32)).toUInt32 &&& Int32.toUInt32 31)).toInt32) &&& 255)) 6 (((a2.toUInt32 >>> (((8 : Int32)).toUInt32 &&& Int32.toUInt32 31)).toInt32) &&& 255)) 7 (((a2.toUInt32 >>> (((0 : Int32)).toUInt32 &&& Int32.toUInt32 31)).toInt32) &&& 255)) 8 (((a3.toUInt32 >>> (((24 : Int32)).toUInt32 &&& Int32.toUInt32 31)).toInt32) &&& 255)) 9 (((a3.toUInt32 >>> (((16 : Int32)).toUInt32 &&& Int32.toUInt32 31)).toInt32) &&& 255)) 10 (((a3.toUInt32 >>> (((8 : Int32)).toUInt32 &&& Int32.toUInt32 31)).toInt32) &&& 255)) 11 (((a3.toUInt32 >>> (((0 : Int32)).toUInt32 &&& Int32.toUInt32 31)).toInt32) &&& 255)) 12 (((a4.toUInt32 >>> (((24 : Int32)).toUInt32 &&& Int32.toUInt32 31)).toInt32) &&& 255)) 13 (((a4.toUInt32 >>> (((16 : Int32)).toUInt32 &&& Int32.toUInt32 31)).toInt32) &&& 255)) 14 (((a4.toUInt32 >>> (((8 : Int32)).toUInt32 &&& Int32.toUInt32 31)).toInt32) &&& 255)) 15 (((a4.toUInt32 >>> (((0 : Int32)).toUInt32 &&& Int32.toUInt32 31)).toInt32) &&& 255)) 16 (((a5.toUInt32 >>> (((24 : Int32)).toUInt32 &&& Int32.toUInt32 31)).toInt32) &&& 255)) ++ [.inl (0, 5, .inl (upd (upd (upd (upd (upd (fun _ => 0) 0 a1) 1 a2) 2 a3) 3 a4) 4 a5))])) dX12_feed_82 rfl (by unfold vp_in; decide) rfl ?_
  refine xi_iinc (v := 17) (lv' := [(7, .int 17), (6, .ref 163), (0, .ref 149), (1, .int a1), (2, .int a2), (3, .int a3), (4, .int a4), (5, .int a5)]) 0 dX12_feed_83 rfl (by decide) (by decide) rfl ?_
  refine xi_goto (tgt := 42) dX12_feed_86 (by decide) ?_
  refine xi_iload 0 dX12_feed_42 rfl ?_
  refine xi_bipush (v := 20) dX12_feed_44 (by decide) ?_
  refine xi_icmp_ge_f (tgt := 89) dX12_feed_46 (by decide) (by decide) ?_
  refine xi_aload_n 2 dX12_feed_49 rfl ?_
  refine xi_get (f := 4) dX12_feed_50 rfl rfl ok_9 (by decide) w_1012 rfl ?_
  refine xi_aload_n 2 dX12_feed_53 rfl ?_
  refine xi_get (f := 5) dX12_feed_54 rfl rfl ok_9 (by decide) w_1013 rfl ?_
  refine xi_iload 0 dX12_feed_57 rfl ?_
  refine xi_iadd (v := 17) dX12_feed_59 (by decide) ?_
  refine xi_aload 1 dX12_feed_60 rfl ?_
  refine xi_iload 0 dX12_feed_62 rfl ?_
  refine xi_iconst (v := 4) dX12_feed_64 (by decide) ?_
  refine xi_idiv (v := 4) dX12_feed_65 (by decide) (by decide) ?_
  refine xi_iaload (v := a5) dX12_feed_66 rfl (by unfold vp_in; decide) rfl ?_
  refine xi_bipush (v := 24) dX12_feed_67 (by decide) ?_
  refine xi_bipush (v := 8) dX12_feed_69 (by decide) ?_
  refine xi_iload 0 dX12_feed_71 rfl ?_
  refine xi_iconst (v := 4) dX12_feed_73 (by decide) ?_
  refine xi_irem (v := 1) dX12_feed_74 (by decide) (by decide) ?_
  refine xi_imul (v := 8) dX12_feed_75 (by decide) ?_
  refine xi_isub (v := 16) dX12_feed_76 (by decide) ?_
  refine xi_iushr dX12_feed_77 rfl ?_
  refine xi_sipush (v := 255) dX12_feed_78 (by decide) ?_
  refine xi_iand dX12_feed_81 rfl ?_
  refine xi_iastore (M' := (MX 20 f rd0 mo0 (fun _ => 0) (fun _ => 0) (upd (upd (upd (upd (upd (upd (upd (upd (upd (upd (upd (upd (upd (upd (upd (upd (upd (upd (fun _ => 0) 0 (((a1.toUInt32 >>> (((24 : Int32)).toUInt32 &&& Int32.toUInt32 31)).toInt32) &&& 255)) 1 (((a1.toUInt32 >>> (((16 : Int32)).toUInt32 &&& Int32.toUInt32 31)).toInt32) &&& 255)) 2 (((a1.toUInt32 >>> (((8 : Int32)).toUInt32 &&& Int32.toUInt32 31)).toInt32) &&& 255)) 3 (((a1.toUInt32 >>> (((0 : Int32)).toUInt32 &&& Int32.toUInt32 31)).toInt32) &&& 255)) 4 (((a2.toUInt32 >>> (((24 : Int32)).toUInt32 &&& Int32.toUInt32 31)).toInt32) &&& 255)) 5 (((a2.toUInt32 >>> (((16 : Int32)).toUInt32 &&& Int32.toUInt32 31)).toInt32) &&& 255)) 6 (((a2.toUInt32 >>> (((8 : Int32)).toUInt32 &&& Int32.toUInt32 31)).toInt32) &&& 255)) 7 (((a2.toUInt32 >>> (((0 : Int32)).toUInt32 &&& Int32.toUInt32 31)).toInt32) &&& 255)) 8 (((a3.toUInt32 >>> (((24 : Int32)).toUInt32 &&& Int32.toUInt32 31)).toInt32) &&& 255)) 9 (((a3.toUInt32 >>> (((16 : Int32)).toUInt32 &&& Int32.toUInt32 31)).toInt32) &&& 255)) 10 (((a3.toUInt32 >>> (((8 : Int32)).toUInt32 &&& Int32.toUInt32 31)).toInt32) &&& 255)) 11 (((a3.toUInt32 >>> (((0 : Int32)).toUInt32 &&& Int32.toUInt32 31)).toInt32) &&& 255)) 12 (((a4.toUInt32 >>> (((24 : Int32)).toUInt32 &&& Int32.toUInt32 31)).toInt32) &&& 255)) 13 (((a4.toUInt32 >>> (((16 : Int32)).toUInt32 &&& Int32.toUInt32 31)).toInt32) &&& 255)) 14 (((a4.toUInt32 >>> (((8 : Int32)).toUInt32 &&& Int32.toUInt32 31)).toInt32) &&& 255)) 15 (((a4.toUInt32 >>> (((0 : Int32)).toUInt32 &&& Int32.toUInt32 31)).toInt32) &&& 255)) 16 (((a5.toUInt32 >>> (((24 : Int32)).toUInt32 &&& Int32.toUInt32 31)).toInt32) &&& 255)) 17 (((a5.toUInt32 >>> (((16 : Int32)).toUInt32 &&& Int32.toUInt32 31)).toInt32) &&& 255)) ++ [.inl (0, 5, .inl (upd (upd (upd (upd (upd (fun _ => 0) 0 a1) 1 a2) 2 a3) 3 a4) 4 a5))])) dX12_feed_82 rfl (by unfold vp_in; decide) rfl ?_
  refine xi_iinc (v := 18) (lv' := [(7, .int 18), (6, .ref 163), (0, .ref 149), (1, .int a1), (2, .int a2), (3, .int a3), (4, .int a4), (5, .int a5)]) 0 dX12_feed_83 rfl (by decide) (by decide) rfl ?_
  refine xi_goto (tgt := 42) dX12_feed_86 (by decide) ?_
  refine xi_iload 0 dX12_feed_42 rfl ?_
  refine xi_bipush (v := 20) dX12_feed_44 (by decide) ?_
  refine xi_icmp_ge_f (tgt := 89) dX12_feed_46 (by decide) (by decide) ?_
  refine xi_aload_n 2 dX12_feed_49 rfl ?_
  refine xi_get (f := 4) dX12_feed_50 rfl rfl ok_9 (by decide) w_1012 rfl ?_
  refine xi_aload_n 2 dX12_feed_53 rfl ?_
  refine xi_get (f := 5) dX12_feed_54 rfl rfl ok_9 (by decide) w_1013 rfl ?_
  refine xi_iload 0 dX12_feed_57 rfl ?_
  refine xi_iadd (v := 18) dX12_feed_59 (by decide) ?_
  refine xi_aload 1 dX12_feed_60 rfl ?_
  refine xi_iload 0 dX12_feed_62 rfl ?_
  refine xi_iconst (v := 4) dX12_feed_64 (by decide) ?_
  refine xi_idiv (v := 4) dX12_feed_65 (by decide) (by decide) ?_
  refine xi_iaload (v := a5) dX12_feed_66 rfl (by unfold vp_in; decide) rfl ?_
  refine xi_bipush (v := 24) dX12_feed_67 (by decide) ?_
  refine xi_bipush (v := 8) dX12_feed_69 (by decide) ?_
  refine xi_iload 0 dX12_feed_71 rfl ?_
  refine xi_iconst (v := 4) dX12_feed_73 (by decide) ?_
  refine xi_irem (v := 2) dX12_feed_74 (by decide) (by decide) ?_
  refine xi_imul (v := 16) dX12_feed_75 (by decide) ?_
  refine xi_isub (v := 8) dX12_feed_76 (by decide) ?_
  refine xi_iushr dX12_feed_77 rfl ?_
  refine xi_sipush (v := 255) dX12_feed_78 (by decide) ?_
  refine xi_iand dX12_feed_81 rfl ?_
  refine xi_iastore (M' := (MX 20 f rd0 mo0 (fun _ => 0) (fun _ => 0) (upd (upd (upd (upd (upd (upd (upd (upd (upd (upd (upd (upd (upd (upd (upd (upd (upd (upd (upd (fun _ => 0) 0 (((a1.toUInt32 >>> (((24 : Int32)).toUInt32 &&& Int32.toUInt32 31)).toInt32) &&& 255)) 1 (((a1.toUInt32 >>> (((16 : Int32)).toUInt32 &&& Int32.toUInt32 31)).toInt32) &&& 255)) 2 (((a1.toUInt32 >>> (((8 : Int32)).toUInt32 &&& Int32.toUInt32 31)).toInt32) &&& 255)) 3 (((a1.toUInt32 >>> (((0 : Int32)).toUInt32 &&& Int32.toUInt32 31)).toInt32) &&& 255)) 4 (((a2.toUInt32 >>> (((24 : Int32)).toUInt32 &&& Int32.toUInt32 31)).toInt32) &&& 255)) 5 (((a2.toUInt32 >>> (((16 : Int32)).toUInt32 &&& Int32.toUInt32 31)).toInt32) &&& 255)) 6 (((a2.toUInt32 >>> (((8 : Int32)).toUInt32 &&& Int32.toUInt32 31)).toInt32) &&& 255)) 7 (((a2.toUInt32 >>> (((0 : Int32)).toUInt32 &&& Int32.toUInt32 31)).toInt32) &&& 255)) 8 (((a3.toUInt32 >>> (((24 : Int32)).toUInt32 &&& Int32.toUInt32 31)).toInt32) &&& 255)) 9 (((a3.toUInt32 >>> (((16 : Int32)).toUInt32 &&& Int32.toUInt32 31)).toInt32) &&& 255)) 10 (((a3.toUInt32 >>> (((8 : Int32)).toUInt32 &&& Int32.toUInt32 31)).toInt32) &&& 255)) 11 (((a3.toUInt32 >>> (((0 : Int32)).toUInt32 &&& Int32.toUInt32 31)).toInt32) &&& 255)) 12 (((a4.toUInt32 >>> (((24 : Int32)).toUInt32 &&& Int32.toUInt32 31)).toInt32) &&& 255)) 13 (((a4.toUInt32 >>> (((16 : Int32)).toUInt32 &&& Int32.toUInt32 31)).toInt32) &&& 255)) 14 (((a4.toUInt32 >>> (((8 : Int32)).toUInt32 &&& Int32.toUInt32 31)).toInt32) &&& 255)) 15 (((a4.toUInt32 >>> (((0 : Int32)).toUInt32 &&& Int32.toUInt32 31)).toInt32) &&& 255)) 16 (((a5.toUInt32 >>> (((24 : Int32)).toUInt32 &&& Int32.toUInt32 31)).toInt32) &&& 255)) 17 (((a5.toUInt32 >>> (((16 : Int32)).toUInt32 &&& Int32.toUInt32 31)).toInt32) &&& 255)) 18 (((a5.toUInt32 >>> (((8 : Int32)).toUInt32 &&& Int32.toUInt32 31)).toInt32) &&& 255)) ++ [.inl (0, 5, .inl (upd (upd (upd (upd (upd (fun _ => 0) 0 a1) 1 a2) 2 a3) 3 a4) 4 a5))])) dX12_feed_82 rfl (by unfold vp_in; decide) rfl ?_
  refine xi_iinc (v := 19) (lv' := [(7, .int 19), (6, .ref 163), (0, .ref 149), (1, .int a1), (2, .int a2), (3, .int a3), (4, .int a4), (5, .int a5)]) 0 dX12_feed_83 rfl (by decide) (by decide) rfl ?_
  refine xi_goto (tgt := 42) dX12_feed_86 (by decide) ?_
  refine xi_iload 0 dX12_feed_42 rfl ?_
  refine xi_bipush (v := 20) dX12_feed_44 (by decide) ?_
  refine xi_icmp_ge_f (tgt := 89) dX12_feed_46 (by decide) (by decide) ?_
  refine xi_aload_n 2 dX12_feed_49 rfl ?_
  refine xi_get (f := 4) dX12_feed_50 rfl rfl ok_9 (by decide) w_1012 rfl ?_
  refine xi_aload_n 2 dX12_feed_53 rfl ?_
  refine xi_get (f := 5) dX12_feed_54 rfl rfl ok_9 (by decide) w_1013 rfl ?_
  refine xi_iload 0 dX12_feed_57 rfl ?_
  refine xi_iadd (v := 19) dX12_feed_59 (by decide) ?_
  refine xi_aload 1 dX12_feed_60 rfl ?_
  refine xi_iload 0 dX12_feed_62 rfl ?_
  refine xi_iconst (v := 4) dX12_feed_64 (by decide) ?_
  refine xi_idiv (v := 4) dX12_feed_65 (by decide) (by decide) ?_
  refine xi_iaload (v := a5) dX12_feed_66 rfl (by unfold vp_in; decide) rfl ?_
  refine xi_bipush (v := 24) dX12_feed_67 (by decide) ?_
  refine xi_bipush (v := 8) dX12_feed_69 (by decide) ?_
  refine xi_iload 0 dX12_feed_71 rfl ?_
  refine xi_iconst (v := 4) dX12_feed_73 (by decide) ?_
  refine xi_irem (v := 3) dX12_feed_74 (by decide) (by decide) ?_
  refine xi_imul (v := 24) dX12_feed_75 (by decide) ?_
  refine xi_isub (v := 0) dX12_feed_76 (by decide) ?_
  refine xi_iushr dX12_feed_77 rfl ?_
  refine xi_sipush (v := 255) dX12_feed_78 (by decide) ?_
  refine xi_iand dX12_feed_81 rfl ?_
  refine xi_iastore (M' := (MX 20 f rd0 mo0 (fun _ => 0) (fun _ => 0) (upd (upd (upd (upd (upd (upd (upd (upd (upd (upd (upd (upd (upd (upd (upd (upd (upd (upd (upd (upd (fun _ => 0) 0 (((a1.toUInt32 >>> (((24 : Int32)).toUInt32 &&& Int32.toUInt32 31)).toInt32) &&& 255)) 1 (((a1.toUInt32 >>> (((16 : Int32)).toUInt32 &&& Int32.toUInt32 31)).toInt32) &&& 255)) 2 (((a1.toUInt32 >>> (((8 : Int32)).toUInt32 &&& Int32.toUInt32 31)).toInt32) &&& 255)) 3 (((a1.toUInt32 >>> (((0 : Int32)).toUInt32 &&& Int32.toUInt32 31)).toInt32) &&& 255)) 4 (((a2.toUInt32 >>> (((24 : Int32)).toUInt32 &&& Int32.toUInt32 31)).toInt32) &&& 255)) 5 (((a2.toUInt32 >>> (((16 : Int32)).toUInt32 &&& Int32.toUInt32 31)).toInt32) &&& 255)) 6 (((a2.toUInt32 >>> (((8 : Int32)).toUInt32 &&& Int32.toUInt32 31)).toInt32) &&& 255)) 7 (((a2.toUInt32 >>> (((0 : Int32)).toUInt32 &&& Int32.toUInt32 31)).toInt32) &&& 255)) 8 (((a3.toUInt32 >>> (((24 : Int32)).toUInt32 &&& Int32.toUInt32 31)).toInt32) &&& 255)) 9 (((a3.toUInt32 >>> (((16 : Int32)).toUInt32 &&& Int32.toUInt32 31)).toInt32) &&& 255)) 10 (((a3.toUInt32 >>> (((8 : Int32)).toUInt32 &&& Int32.toUInt32 31)).toInt32) &&& 255)) 11 (((a3.toUInt32 >>> (((0 : Int32)).toUInt32 &&& Int32.toUInt32 31)).toInt32) &&& 255)) 12 (((a4.toUInt32 >>> (((24 : Int32)).toUInt32 &&& Int32.toUInt32 31)).toInt32) &&& 255)) 13 (((a4.toUInt32 >>> (((16 : Int32)).toUInt32 &&& Int32.toUInt32 31)).toInt32) &&& 255)) 14 (((a4.toUInt32 >>> (((8 : Int32)).toUInt32 &&& Int32.toUInt32 31)).toInt32) &&& 255)) 15 (((a4.toUInt32 >>> (((0 : Int32)).toUInt32 &&& Int32.toUInt32 31)).toInt32) &&& 255)) 16 (((a5.toUInt32 >>> (((24 : Int32)).toUInt32 &&& Int32.toUInt32 31)).toInt32) &&& 255)) 17 (((a5.toUInt32 >>> (((16 : Int32)).toUInt32 &&& Int32.toUInt32 31)).toInt32) &&& 255)) 18 (((a5.toUInt32 >>> (((8 : Int32)).toUInt32 &&& Int32.toUInt32 31)).toInt32) &&& 255)) 19 (((a5.toUInt32 >>> (((0 : Int32)).toUInt32 &&& Int32.toUInt32 31)).toInt32) &&& 255)) ++ [.inl (0, 5, .inl (upd (upd (upd (upd (upd (fun _ => 0) 0 a1) 1 a2) 2 a3) 3 a4) 4 a5))])) dX12_feed_82 rfl (by unfold vp_in; decide) rfl ?_
  refine xi_iinc (v := 20) (lv' := [(7, .int 20), (6, .ref 163), (0, .ref 149), (1, .int a1), (2, .int a2), (3, .int a3), (4, .int a4), (5, .int a5)]) 0 dX12_feed_83 rfl (by decide) (by decide) rfl ?_
  refine xi_goto (tgt := 42) dX12_feed_86 (by decide) ?_
  refine xi_iload 0 dX12_feed_42 rfl ?_
  refine xi_bipush (v := 20) dX12_feed_44 (by decide) ?_
  refine xi_icmp_ge_t (tgt := 89) dX12_feed_46 (by decide) (by decide) ?_
  refine xi_aload_n 2 dX12_feed_89 rfl ?_
  refine xi_dup dX12_feed_90 rfl ?_
  refine xi_get (f := 5) dX12_feed_91 rfl rfl ok_9 (by decide) w_1013 rfl ?_
  refine xi_bipush (v := 20) dX12_feed_94 (by decide) ?_
  refine xi_iadd (v := 20) dX12_feed_96 (by decide) ?_
  refine xi_put (f := 5) (ty := .int) (M' := (MX 20 f rd0 (.inr (9, [.ref 150, .ref 151, .ref 152, .int 0, .ref 153, .int 20, .int 0, .int (-1), .int 0, .int 0, .int 0, .int 0, .int 0, .ref 154, .ref 155, .ref 156, .ref 157, .int 0, .int 0, .int 0, .ref 158, .ref 159, .ref 160, .ref 161, .ref 162, .int 0])) (fun _ => 0) (fun _ => 0) (upd (upd (upd (upd (upd (upd (upd (upd (upd (upd (upd (upd (upd (upd (upd (upd (upd (upd (upd (upd (fun _ => 0) 0 (((a1.toUInt32 >>> (((24 : Int32)).toUInt32 &&& Int32.toUInt32 31)).toInt32) &&& 255)) 1 (((a1.toUInt32 >>> (((16 : Int32)).toUInt32 &&& Int32.toUInt32 31)).toInt32) &&& 255)) 2 (((a1.toUInt32 >>> (((8 : Int32)).toUInt32 &&& Int32.toUInt32 31)).toInt32) &&& 255)) 3 (((a1.toUInt32 >>> (((0 : Int32)).toUInt32 &&& Int32.toUInt32 31)).toInt32) &&& 255)) 4 (((a2.toUInt32 >>> (((24 : Int32)).toUInt32 &&& Int32.toUInt32 31)).toInt32) &&& 255)) 5 (((a2.toUInt32 >>> (((16 : Int32)).toUInt32 &&& Int32.toUInt32 31)).toInt32) &&& 255)) 6 (((a2.toUInt32 >>> (((8 : Int32)).toUInt32 &&& Int32.toUInt32 31)).toInt32) &&& 255)) 7 (((a2.toUInt32 >>> (((0 : Int32)).toUInt32 &&& Int32.toUInt32 31)).toInt32) &&& 255)) 8 (((a3.toUInt32 >>> (((24 : Int32)).toUInt32 &&& Int32.toUInt32 31)).toInt32) &&& 255)) 9 (((a3.toUInt32 >>> (((16 : Int32)).toUInt32 &&& Int32.toUInt32 31)).toInt32) &&& 255)) 10 (((a3.toUInt32 >>> (((8 : Int32)).toUInt32 &&& Int32.toUInt32 31)).toInt32) &&& 255)) 11 (((a3.toUInt32 >>> (((0 : Int32)).toUInt32 &&& Int32.toUInt32 31)).toInt32) &&& 255)) 12 (((a4.toUInt32 >>> (((24 : Int32)).toUInt32 &&& Int32.toUInt32 31)).toInt32) &&& 255)) 13 (((a4.toUInt32 >>> (((16 : Int32)).toUInt32 &&& Int32.toUInt32 31)).toInt32) &&& 255)) 14 (((a4.toUInt32 >>> (((8 : Int32)).toUInt32 &&& Int32.toUInt32 31)).toInt32) &&& 255)) 15 (((a4.toUInt32 >>> (((0 : Int32)).toUInt32 &&& Int32.toUInt32 31)).toInt32) &&& 255)) 16 (((a5.toUInt32 >>> (((24 : Int32)).toUInt32 &&& Int32.toUInt32 31)).toInt32) &&& 255)) 17 (((a5.toUInt32 >>> (((16 : Int32)).toUInt32 &&& Int32.toUInt32 31)).toInt32) &&& 255)) 18 (((a5.toUInt32 >>> (((8 : Int32)).toUInt32 &&& Int32.toUInt32 31)).toInt32) &&& 255)) 19 (((a5.toUInt32 >>> (((0 : Int32)).toUInt32 &&& Int32.toUInt32 31)).toInt32) &&& 255)) ++ [.inl (0, 5, .inl (upd (upd (upd (upd (upd (fun _ => 0) 0 a1) 1 a2) 2 a3) 3 a4) 4 a5))])) dX12_feed_97 rfl rfl ok_9 (by decide) w_1013 rfl pf_I (fun _ h => by cases h) rfl rfl (Nat.le_of_ble_eq_true rfl) rfl ?_
  refine xi_aload_n 2 dX12_feed_100 rfl ?_
  refine xi_get (f := 5) dX12_feed_101 rfl rfl ok_9 (by decide) w_1013 rfl ?_
  exact xi_iret dX12_feed_104 rfl rfl (Nat.le_of_ble_eq_true rfl) (Nat.le_of_ble_eq_true rfl) ⟨rfl, trivial⟩
end
