-- ===== PART A: goes FIRST, ahead of the names: the tables' words, and 'selects' of the private methods out of them =====
/-- a private method of a class that the tables say can be made, by its rows of tables_1 -/
def lw_okq (q : MethodName × Nat) : Prop := (q.1.cls ≠ "java/lang/invoke/MethodHandle" ∧ q.1.cls ≠ "java/lang/invoke/VarHandle") ∧ Cond.instantiable q.1.cls q.2 ∈ tables_1 ∧ Cond.privateMethod q.1 ∈ tables_1 ∧ Cond.instanceMethod q.1 ∈ tables_1
theorem lw_p0 : lw_okq (⟨"SquaredPaper$Figure", "relink", "()V"⟩, 6) := ⟨⟨by decide +kernel, by decide +kernel⟩, List.mem_of_getElem? (i := 28) (by decide +kernel), List.mem_of_getElem? (i := 131) (by decide +kernel), List.mem_of_getElem? (i := 132) (by decide +kernel)⟩
theorem lw_p1 : lw_okq (⟨"SquaredPaper$Figure", "passesRightOf", "(III)Z"⟩, 6) := ⟨⟨by decide +kernel, by decide +kernel⟩, List.mem_of_getElem? (i := 28) (by decide +kernel), List.mem_of_getElem? (i := 244) (by decide +kernel), List.mem_of_getElem? (i := 245) (by decide +kernel)⟩
theorem lw_p2 : lw_okq (⟨"SquaredPaper", "keepDraft", "()V"⟩, 7) := ⟨⟨by decide +kernel, by decide +kernel⟩, List.mem_of_getElem? (i := 20) (by decide +kernel), List.mem_of_getElem? (i := 267) (by decide +kernel), List.mem_of_getElem? (i := 268) (by decide +kernel)⟩
theorem lw_p3 : lw_okq (⟨"java/lang/Throwable", "fillInStackTrace", "(I)Ljava/lang/Throwable;"⟩, 6) := ⟨⟨by decide +kernel, by decide +kernel⟩, List.mem_of_getElem? (i := 415) (by decide +kernel), List.mem_of_getElem? (i := 413) (by decide +kernel), List.mem_of_getElem? (i := 414) (by decide +kernel)⟩
theorem lw_p4 : lw_okq (⟨"SquaredPaper", "checkRing", "(I)V"⟩, 7) := ⟨⟨by decide +kernel, by decide +kernel⟩, List.mem_of_getElem? (i := 20) (by decide +kernel), List.mem_of_getElem? (i := 525) (by decide +kernel), List.mem_of_getElem? (i := 526) (by decide +kernel)⟩
theorem lw_p5 : lw_okq (⟨"SquaredPaper", "checkCorner", "(II)V"⟩, 7) := ⟨⟨by decide +kernel, by decide +kernel⟩, List.mem_of_getElem? (i := 20) (by decide +kernel), List.mem_of_getElem? (i := 563) (by decide +kernel), List.mem_of_getElem? (i := 564) (by decide +kernel)⟩
theorem lw_p6 : lw_okq (⟨"SquaredPaper$Figure", "closeGap", "(II)V"⟩, 6) := ⟨⟨by decide +kernel, by decide +kernel⟩, List.mem_of_getElem? (i := 28) (by decide +kernel), List.mem_of_getElem? (i := 637) (by decide +kernel), List.mem_of_getElem? (i := 638) (by decide +kernel)⟩
theorem lw_p7 : lw_okq (⟨"SquaredPaperModel", "setCorner", "(IIII)V"⟩, 18) := ⟨⟨by decide +kernel, by decide +kernel⟩, List.mem_of_getElem? (i := 783) (by decide +kernel), List.mem_of_getElem? (i := 789) (by decide +kernel), List.mem_of_getElem? (i := 790) (by decide +kernel)⟩
theorem lw_p8 : lw_okq (⟨"SquaredPaperModel", "readText", "()I"⟩, 18) := ⟨⟨by decide +kernel, by decide +kernel⟩, List.mem_of_getElem? (i := 783) (by decide +kernel), List.mem_of_getElem? (i := 870) (by decide +kernel), List.mem_of_getElem? (i := 871) (by decide +kernel)⟩
theorem lw_p9 : lw_okq (⟨"SquaredPaperModel", "isLetter", "(I)Z"⟩, 18) := ⟨⟨by decide +kernel, by decide +kernel⟩, List.mem_of_getElem? (i := 783) (by decide +kernel), List.mem_of_getElem? (i := 874) (by decide +kernel), List.mem_of_getElem? (i := 875) (by decide +kernel)⟩
theorem lw_p10 : lw_okq (⟨"SquaredPaperModel", "many", "(I)I"⟩, 18) := ⟨⟨by decide +kernel, by decide +kernel⟩, List.mem_of_getElem? (i := 783) (by decide +kernel), List.mem_of_getElem? (i := 878) (by decide +kernel), List.mem_of_getElem? (i := 879) (by decide +kernel)⟩
theorem lw_p11 : lw_okq (⟨"SquaredPaperModel", "broken", "()I"⟩, 18) := ⟨⟨by decide +kernel, by decide +kernel⟩, List.mem_of_getElem? (i := 783) (by decide +kernel), List.mem_of_getElem? (i := 882) (by decide +kernel), List.mem_of_getElem? (i := 883) (by decide +kernel)⟩
theorem lw_p12 : lw_okq (⟨"SquaredPaperModel", "findSides", "()V"⟩, 18) := ⟨⟨by decide +kernel, by decide +kernel⟩, List.mem_of_getElem? (i := 783) (by decide +kernel), List.mem_of_getElem? (i := 886) (by decide +kernel), List.mem_of_getElem? (i := 887) (by decide +kernel)⟩
theorem lw_p13 : lw_okq (⟨"SquaredPaperModel", "x", "(II)I"⟩, 18) := ⟨⟨by decide +kernel, by decide +kernel⟩, List.mem_of_getElem? (i := 783) (by decide +kernel), List.mem_of_getElem? (i := 890) (by decide +kernel), List.mem_of_getElem? (i := 891) (by decide +kernel)⟩
theorem lw_p14 : lw_okq (⟨"SquaredPaperModel", "y", "(II)I"⟩, 18) := ⟨⟨by decide +kernel, by decide +kernel⟩, List.mem_of_getElem? (i := 783) (by decide +kernel), List.mem_of_getElem? (i := 894) (by decide +kernel), List.mem_of_getElem? (i := 895) (by decide +kernel)⟩
theorem lw_p15 : lw_okq (⟨"SquaredPaperModel", "next", "(II)I"⟩, 18) := ⟨⟨by decide +kernel, by decide +kernel⟩, List.mem_of_getElem? (i := 783) (by decide +kernel), List.mem_of_getElem? (i := 898) (by decide +kernel), List.mem_of_getElem? (i := 899) (by decide +kernel)⟩
def lw_privs_1 : List (MethodName × Nat) := [(⟨"SquaredPaper$Figure", "relink", "()V"⟩, 6), (⟨"SquaredPaper$Figure", "passesRightOf", "(III)Z"⟩, 6), (⟨"SquaredPaper", "keepDraft", "()V"⟩, 7), (⟨"java/lang/Throwable", "fillInStackTrace", "(I)Ljava/lang/Throwable;"⟩, 6), (⟨"SquaredPaper", "checkRing", "(I)V"⟩, 7), (⟨"SquaredPaper", "checkCorner", "(II)V"⟩, 7), (⟨"SquaredPaper$Figure", "closeGap", "(II)V"⟩, 6), (⟨"SquaredPaperModel", "setCorner", "(IIII)V"⟩, 18), (⟨"SquaredPaperModel", "readText", "()I"⟩, 18), (⟨"SquaredPaperModel", "isLetter", "(I)Z"⟩, 18), (⟨"SquaredPaperModel", "many", "(I)I"⟩, 18), (⟨"SquaredPaperModel", "broken", "()I"⟩, 18), (⟨"SquaredPaperModel", "findSides", "()V"⟩, 18), (⟨"SquaredPaperModel", "x", "(II)I"⟩, 18), (⟨"SquaredPaperModel", "y", "(II)I"⟩, 18), (⟨"SquaredPaperModel", "next", "(II)I"⟩, 18)]
theorem lw_r1 : ∀ q ∈ lw_privs_1, lw_okq q := List.forall_mem_cons.mpr ⟨lw_p0, List.forall_mem_cons.mpr ⟨lw_p1, List.forall_mem_cons.mpr ⟨lw_p2, List.forall_mem_cons.mpr ⟨lw_p3, List.forall_mem_cons.mpr ⟨lw_p4, List.forall_mem_cons.mpr ⟨lw_p5, List.forall_mem_cons.mpr ⟨lw_p6, List.forall_mem_cons.mpr ⟨lw_p7, List.forall_mem_cons.mpr ⟨lw_p8, List.forall_mem_cons.mpr ⟨lw_p9, List.forall_mem_cons.mpr ⟨lw_p10, List.forall_mem_cons.mpr ⟨lw_p11, List.forall_mem_cons.mpr ⟨lw_p12, List.forall_mem_cons.mpr ⟨lw_p13, List.forall_mem_cons.mpr ⟨lw_p14, List.forall_mem_cons.mpr ⟨lw_p15, fun _ h => absurd h List.not_mem_nil⟩⟩⟩⟩⟩⟩⟩⟩⟩⟩⟩⟩⟩⟩⟩⟩
theorem lw_p16 : lw_okq (⟨"SquaredPaperModel", "isCrossed", "(IIIII)Z"⟩, 18) := ⟨⟨by decide +kernel, by decide +kernel⟩, List.mem_of_getElem? (i := 783) (by decide +kernel), List.mem_of_getElem? (i := 902) (by decide +kernel), List.mem_of_getElem? (i := 903) (by decide +kernel)⟩
theorem lw_p17 : lw_okq (⟨"SquaredPaperModel", "areTouching", "(II)Z"⟩, 18) := ⟨⟨by decide +kernel, by decide +kernel⟩, List.mem_of_getElem? (i := 783) (by decide +kernel), List.mem_of_getElem? (i := 909) (by decide +kernel), List.mem_of_getElem? (i := 910) (by decide +kernel)⟩
theorem lw_p18 : lw_okq (⟨"SquaredPaperModel", "isNext", "(II)Z"⟩, 18) := ⟨⟨by decide +kernel, by decide +kernel⟩, List.mem_of_getElem? (i := 783) (by decide +kernel), List.mem_of_getElem? (i := 913) (by decide +kernel), List.mem_of_getElem? (i := 914) (by decide +kernel)⟩
theorem lw_p19 : lw_okq (⟨"SquaredPaperModel", "isMet", "(IIIII)Z"⟩, 18) := ⟨⟨by decide +kernel, by decide +kernel⟩, List.mem_of_getElem? (i := 783) (by decide +kernel), List.mem_of_getElem? (i := 920) (by decide +kernel), List.mem_of_getElem? (i := 921) (by decide +kernel)⟩
theorem lw_p20 : lw_okq (⟨"SquaredPaperModel", "isRule5", "()Z"⟩, 18) := ⟨⟨by decide +kernel, by decide +kernel⟩, List.mem_of_getElem? (i := 783) (by decide +kernel), List.mem_of_getElem? (i := 927) (by decide +kernel), List.mem_of_getElem? (i := 928) (by decide +kernel)⟩
theorem lw_p21 : lw_okq (⟨"SquaredPaperModel", "surrounds", "(III)Z"⟩, 18) := ⟨⟨by decide +kernel, by decide +kernel⟩, List.mem_of_getElem? (i := 783) (by decide +kernel), List.mem_of_getElem? (i := 931) (by decide +kernel), List.mem_of_getElem? (i := 932) (by decide +kernel)⟩
theorem lw_p22 : lw_okq (⟨"SquaredPaperModel", "cornerMany", "()I"⟩, 18) := ⟨⟨by decide +kernel, by decide +kernel⟩, List.mem_of_getElem? (i := 783) (by decide +kernel), List.mem_of_getElem? (i := 943) (by decide +kernel), List.mem_of_getElem? (i := 944) (by decide +kernel)⟩
theorem lw_p23 : lw_okq (⟨"SquaredPaperModel", "area", "()I"⟩, 18) := ⟨⟨by decide +kernel, by decide +kernel⟩, List.mem_of_getElem? (i := 783) (by decide +kernel), List.mem_of_getElem? (i := 947) (by decide +kernel), List.mem_of_getElem? (i := 948) (by decide +kernel)⟩
theorem lw_p24 : lw_okq (⟨"SquaredPaperModel", "sumOf", "(I)I"⟩, 18) := ⟨⟨by decide +kernel, by decide +kernel⟩, List.mem_of_getElem? (i := 783) (by decide +kernel), List.mem_of_getElem? (i := 951) (by decide +kernel), List.mem_of_getElem? (i := 952) (by decide +kernel)⟩
theorem lw_p25 : lw_okq (⟨"SquaredPaperModel", "ringPoints", "(I)I"⟩, 18) := ⟨⟨by decide +kernel, by decide +kernel⟩, List.mem_of_getElem? (i := 783) (by decide +kernel), List.mem_of_getElem? (i := 958) (by decide +kernel), List.mem_of_getElem? (i := 959) (by decide +kernel)⟩
theorem lw_p26 : lw_okq (⟨"SquaredPaperModel", "pointsOf", "(II)I"⟩, 18) := ⟨⟨by decide +kernel, by decide +kernel⟩, List.mem_of_getElem? (i := 783) (by decide +kernel), List.mem_of_getElem? (i := 962) (by decide +kernel), List.mem_of_getElem? (i := 963) (by decide +kernel)⟩
theorem lw_p27 : lw_okq (⟨"SquaredPaperModel", "inside", "()I"⟩, 18) := ⟨⟨by decide +kernel, by decide +kernel⟩, List.mem_of_getElem? (i := 783) (by decide +kernel), List.mem_of_getElem? (i := 969) (by decide +kernel), List.mem_of_getElem? (i := 970) (by decide +kernel)⟩
theorem lw_p28 : lw_okq (⟨"SquaredPaperModel", "pointsIn", "(IZ)I"⟩, 18) := ⟨⟨by decide +kernel, by decide +kernel⟩, List.mem_of_getElem? (i := 783) (by decide +kernel), List.mem_of_getElem? (i := 973) (by decide +kernel), List.mem_of_getElem? (i := 974) (by decide +kernel)⟩
theorem lw_p29 : lw_okq (⟨"SquaredPaperModel", "where", "(II)I"⟩, 18) := ⟨⟨by decide +kernel, by decide +kernel⟩, List.mem_of_getElem? (i := 783) (by decide +kernel), List.mem_of_getElem? (i := 977) (by decide +kernel), List.mem_of_getElem? (i := 978) (by decide +kernel)⟩
theorem lw_p30 : lw_okq (⟨"SquaredPaperModel", "whereNotOn", "(II)I"⟩, 18) := ⟨⟨by decide +kernel, by decide +kernel⟩, List.mem_of_getElem? (i := 783) (by decide +kernel), List.mem_of_getElem? (i := 981) (by decide +kernel), List.mem_of_getElem? (i := 982) (by decide +kernel)⟩
theorem lw_p31 : lw_okq (⟨"SquaredPaperModel", "kindsOf", "(I)I"⟩, 18) := ⟨⟨by decide +kernel, by decide +kernel⟩, List.mem_of_getElem? (i := 783) (by decide +kernel), List.mem_of_getElem? (i := 985) (by decide +kernel), List.mem_of_getElem? (i := 986) (by decide +kernel)⟩
def lw_privs_2 : List (MethodName × Nat) := [(⟨"SquaredPaperModel", "isCrossed", "(IIIII)Z"⟩, 18), (⟨"SquaredPaperModel", "areTouching", "(II)Z"⟩, 18), (⟨"SquaredPaperModel", "isNext", "(II)Z"⟩, 18), (⟨"SquaredPaperModel", "isMet", "(IIIII)Z"⟩, 18), (⟨"SquaredPaperModel", "isRule5", "()Z"⟩, 18), (⟨"SquaredPaperModel", "surrounds", "(III)Z"⟩, 18), (⟨"SquaredPaperModel", "cornerMany", "()I"⟩, 18), (⟨"SquaredPaperModel", "area", "()I"⟩, 18), (⟨"SquaredPaperModel", "sumOf", "(I)I"⟩, 18), (⟨"SquaredPaperModel", "ringPoints", "(I)I"⟩, 18), (⟨"SquaredPaperModel", "pointsOf", "(II)I"⟩, 18), (⟨"SquaredPaperModel", "inside", "()I"⟩, 18), (⟨"SquaredPaperModel", "pointsIn", "(IZ)I"⟩, 18), (⟨"SquaredPaperModel", "where", "(II)I"⟩, 18), (⟨"SquaredPaperModel", "whereNotOn", "(II)I"⟩, 18), (⟨"SquaredPaperModel", "kindsOf", "(I)I"⟩, 18)]
theorem lw_r2 : ∀ q ∈ lw_privs_2, lw_okq q := List.forall_mem_cons.mpr ⟨lw_p16, List.forall_mem_cons.mpr ⟨lw_p17, List.forall_mem_cons.mpr ⟨lw_p18, List.forall_mem_cons.mpr ⟨lw_p19, List.forall_mem_cons.mpr ⟨lw_p20, List.forall_mem_cons.mpr ⟨lw_p21, List.forall_mem_cons.mpr ⟨lw_p22, List.forall_mem_cons.mpr ⟨lw_p23, List.forall_mem_cons.mpr ⟨lw_p24, List.forall_mem_cons.mpr ⟨lw_p25, List.forall_mem_cons.mpr ⟨lw_p26, List.forall_mem_cons.mpr ⟨lw_p27, List.forall_mem_cons.mpr ⟨lw_p28, List.forall_mem_cons.mpr ⟨lw_p29, List.forall_mem_cons.mpr ⟨lw_p30, List.forall_mem_cons.mpr ⟨lw_p31, fun _ h => absurd h List.not_mem_nil⟩⟩⟩⟩⟩⟩⟩⟩⟩⟩⟩⟩⟩⟩⟩⟩
theorem lw_p32 : lw_okq (⟨"SquaredPaperModel", "kind", "(II)I"⟩, 18) := ⟨⟨by decide +kernel, by decide +kernel⟩, List.mem_of_getElem? (i := 783) (by decide +kernel), List.mem_of_getElem? (i := 989) (by decide +kernel), List.mem_of_getElem? (i := 990) (by decide +kernel)⟩
theorem lw_p33 : lw_okq (⟨"SquaredPaperModel", "bend", "(II)I"⟩, 18) := ⟨⟨by decide +kernel, by decide +kernel⟩, List.mem_of_getElem? (i := 783) (by decide +kernel), List.mem_of_getElem? (i := 993) (by decide +kernel), List.mem_of_getElem? (i := 994) (by decide +kernel)⟩
theorem lw_p34 : lw_okq (⟨"SquaredPaperModel", "before", "(II)I"⟩, 18) := ⟨⟨by decide +kernel, by decide +kernel⟩, List.mem_of_getElem? (i := 783) (by decide +kernel), List.mem_of_getElem? (i := 997) (by decide +kernel), List.mem_of_getElem? (i := 998) (by decide +kernel)⟩
theorem lw_p35 : lw_okq (⟨"SquaredPaperModel", "isEar", "(I)Z"⟩, 18) := ⟨⟨by decide +kernel, by decide +kernel⟩, List.mem_of_getElem? (i := 783) (by decide +kernel), List.mem_of_getElem? (i := 1001) (by decide +kernel), List.mem_of_getElem? (i := 1002) (by decide +kernel)⟩
theorem lw_p36 : lw_okq (⟨"SquaredPaperModel", "areSeeing", "(IIII)Z"⟩, 18) := ⟨⟨by decide +kernel, by decide +kernel⟩, List.mem_of_getElem? (i := 783) (by decide +kernel), List.mem_of_getElem? (i := 1005) (by decide +kernel), List.mem_of_getElem? (i := 1006) (by decide +kernel)⟩
theorem lw_p37 : lw_okq (⟨"SquaredPaperModel", "isInTheWay", "(IIIII)Z"⟩, 18) := ⟨⟨by decide +kernel, by decide +kernel⟩, List.mem_of_getElem? (i := 783) (by decide +kernel), List.mem_of_getElem? (i := 1009) (by decide +kernel), List.mem_of_getElem? (i := 1010) (by decide +kernel)⟩
theorem lw_p38 : lw_okq (⟨"SquaredPaperModel", "hull", "()I"⟩, 18) := ⟨⟨by decide +kernel, by decide +kernel⟩, List.mem_of_getElem? (i := 783) (by decide +kernel), List.mem_of_getElem? (i := 1013) (by decide +kernel), List.mem_of_getElem? (i := 1014) (by decide +kernel)⟩
theorem lw_p39 : lw_okq (⟨"SquaredPaperModel", "squareOf", "(II)I"⟩, 18) := ⟨⟨by decide +kernel, by decide +kernel⟩, List.mem_of_getElem? (i := 783) (by decide +kernel), List.mem_of_getElem? (i := 1017) (by decide +kernel), List.mem_of_getElem? (i := 1018) (by decide +kernel)⟩
theorem lw_p40 : lw_okq (⟨"SquaredPaperModel", "seenBy", "(II)I"⟩, 18) := ⟨⟨by decide +kernel, by decide +kernel⟩, List.mem_of_getElem? (i := 783) (by decide +kernel), List.mem_of_getElem? (i := 1021) (by decide +kernel), List.mem_of_getElem? (i := 1022) (by decide +kernel)⟩
theorem lw_p41 : lw_okq (⟨"SquaredPaperModel", "isRing", "(I)Z"⟩, 18) := ⟨⟨by decide +kernel, by decide +kernel⟩, List.mem_of_getElem? (i := 783) (by decide +kernel), List.mem_of_getElem? (i := 1029) (by decide +kernel), List.mem_of_getElem? (i := 1030) (by decide +kernel)⟩
theorem lw_p42 : lw_okq (⟨"SquaredPaperModel", "longest", "(I)I"⟩, 18) := ⟨⟨by decide +kernel, by decide +kernel⟩, List.mem_of_getElem? (i := 783) (by decide +kernel), List.mem_of_getElem? (i := 1033) (by decide +kernel), List.mem_of_getElem? (i := 1034) (by decide +kernel)⟩
theorem lw_p43 : lw_okq (⟨"SquaredPaperModel", "lengthOf", "(II)I"⟩, 18) := ⟨⟨by decide +kernel, by decide +kernel⟩, List.mem_of_getElem? (i := 783) (by decide +kernel), List.mem_of_getElem? (i := 1037) (by decide +kernel), List.mem_of_getElem? (i := 1038) (by decide +kernel)⟩
theorem lw_p44 : lw_okq (⟨"SquaredPaperModel", "isCorner", "(II)Z"⟩, 18) := ⟨⟨by decide +kernel, by decide +kernel⟩, List.mem_of_getElem? (i := 783) (by decide +kernel), List.mem_of_getElem? (i := 1045) (by decide +kernel), List.mem_of_getElem? (i := 1046) (by decide +kernel)⟩
theorem lw_p45 : lw_okq (⟨"SquaredPaperModel", "tryMove", "(IIII)I"⟩, 18) := ⟨⟨by decide +kernel, by decide +kernel⟩, List.mem_of_getElem? (i := 783) (by decide +kernel), List.mem_of_getElem? (i := 1064) (by decide +kernel), List.mem_of_getElem? (i := 1065) (by decide +kernel)⟩
theorem lw_p46 : lw_okq (⟨"SquaredPaperModel", "begin", "()V"⟩, 18) := ⟨⟨by decide +kernel, by decide +kernel⟩, List.mem_of_getElem? (i := 783) (by decide +kernel), List.mem_of_getElem? (i := 1068) (by decide +kernel), List.mem_of_getElem? (i := 1069) (by decide +kernel)⟩
theorem lw_p47 : lw_okq (⟨"SquaredPaperModel", "end", "()I"⟩, 18) := ⟨⟨by decide +kernel, by decide +kernel⟩, List.mem_of_getElem? (i := 783) (by decide +kernel), List.mem_of_getElem? (i := 1072) (by decide +kernel), List.mem_of_getElem? (i := 1073) (by decide +kernel)⟩
def lw_privs_3 : List (MethodName × Nat) := [(⟨"SquaredPaperModel", "kind", "(II)I"⟩, 18), (⟨"SquaredPaperModel", "bend", "(II)I"⟩, 18), (⟨"SquaredPaperModel", "before", "(II)I"⟩, 18), (⟨"SquaredPaperModel", "isEar", "(I)Z"⟩, 18), (⟨"SquaredPaperModel", "areSeeing", "(IIII)Z"⟩, 18), (⟨"SquaredPaperModel", "isInTheWay", "(IIIII)Z"⟩, 18), (⟨"SquaredPaperModel", "hull", "()I"⟩, 18), (⟨"SquaredPaperModel", "squareOf", "(II)I"⟩, 18), (⟨"SquaredPaperModel", "seenBy", "(II)I"⟩, 18), (⟨"SquaredPaperModel", "isRing", "(I)Z"⟩, 18), (⟨"SquaredPaperModel", "longest", "(I)I"⟩, 18), (⟨"SquaredPaperModel", "lengthOf", "(II)I"⟩, 18), (⟨"SquaredPaperModel", "isCorner", "(II)Z"⟩, 18), (⟨"SquaredPaperModel", "tryMove", "(IIII)I"⟩, 18), (⟨"SquaredPaperModel", "begin", "()V"⟩, 18), (⟨"SquaredPaperModel", "end", "()I"⟩, 18)]
theorem lw_r3 : ∀ q ∈ lw_privs_3, lw_okq q := List.forall_mem_cons.mpr ⟨lw_p32, List.forall_mem_cons.mpr ⟨lw_p33, List.forall_mem_cons.mpr ⟨lw_p34, List.forall_mem_cons.mpr ⟨lw_p35, List.forall_mem_cons.mpr ⟨lw_p36, List.forall_mem_cons.mpr ⟨lw_p37, List.forall_mem_cons.mpr ⟨lw_p38, List.forall_mem_cons.mpr ⟨lw_p39, List.forall_mem_cons.mpr ⟨lw_p40, List.forall_mem_cons.mpr ⟨lw_p41, List.forall_mem_cons.mpr ⟨lw_p42, List.forall_mem_cons.mpr ⟨lw_p43, List.forall_mem_cons.mpr ⟨lw_p44, List.forall_mem_cons.mpr ⟨lw_p45, List.forall_mem_cons.mpr ⟨lw_p46, List.forall_mem_cons.mpr ⟨lw_p47, fun _ h => absurd h List.not_mem_nil⟩⟩⟩⟩⟩⟩⟩⟩⟩⟩⟩⟩⟩⟩⟩⟩
theorem lw_p48 : lw_okq (⟨"SquaredPaperModel", "remember", "()V"⟩, 18) := ⟨⟨by decide +kernel, by decide +kernel⟩, List.mem_of_getElem? (i := 783) (by decide +kernel), List.mem_of_getElem? (i := 1076) (by decide +kernel), List.mem_of_getElem? (i := 1077) (by decide +kernel)⟩
theorem lw_p49 : lw_okq (⟨"SquaredPaperModel", "tryInsert", "(IIII)I"⟩, 18) := ⟨⟨by decide +kernel, by decide +kernel⟩, List.mem_of_getElem? (i := 783) (by decide +kernel), List.mem_of_getElem? (i := 1084) (by decide +kernel), List.mem_of_getElem? (i := 1085) (by decide +kernel)⟩
theorem lw_p50 : lw_okq (⟨"SquaredPaperModel", "tryRemove", "(II)I"⟩, 18) := ⟨⟨by decide +kernel, by decide +kernel⟩, List.mem_of_getElem? (i := 783) (by decide +kernel), List.mem_of_getElem? (i := 1092) (by decide +kernel), List.mem_of_getElem? (i := 1093) (by decide +kernel)⟩
theorem lw_p51 : lw_okq (⟨"SquaredPaperModel", "tryHole", "(II)I"⟩, 18) := ⟨⟨by decide +kernel, by decide +kernel⟩, List.mem_of_getElem? (i := 783) (by decide +kernel), List.mem_of_getElem? (i := 1100) (by decide +kernel), List.mem_of_getElem? (i := 1101) (by decide +kernel)⟩
theorem lw_p52 : lw_okq (⟨"SquaredPaperModel", "tryShift", "(II)I"⟩, 18) := ⟨⟨by decide +kernel, by decide +kernel⟩, List.mem_of_getElem? (i := 783) (by decide +kernel), List.mem_of_getElem? (i := 1112) (by decide +kernel), List.mem_of_getElem? (i := 1113) (by decide +kernel)⟩
theorem lw_p53 : lw_okq (⟨"SquaredPaperModel", "greatestX", "()I"⟩, 18) := ⟨⟨by decide +kernel, by decide +kernel⟩, List.mem_of_getElem? (i := 783) (by decide +kernel), List.mem_of_getElem? (i := 1116) (by decide +kernel), List.mem_of_getElem? (i := 1117) (by decide +kernel)⟩
theorem lw_p54 : lw_okq (⟨"SquaredPaperModel", "turned", "(Z)V"⟩, 18) := ⟨⟨by decide +kernel, by decide +kernel⟩, List.mem_of_getElem? (i := 783) (by decide +kernel), List.mem_of_getElem? (i := 1124) (by decide +kernel), List.mem_of_getElem? (i := 1125) (by decide +kernel)⟩
theorem lw_p55 : lw_okq (⟨"SquaredPaperModel", "isStepped", "(II)Z"⟩, 18) := ⟨⟨by decide +kernel, by decide +kernel⟩, List.mem_of_getElem? (i := 783) (by decide +kernel), List.mem_of_getElem? (i := 1148) (by decide +kernel), List.mem_of_getElem? (i := 1149) (by decide +kernel)⟩
theorem lw_p56 : lw_okq (⟨"SquaredPaperModel", "commands", "(I)Z"⟩, 18) := ⟨⟨by decide +kernel, by decide +kernel⟩, List.mem_of_getElem? (i := 783) (by decide +kernel), List.mem_of_getElem? (i := 1173) (by decide +kernel), List.mem_of_getElem? (i := 1174) (by decide +kernel)⟩
theorem lw_p57 : lw_okq (⟨"SquaredPaperModel", "isTurned", "(I)Z"⟩, 18) := ⟨⟨by decide +kernel, by decide +kernel⟩, List.mem_of_getElem? (i := 783) (by decide +kernel), List.mem_of_getElem? (i := 1178) (by decide +kernel), List.mem_of_getElem? (i := 1179) (by decide +kernel)⟩
def lw_privs_4 : List (MethodName × Nat) := [(⟨"SquaredPaperModel", "remember", "()V"⟩, 18), (⟨"SquaredPaperModel", "tryInsert", "(IIII)I"⟩, 18), (⟨"SquaredPaperModel", "tryRemove", "(II)I"⟩, 18), (⟨"SquaredPaperModel", "tryHole", "(II)I"⟩, 18), (⟨"SquaredPaperModel", "tryShift", "(II)I"⟩, 18), (⟨"SquaredPaperModel", "greatestX", "()I"⟩, 18), (⟨"SquaredPaperModel", "turned", "(Z)V"⟩, 18), (⟨"SquaredPaperModel", "isStepped", "(II)Z"⟩, 18), (⟨"SquaredPaperModel", "commands", "(I)Z"⟩, 18), (⟨"SquaredPaperModel", "isTurned", "(I)Z"⟩, 18)]
theorem lw_r4 : ∀ q ∈ lw_privs_4, lw_okq q := List.forall_mem_cons.mpr ⟨lw_p48, List.forall_mem_cons.mpr ⟨lw_p49, List.forall_mem_cons.mpr ⟨lw_p50, List.forall_mem_cons.mpr ⟨lw_p51, List.forall_mem_cons.mpr ⟨lw_p52, List.forall_mem_cons.mpr ⟨lw_p53, List.forall_mem_cons.mpr ⟨lw_p54, List.forall_mem_cons.mpr ⟨lw_p55, List.forall_mem_cons.mpr ⟨lw_p56, List.forall_mem_cons.mpr ⟨lw_p57, fun _ h => absurd h List.not_mem_nil⟩⟩⟩⟩⟩⟩⟩⟩⟩⟩
def lw_privs : List (MethodName × Nat) := lw_privs_1 ++ (lw_privs_2 ++ (lw_privs_3 ++ (lw_privs_4)))
def lw_tbl : List Cond := k2_sels lw_privs ++ tables_1
theorem lw_privs_ok : ∀ q ∈ lw_privs, lw_okq q := by
  show ∀ q ∈ lw_privs_1 ++ (lw_privs_2 ++ (lw_privs_3 ++ (lw_privs_4))), lw_okq q
  exact List.forall_mem_append.mpr ⟨lw_r1, List.forall_mem_append.mpr ⟨lw_r2, List.forall_mem_append.mpr ⟨lw_r3, lw_r4⟩⟩⟩

def RX0 : String := "SquaredPaper$Change"
def TX0 : u_T := fun k => match k with
  | _ => ("", "", "", false)
def tyX0 : Nat → FieldType := fun k => match k with
  | _ => .int
abbrev wsX00 : List Cond := u_ws RX0 TX0 0
theorem nmX0 : ∀ a, a < 0 → ∀ b, b < 0 → a ≠ b → (TX0 a).2.1 ≠ (TX0 b).2.1 := by decide +kernel
theorem tyX0_ok : ∀ k, k < 0 → parseFieldDescriptor (TX0 k).2.2.1 = some (tyX0 k) := by decide +kernel
abbrev cX0_movedCorner : ByteArray := prog_2_method_2_code
def yX0_movedCorner : MethodName := ⟨RX0, "movedCorner", "(LSquaredPaper$Figure;IIII)Z"⟩
abbrev cX0_addedCorner : ByteArray := prog_2_method_3_code
def yX0_addedCorner : MethodName := ⟨RX0, "addedCorner", "(LSquaredPaper$Figure;IIII)Z"⟩
abbrev cX0_lostCorner : ByteArray := prog_2_method_4_code
def yX0_lostCorner : MethodName := ⟨RX0, "lostCorner", "(LSquaredPaper$Figure;II)Z"⟩
abbrev cX0_addedHole : ByteArray := prog_2_method_5_code
def yX0_addedHole : MethodName := ⟨RX0, "addedHole", "(LSquaredPaper$Figure;II)Z"⟩
abbrev cX0_shifted : ByteArray := prog_2_method_6_code
def yX0_shifted : MethodName := ⟨RX0, "shifted", "(LSquaredPaper$Figure;II)Z"⟩
abbrev cX0_nudged : ByteArray := prog_2_method_7_code
def yX0_nudged : MethodName := ⟨RX0, "nudged", "(LSquaredPaper$Figure;II)Z"⟩
def RX1 : String := "SquaredPaper$Figure"
def TX1 : u_T := fun k => match k with
  | 0 => ("SquaredPaper$Figure", "rings", "I", false)
  | 1 => ("SquaredPaper$Figure", "corners", "I", false)
  | 2 => ("SquaredPaper$Figure", "sizes", "[I", true)
  | 3 => ("SquaredPaper$Figure", "xs", "[I", true)
  | 4 => ("SquaredPaper$Figure", "ys", "[I", true)
  | _ => ("SquaredPaper$Figure", "next", "[I", true)
def tyX1 : Nat → FieldType := fun k => match k with
  | 0 => .int
  | 1 => .int
  | 2 => .array .int
  | 3 => .array .int
  | 4 => .array .int
  | _ => .array .int
abbrev wsX10 : List Cond := u_ws RX1 TX1 6
theorem nmX1 : ∀ a, a < 6 → ∀ b, b < 6 → a ≠ b → (TX1 a).2.1 ≠ (TX1 b).2.1 := by decide +kernel
theorem tyX1_ok : ∀ k, k < 6 → parseFieldDescriptor (TX1 k).2.2.1 = some (tyX1 k) := by decide +kernel
abbrev cX1_init : ByteArray := prog_3_method_1_code
def yX1_init : MethodName := ⟨RX1, "<init>", "()V"⟩
abbrev cX1_copyFrom : ByteArray := prog_3_method_2_code
def yX1_copyFrom : MethodName := ⟨RX1, "copyFrom", "(LSquaredPaper$Figure;)V"⟩
abbrev cX1_hasRing : ByteArray := prog_3_method_3_code
def yX1_hasRing : MethodName := ⟨RX1, "hasRing", "(I)Z"⟩
abbrev cX1_hasCorner : ByteArray := prog_3_method_4_code
def yX1_hasCorner : MethodName := ⟨RX1, "hasCorner", "(II)Z"⟩
abbrev cX1_sizeOf : ByteArray := prog_3_method_5_code
def yX1_sizeOf : MethodName := ⟨RX1, "sizeOf", "(I)I"⟩
abbrev cX1_firstOf : ByteArray := prog_3_method_6_code
def yX1_firstOf : MethodName := ⟨RX1, "firstOf", "(I)I"⟩
abbrev cX1_at : ByteArray := prog_3_method_7_code
def yX1_at : MethodName := ⟨RX1, "at", "(II)I"⟩
abbrev cX1_xOf : ByteArray := prog_3_method_8_code
def yX1_xOf : MethodName := ⟨RX1, "xOf", "(I)I"⟩
abbrev cX1_yOf : ByteArray := prog_3_method_9_code
def yX1_yOf : MethodName := ⟨RX1, "yOf", "(I)I"⟩
abbrev cX1_nextOf : ByteArray := prog_3_method_10_code
def yX1_nextOf : MethodName := ⟨RX1, "nextOf", "(I)I"⟩
abbrev cX1_priorOf : ByteArray := prog_3_method_11_code
def yX1_priorOf : MethodName := ⟨RX1, "priorOf", "(II)I"⟩
abbrev cX1_clear : ByteArray := prog_3_method_12_code
def yX1_clear : MethodName := ⟨RX1, "clear", "()V"⟩
abbrev cX1_openRing : ByteArray := prog_3_method_13_code
def yX1_openRing : MethodName := ⟨RX1, "openRing", "()V"⟩
abbrev cX1_addCorner : ByteArray := prog_3_method_14_code
def yX1_addCorner : MethodName := ⟨RX1, "addCorner", "(II)V"⟩
abbrev cX1_place : ByteArray := prog_3_method_15_code
def yX1_place : MethodName := ⟨RX1, "place", "(III)V"⟩
abbrev cX1_putIn : ByteArray := prog_3_method_16_code
def yX1_putIn : MethodName := ⟨RX1, "putIn", "(IIII)V"⟩
abbrev cX1_takeOut : ByteArray := prog_3_method_17_code
def yX1_takeOut : MethodName := ⟨RX1, "takeOut", "(II)V"⟩
abbrev cX1_dropRing : ByteArray := prog_3_method_18_code
def yX1_dropRing : MethodName := ⟨RX1, "dropRing", "(I)V"⟩
abbrev cX1_closeGap : ByteArray := prog_3_method_19_code
def yX1_closeGap : MethodName := ⟨RX1, "closeGap", "(II)V"⟩
abbrev cX1_relink : ByteArray := prog_3_method_20_code
def yX1_relink : MethodName := ⟨RX1, "relink", "()V"⟩
abbrev cX1_shiftAll : ByteArray := prog_3_method_21_code
def yX1_shiftAll : MethodName := ⟨RX1, "shiftAll", "(II)V"⟩
abbrev cX1_turnQuarter : ByteArray := prog_3_method_22_code
def yX1_turnQuarter : MethodName := ⟨RX1, "turnQuarter", "()V"⟩
abbrev cX1_mirrorAll : ByteArray := prog_3_method_23_code
def yX1_mirrorAll : MethodName := ⟨RX1, "mirrorAll", "()V"⟩
abbrev cX1_bend : ByteArray := prog_3_method_24_code
def yX1_bend : MethodName := ⟨RX1, "bend", "(III)I"⟩
abbrev cX1_bendAt : ByteArray := prog_3_method_25_code
def yX1_bendAt : MethodName := ⟨RX1, "bendAt", "(II)I"⟩
abbrev cX1_linesCross : ByteArray := prog_3_method_26_code
def yX1_linesCross : MethodName := ⟨RX1, "linesCross", "(IIII)Z"⟩
abbrev cX1_onLine : ByteArray := prog_3_method_27_code
def yX1_onLine : MethodName := ⟨RX1, "onLine", "(IIII)Z"⟩
abbrev cX1_cornerOnLine : ByteArray := prog_3_method_28_code
def yX1_cornerOnLine : MethodName := ⟨RX1, "cornerOnLine", "(III)Z"⟩
abbrev cX1_surrounds : ByteArray := prog_3_method_29_code
def yX1_surrounds : MethodName := ⟨RX1, "surrounds", "(III)Z"⟩
abbrev cX1_passesRightOf : ByteArray := prog_3_method_30_code
def yX1_passesRightOf : MethodName := ⟨RX1, "passesRightOf", "(III)Z"⟩
abbrev cX1_inSomeHole : ByteArray := prog_3_method_31_code
def yX1_inSomeHole : MethodName := ⟨RX1, "inSomeHole", "(II)Z"⟩
abbrev cX1_placeOf : ByteArray := prog_3_method_32_code
def yX1_placeOf : MethodName := ⟨RX1, "placeOf", "(II)I"⟩
abbrev cX1_squareOfSide : ByteArray := prog_3_method_33_code
def yX1_squareOfSide : MethodName := ⟨RX1, "squareOfSide", "(I)I"⟩
abbrev cX1_stepsOfSide : ByteArray := prog_3_method_34_code
def yX1_stepsOfSide : MethodName := ⟨RX1, "stepsOfSide", "(I)I"⟩
def RX2 : String := "SquaredPaper$Measure"
def TX2 : u_T := fun k => match k with
  | _ => ("", "", "", false)
def tyX2 : Nat → FieldType := fun k => match k with
  | _ => .int
abbrev wsX20 : List Cond := u_ws RX2 TX2 0
theorem nmX2 : ∀ a, a < 0 → ∀ b, b < 0 → a ≠ b → (TX2 a).2.1 ≠ (TX2 b).2.1 := by decide +kernel
theorem tyX2_ok : ∀ k, k < 0 → parseFieldDescriptor (TX2 k).2.2.1 = some (tyX2 k) := by decide +kernel
abbrev cX2_ringSum : ByteArray := prog_4_method_2_code
def yX2_ringSum : MethodName := ⟨RX2, "ringSum", "(LSquaredPaper$Figure;I)I"⟩
abbrev cX2_product : ByteArray := prog_4_method_3_code
def yX2_product : MethodName := ⟨RX2, "product", "(LSquaredPaper$Figure;II)I"⟩
abbrev cX2_ringArea : ByteArray := prog_4_method_4_code
def yX2_ringArea : MethodName := ⟨RX2, "ringArea", "(LSquaredPaper$Figure;I)I"⟩
abbrev cX2_area : ByteArray := prog_4_method_5_code
def yX2_area : MethodName := ⟨RX2, "area", "(LSquaredPaper$Figure;)I"⟩
abbrev cX2_ringBorder : ByteArray := prog_4_method_6_code
def yX2_ringBorder : MethodName := ⟨RX2, "ringBorder", "(LSquaredPaper$Figure;I)I"⟩
abbrev cX2_border : ByteArray := prog_4_method_7_code
def yX2_border : MethodName := ⟨RX2, "border", "(LSquaredPaper$Figure;)I"⟩
abbrev cX2_inside : ByteArray := prog_4_method_8_code
def yX2_inside : MethodName := ⟨RX2, "inside", "(LSquaredPaper$Figure;)I"⟩
abbrev cX2_kind : ByteArray := prog_4_method_9_code
def yX2_kind : MethodName := ⟨RX2, "kind", "(LSquaredPaper$Figure;II)I"⟩
abbrev cX2_outlineCorners : ByteArray := prog_4_method_10_code
def yX2_outlineCorners : MethodName := ⟨RX2, "outlineCorners", "(LSquaredPaper$Figure;I)I"⟩
abbrev cX2_longestSide : ByteArray := prog_4_method_11_code
def yX2_longestSide : MethodName := ⟨RX2, "longestSide", "(LSquaredPaper$Figure;I)I"⟩
abbrev cX2_greatestX : ByteArray := prog_4_method_12_code
def yX2_greatestX : MethodName := ⟨RX2, "greatestX", "(LSquaredPaper$Figure;)I"⟩
abbrev cX2_hull : ByteArray := prog_4_method_13_code
def yX2_hull : MethodName := ⟨RX2, "hull", "(LSquaredPaper$Figure;)I"⟩
abbrev cX2_isHullSide : ByteArray := prog_4_method_14_code
def yX2_isHullSide : MethodName := ⟨RX2, "isHullSide", "(LSquaredPaper$Figure;II)Z"⟩
def RX3 : String := "SquaredPaper$Past"
def TX3 : u_T := fun k => match k with
  | 0 => ("SquaredPaper$Past", "states", "[LSquaredPaper$Figure;", true)
  | 1 => ("SquaredPaper$Past", "oldest", "I", false)
  | _ => ("SquaredPaper$Past", "count", "I", false)
def tyX3 : Nat → FieldType := fun k => match k with
  | 0 => .array (.object "SquaredPaper$Figure")
  | 1 => .int
  | _ => .int
abbrev wsX30 : List Cond := u_ws RX3 TX3 3
theorem nmX3 : ∀ a, a < 3 → ∀ b, b < 3 → a ≠ b → (TX3 a).2.1 ≠ (TX3 b).2.1 := by decide +kernel
theorem tyX3_ok : ∀ k, k < 3 → parseFieldDescriptor (TX3 k).2.2.1 = some (tyX3 k) := by decide +kernel
abbrev cX3_init : ByteArray := prog_5_method_1_code
def yX3_init : MethodName := ⟨RX3, "<init>", "()V"⟩
abbrev cX3_forgetAll : ByteArray := prog_5_method_2_code
def yX3_forgetAll : MethodName := ⟨RX3, "forgetAll", "()V"⟩
abbrev cX3_remember : ByteArray := prog_5_method_3_code
def yX3_remember : MethodName := ⟨RX3, "remember", "(LSquaredPaper$Figure;)V"⟩
abbrev cX3_takeBackInto : ByteArray := prog_5_method_4_code
def yX3_takeBackInto : MethodName := ⟨RX3, "takeBackInto", "(LSquaredPaper$Figure;)V"⟩
def RX4 : String := "SquaredPaper$Rules"
def TX4 : u_T := fun k => match k with
  | _ => ("", "", "", false)
def tyX4 : Nat → FieldType := fun k => match k with
  | _ => .int
abbrev wsX40 : List Cond := u_ws RX4 TX4 0
theorem nmX4 : ∀ a, a < 0 → ∀ b, b < 0 → a ≠ b → (TX4 a).2.1 ≠ (TX4 b).2.1 := by decide +kernel
theorem tyX4_ok : ∀ k, k < 0 → parseFieldDescriptor (TX4 k).2.2.1 = some (tyX4 k) := by decide +kernel
abbrev cX4_firstBroken : ByteArray := prog_6_method_2_code
def yX4_firstBroken : MethodName := ⟨RX4, "firstBroken", "(LSquaredPaper$Figure;)I"⟩
abbrev cX4_leavesPaper : ByteArray := prog_6_method_3_code
def yX4_leavesPaper : MethodName := ⟨RX4, "leavesPaper", "(LSquaredPaper$Figure;)Z"⟩
abbrev cX4_hasEmptySide : ByteArray := prog_6_method_4_code
def yX4_hasEmptySide : MethodName := ⟨RX4, "hasEmptySide", "(LSquaredPaper$Figure;)Z"⟩
abbrev cX4_hasCrossing : ByteArray := prog_6_method_5_code
def yX4_hasCrossing : MethodName := ⟨RX4, "hasCrossing", "(LSquaredPaper$Figure;)Z"⟩
abbrev cX4_hasTouching : ByteArray := prog_6_method_6_code
def yX4_hasTouching : MethodName := ⟨RX4, "hasTouching", "(LSquaredPaper$Figure;)Z"⟩
abbrev cX4_hasLostHole : ByteArray := prog_6_method_7_code
def yX4_hasLostHole : MethodName := ⟨RX4, "hasLostHole", "(LSquaredPaper$Figure;)Z"⟩
def RX5 : String := "SquaredPaper$Script"
def TX5 : u_T := fun k => match k with
  | _ => ("", "", "", false)
def tyX5 : Nat → FieldType := fun k => match k with
  | _ => .int
abbrev wsX50 : List Cond := u_ws RX5 TX5 0
theorem nmX5 : ∀ a, a < 0 → ∀ b, b < 0 → a ≠ b → (TX5 a).2.1 ≠ (TX5 b).2.1 := by decide +kernel
theorem tyX5_ok : ∀ k, k < 0 → parseFieldDescriptor (TX5 k).2.2.1 = some (tyX5 k) := by decide +kernel
abbrev cX5_succeeds : ByteArray := prog_7_method_2_code
def yX5_succeeds : MethodName := ⟨RX5, "succeeds", "(LSquaredPaper$Figure;I)Z"⟩
abbrev cX5_turnsOrMirrors : ByteArray := prog_7_method_3_code
def yX5_turnsOrMirrors : MethodName := ⟨RX5, "turnsOrMirrors", "(LSquaredPaper$Figure;I)Z"⟩
abbrev cX5_isAt : ByteArray := prog_7_method_4_code
def yX5_isAt : MethodName := ⟨RX5, "isAt", "(LSquaredPaper$Figure;III)Z"⟩
def RX6 : String := "SquaredPaper$Sight"
def TX6 : u_T := fun k => match k with
  | _ => ("", "", "", false)
def tyX6 : Nat → FieldType := fun k => match k with
  | _ => .int
abbrev wsX60 : List Cond := u_ws RX6 TX6 0
theorem nmX6 : ∀ a, a < 0 → ∀ b, b < 0 → a ≠ b → (TX6 a).2.1 ≠ (TX6 b).2.1 := by decide +kernel
theorem tyX6_ok : ∀ k, k < 0 → parseFieldDescriptor (TX6 k).2.2.1 = some (tyX6 k) := by decide +kernel
abbrev cX6_between : ByteArray := prog_8_method_2_code
def yX6_between : MethodName := ⟨RX6, "between", "(LSquaredPaper$Figure;II)Z"⟩
abbrev cX6_seenFrom : ByteArray := prog_8_method_3_code
def yX6_seenFrom : MethodName := ⟨RX6, "seenFrom", "(LSquaredPaper$Figure;I)I"⟩
abbrev cX6_pairs : ByteArray := prog_8_method_4_code
def yX6_pairs : MethodName := ⟨RX6, "pairs", "(LSquaredPaper$Figure;)I"⟩
abbrev cX6_isEar : ByteArray := prog_8_method_5_code
def yX6_isEar : MethodName := ⟨RX6, "isEar", "(LSquaredPaper$Figure;I)Z"⟩
abbrev cX6_ears : ByteArray := prog_8_method_6_code
def yX6_ears : MethodName := ⟨RX6, "ears", "(LSquaredPaper$Figure;)I"⟩
abbrev cX6_triangulations : ByteArray := prog_8_method_7_code
def yX6_triangulations : MethodName := ⟨RX6, "triangulations", "(LSquaredPaper$Figure;[I)I"⟩
abbrev cX6_waysOfPart : ByteArray := prog_8_method_8_code
def yX6_waysOfPart : MethodName := ⟨RX6, "waysOfPart", "(LSquaredPaper$Figure;[III)I"⟩
def RX7 : String := "SquaredPaper$Text"
def TX7 : u_T := fun k => match k with
  | 0 => ("SquaredPaper$Text", "signs", "[C", true)
  | _ => ("SquaredPaper$Text", "length", "I", false)
def tyX7 : Nat → FieldType := fun k => match k with
  | 0 => .array .char
  | _ => .int
abbrev wsX70 : List Cond := u_ws RX7 TX7 2
theorem nmX7 : ∀ a, a < 2 → ∀ b, b < 2 → a ≠ b → (TX7 a).2.1 ≠ (TX7 b).2.1 := by decide +kernel
theorem tyX7_ok : ∀ k, k < 2 → parseFieldDescriptor (TX7 k).2.2.1 = some (tyX7 k) := by decide +kernel
abbrev cX7_init : ByteArray := prog_9_method_1_code
def yX7_init : MethodName := ⟨RX7, "<init>", "()V"⟩
abbrev cX7_add : ByteArray := prog_9_method_2_code
def yX7_add : MethodName := ⟨RX7, "add", "(I)V"⟩
abbrev cX7_readInto : ByteArray := prog_9_method_3_code
def yX7_readInto : MethodName := ⟨RX7, "readInto", "(LSquaredPaper$Figure;)I"⟩
abbrev cX7_isWhole : ByteArray := prog_9_method_4_code
def yX7_isWhole : MethodName := ⟨RX7, "isWhole", "(I)Z"⟩
abbrev cX7_isLetter : ByteArray := prog_9_method_5_code
def yX7_isLetter : MethodName := ⟨RX7, "isLetter", "(C)Z"⟩
def RX8 : String := "SquaredPaper"
def TX8 : u_T := fun k => match k with
  | 0 => ("SquaredPaper", "figure", "LSquaredPaper$Figure;", true)
  | 1 => ("SquaredPaper", "draft", "LSquaredPaper$Figure;", true)
  | 2 => ("SquaredPaper", "past", "LSquaredPaper$Past;", true)
  | 3 => ("SquaredPaper", "slots", "[LSquaredPaper$Figure;", true)
  | 4 => ("SquaredPaper", "saved", "[Z", true)
  | 5 => ("SquaredPaper", "text", "LSquaredPaper$Text;", true)
  | _ => ("SquaredPaper", "ways", "[I", true)
def tyX8 : Nat → FieldType := fun k => match k with
  | 0 => .object "SquaredPaper$Figure"
  | 1 => .object "SquaredPaper$Figure"
  | 2 => .object "SquaredPaper$Past"
  | 3 => .array (.object "SquaredPaper$Figure")
  | 4 => .array .boolean
  | 5 => .object "SquaredPaper$Text"
  | _ => .array .int
abbrev wsX80 : List Cond := u_ws RX8 TX8 7
theorem nmX8 : ∀ a, a < 7 → ∀ b, b < 7 → a ≠ b → (TX8 a).2.1 ≠ (TX8 b).2.1 := by decide +kernel
theorem tyX8_ok : ∀ k, k < 7 → parseFieldDescriptor (TX8 k).2.2.1 = some (tyX8 k) := by decide +kernel
abbrev cX8_init : ByteArray := prog_1_method_1_code
def yX8_init : MethodName := ⟨RX8, "<init>", "()V"⟩
abbrev cX8_append : ByteArray := prog_1_method_2_code
def yX8_append : MethodName := ⟨RX8, "append", "(I)I"⟩
abbrev cX8_clearText : ByteArray := prog_1_method_3_code
def yX8_clearText : MethodName := ⟨RX8, "clearText", "()I"⟩
abbrev cX8_errorPosition : ByteArray := prog_1_method_4_code
def yX8_errorPosition : MethodName := ⟨RX8, "errorPosition", "()I"⟩
abbrev cX8_load : ByteArray := prog_1_method_5_code
def yX8_load : MethodName := ⟨RX8, "load", "()I"⟩
abbrev cX8_about : ByteArray := prog_1_method_6_code
def yX8_about : MethodName := ⟨RX8, "about", "(I)I"⟩
abbrev cX8_ring : ByteArray := prog_1_method_7_code
def yX8_ring : MethodName := ⟨RX8, "ring", "(II)I"⟩
abbrev cX8_corner : ByteArray := prog_1_method_8_code
def yX8_corner : MethodName := ⟨RX8, "corner", "(III)I"⟩
abbrev cX8_point : ByteArray := prog_1_method_9_code
def yX8_point : MethodName := ⟨RX8, "point", "(II)I"⟩
abbrev cX8_sees : ByteArray := prog_1_method_10_code
def yX8_sees : MethodName := ⟨RX8, "sees", "(IIII)Z"⟩
abbrev cX8_move : ByteArray := prog_1_method_11_code
def yX8_move : MethodName := ⟨RX8, "move", "(IIII)I"⟩
abbrev cX8_insert : ByteArray := prog_1_method_12_code
def yX8_insert : MethodName := ⟨RX8, "insert", "(IIII)I"⟩
abbrev cX8_remove : ByteArray := prog_1_method_13_code
def yX8_remove : MethodName := ⟨RX8, "remove", "(II)I"⟩
abbrev cX8_addHole : ByteArray := prog_1_method_14_code
def yX8_addHole : MethodName := ⟨RX8, "addHole", "(II)I"⟩
abbrev cX8_dropHole : ByteArray := prog_1_method_15_code
def yX8_dropHole : MethodName := ⟨RX8, "dropHole", "(I)I"⟩
abbrev cX8_shift : ByteArray := prog_1_method_16_code
def yX8_shift : MethodName := ⟨RX8, "shift", "(II)I"⟩
abbrev cX8_turn : ByteArray := prog_1_method_17_code
def yX8_turn : MethodName := ⟨RX8, "turn", "()I"⟩
abbrev cX8_mirror : ByteArray := prog_1_method_18_code
def yX8_mirror : MethodName := ⟨RX8, "mirror", "()I"⟩
abbrev cX8_undo : ByteArray := prog_1_method_19_code
def yX8_undo : MethodName := ⟨RX8, "undo", "()I"⟩
abbrev cX8_whyNot : ByteArray := prog_1_method_20_code
def yX8_whyNot : MethodName := ⟨RX8, "whyNot", "(IIII)I"⟩
abbrev cX8_cut : ByteArray := prog_1_method_21_code
def yX8_cut : MethodName := ⟨RX8, "cut", "(I)I"⟩
abbrev cX8_bestMove : ByteArray := prog_1_method_22_code
def yX8_bestMove : MethodName := ⟨RX8, "bestMove", "()I"⟩
abbrev cX8_inRow : ByteArray := prog_1_method_23_code
def yX8_inRow : MethodName := ⟨RX8, "inRow", "(IZ)I"⟩
abbrev cX8_cuttings : ByteArray := prog_1_method_24_code
def yX8_cuttings : MethodName := ⟨RX8, "cuttings", "()I"⟩
abbrev cX8_runScript : ByteArray := prog_1_method_25_code
def yX8_runScript : MethodName := ⟨RX8, "runScript", "(IJ)I"⟩
abbrev cX8_simulate : ByteArray := prog_1_method_26_code
def yX8_simulate : MethodName := ⟨RX8, "simulate", "(JI)I"⟩
abbrev cX8_save : ByteArray := prog_1_method_27_code
def yX8_save : MethodName := ⟨RX8, "save", "(I)I"⟩
abbrev cX8_restore : ByteArray := prog_1_method_28_code
def yX8_restore : MethodName := ⟨RX8, "restore", "(I)I"⟩
abbrev cX8_keepDraft : ByteArray := prog_1_method_29_code
def yX8_keepDraft : MethodName := ⟨RX8, "keepDraft", "()V"⟩
abbrev cX8_checkRing : ByteArray := prog_1_method_30_code
def yX8_checkRing : MethodName := ⟨RX8, "checkRing", "(I)V"⟩
abbrev cX8_checkCorner : ByteArray := prog_1_method_31_code
def yX8_checkCorner : MethodName := ⟨RX8, "checkCorner", "(II)V"⟩
abbrev cX8_checkSlot : ByteArray := prog_1_method_32_code
def yX8_checkSlot : MethodName := ⟨RX8, "checkSlot", "(I)V"⟩
abbrev cX8_inRange : ByteArray := prog_1_method_33_code
def yX8_inRange : MethodName := ⟨RX8, "inRange", "(III)Z"⟩
def RX9 : String := "SquaredPaperModel"
def TX9 : u_T := fun k => match k with
  | 0 => ("SquaredPaperModel", "thrown", "I", false)
  | 1 => ("SquaredPaperModel", "state", "[I", true)
  | 2 => ("SquaredPaperModel", "kept", "[I", true)
  | 3 => ("SquaredPaperModel", "scriptKept", "[I", true)
  | 4 => ("SquaredPaperModel", "history", "[I", true)
  | 5 => ("SquaredPaperModel", "remembered", "I", false)
  | 6 => ("SquaredPaperModel", "slots", "[I", true)
  | 7 => ("SquaredPaperModel", "isSaved", "[I", true)
  | 8 => ("SquaredPaperModel", "text", "[I", true)
  | 9 => ("SquaredPaperModel", "textLength", "I", false)
  | 10 => ("SquaredPaperModel", "sides", "I", false)
  | 11 => ("SquaredPaperModel", "ringOf", "[I", true)
  | 12 => ("SquaredPaperModel", "cornerOf", "[I", true)
  | 13 => ("SquaredPaperModel", "ax", "[I", true)
  | 14 => ("SquaredPaperModel", "ay", "[I", true)
  | 15 => ("SquaredPaperModel", "bx", "[I", true)
  | 16 => ("SquaredPaperModel", "by", "[I", true)
  | _ => ("SquaredPaperModel", "cuts", "[I", true)
def tyX9 : Nat → FieldType := fun k => match k with
  | 0 => .int
  | 1 => .array .int
  | 2 => .array .int
  | 3 => .array .int
  | 4 => .array .int
  | 5 => .int
  | 6 => .array .int
  | 7 => .array .int
  | 8 => .array .int
  | 9 => .int
  | 10 => .int
  | 11 => .array .int
  | 12 => .array .int
  | 13 => .array .int
  | 14 => .array .int
  | 15 => .array .int
  | 16 => .array .int
  | _ => .array .int
abbrev wsX90 : List Cond := u_ws RX9 TX9 18
theorem nmX9 : ∀ a, a < 18 → ∀ b, b < 18 → a ≠ b → (TX9 a).2.1 ≠ (TX9 b).2.1 := by decide +kernel
theorem tyX9_ok : ∀ k, k < 18 → parseFieldDescriptor (TX9 k).2.2.1 = some (tyX9 k) := by decide +kernel
abbrev cX9_init : ByteArray := prog_11_method_1_code
def yX9_init : MethodName := ⟨RX9, "<init>", "()V"⟩
abbrev cX9_thrown : ByteArray := prog_11_method_2_code
def yX9_thrown : MethodName := ⟨RX9, "thrown", "()I"⟩
abbrev cX9_copy : ByteArray := prog_11_method_3_code
def yX9_copy : MethodName := ⟨RX9, "copy", "([II[II)V"⟩
abbrev cX9_within : ByteArray := prog_11_method_4_code
def yX9_within : MethodName := ⟨RX9, "within", "(III)Z"⟩
abbrev cX9_size : ByteArray := prog_11_method_5_code
def yX9_size : MethodName := ⟨RX9, "size", "(I)I"⟩
abbrev cX9_many : ByteArray := prog_11_method_6_code
def yX9_many : MethodName := ⟨RX9, "many", "(I)I"⟩
abbrev cX9_x : ByteArray := prog_11_method_7_code
def yX9_x : MethodName := ⟨RX9, "x", "(II)I"⟩
abbrev cX9_y : ByteArray := prog_11_method_8_code
def yX9_y : MethodName := ⟨RX9, "y", "(II)I"⟩
abbrev cX9_setCorner : ByteArray := prog_11_method_9_code
def yX9_setCorner : MethodName := ⟨RX9, "setCorner", "(IIII)V"⟩
abbrev cX9_isRing : ByteArray := prog_11_method_10_code
def yX9_isRing : MethodName := ⟨RX9, "isRing", "(I)Z"⟩
abbrev cX9_isCorner : ByteArray := prog_11_method_11_code
def yX9_isCorner : MethodName := ⟨RX9, "isCorner", "(II)Z"⟩
abbrev cX9_next : ByteArray := prog_11_method_12_code
def yX9_next : MethodName := ⟨RX9, "next", "(II)I"⟩
abbrev cX9_before : ByteArray := prog_11_method_13_code
def yX9_before : MethodName := ⟨RX9, "before", "(II)I"⟩
abbrev cX9_cornerMany : ByteArray := prog_11_method_14_code
def yX9_cornerMany : MethodName := ⟨RX9, "cornerMany", "()I"⟩
abbrev cX9_findSides : ByteArray := prog_11_method_15_code
def yX9_findSides : MethodName := ⟨RX9, "findSides", "()V"⟩
abbrev cX9_turnOf : ByteArray := prog_11_method_16_code
def yX9_turnOf : MethodName := ⟨RX9, "turnOf", "(IIIIII)I"⟩
abbrev cX9_isOn : ByteArray := prog_11_method_17_code
def yX9_isOn : MethodName := ⟨RX9, "isOn", "(IIIIII)Z"⟩
abbrev cX9_isCrossed : ByteArray := prog_11_method_18_code
def yX9_isCrossed : MethodName := ⟨RX9, "isCrossed", "(IIIII)Z"⟩
abbrev cX9_isMet : ByteArray := prog_11_method_19_code
def yX9_isMet : MethodName := ⟨RX9, "isMet", "(IIIII)Z"⟩
abbrev cX9_isSameWay : ByteArray := prog_11_method_20_code
def yX9_isSameWay : MethodName := ⟨RX9, "isSameWay", "(IIIIII)Z"⟩
abbrev cX9_isNext : ByteArray := prog_11_method_21_code
def yX9_isNext : MethodName := ⟨RX9, "isNext", "(II)Z"⟩
abbrev cX9_areTouching : ByteArray := prog_11_method_22_code
def yX9_areTouching : MethodName := ⟨RX9, "areTouching", "(II)Z"⟩
abbrev cX9_surrounds : ByteArray := prog_11_method_23_code
def yX9_surrounds : MethodName := ⟨RX9, "surrounds", "(III)Z"⟩
abbrev cX9_isRule5 : ByteArray := prog_11_method_24_code
def yX9_isRule5 : MethodName := ⟨RX9, "isRule5", "()Z"⟩
abbrev cX9_broken : ByteArray := prog_11_method_25_code
def yX9_broken : MethodName := ⟨RX9, "broken", "()I"⟩
abbrev cX9_append : ByteArray := prog_11_method_26_code
def yX9_append : MethodName := ⟨RX9, "append", "(I)I"⟩
abbrev cX9_clearText : ByteArray := prog_11_method_27_code
def yX9_clearText : MethodName := ⟨RX9, "clearText", "()I"⟩
abbrev cX9_isLetter : ByteArray := prog_11_method_28_code
def yX9_isLetter : MethodName := ⟨RX9, "isLetter", "(I)Z"⟩
abbrev cX9_readText : ByteArray := prog_11_method_29_code
def yX9_readText : MethodName := ⟨RX9, "readText", "()I"⟩
abbrev cX9_errorPosition : ByteArray := prog_11_method_30_code
def yX9_errorPosition : MethodName := ⟨RX9, "errorPosition", "()I"⟩
abbrev cX9_load : ByteArray := prog_11_method_31_code
def yX9_load : MethodName := ⟨RX9, "load", "()I"⟩
abbrev cX9_sumOf : ByteArray := prog_11_method_32_code
def yX9_sumOf : MethodName := ⟨RX9, "sumOf", "(I)I"⟩
abbrev cX9_area : ByteArray := prog_11_method_33_code
def yX9_area : MethodName := ⟨RX9, "area", "()I"⟩
abbrev cX9_divisor : ByteArray := prog_11_method_34_code
def yX9_divisor : MethodName := ⟨RX9, "divisor", "(II)I"⟩
abbrev cX9_pointsOf : ByteArray := prog_11_method_35_code
def yX9_pointsOf : MethodName := ⟨RX9, "pointsOf", "(II)I"⟩
abbrev cX9_ringPoints : ByteArray := prog_11_method_36_code
def yX9_ringPoints : MethodName := ⟨RX9, "ringPoints", "(I)I"⟩
abbrev cX9_bend : ByteArray := prog_11_method_37_code
def yX9_bend : MethodName := ⟨RX9, "bend", "(II)I"⟩
abbrev cX9_kind : ByteArray := prog_11_method_38_code
def yX9_kind : MethodName := ⟨RX9, "kind", "(II)I"⟩
abbrev cX9_where : ByteArray := prog_11_method_39_code
def yX9_where : MethodName := ⟨RX9, "where", "(II)I"⟩
abbrev cX9_whereNotOn : ByteArray := prog_11_method_40_code
def yX9_whereNotOn : MethodName := ⟨RX9, "whereNotOn", "(II)I"⟩
abbrev cX9_isInTheWay : ByteArray := prog_11_method_41_code
def yX9_isInTheWay : MethodName := ⟨RX9, "isInTheWay", "(IIIII)Z"⟩
abbrev cX9_areSeeing : ByteArray := prog_11_method_42_code
def yX9_areSeeing : MethodName := ⟨RX9, "areSeeing", "(IIII)Z"⟩
abbrev cX9_seenBy : ByteArray := prog_11_method_43_code
def yX9_seenBy : MethodName := ⟨RX9, "seenBy", "(II)I"⟩
abbrev cX9_isEar : ByteArray := prog_11_method_44_code
def yX9_isEar : MethodName := ⟨RX9, "isEar", "(I)Z"⟩
abbrev cX9_pointsIn : ByteArray := prog_11_method_45_code
def yX9_pointsIn : MethodName := ⟨RX9, "pointsIn", "(IZ)I"⟩
abbrev cX9_inside : ByteArray := prog_11_method_46_code
def yX9_inside : MethodName := ⟨RX9, "inside", "()I"⟩
abbrev cX9_hull : ByteArray := prog_11_method_47_code
def yX9_hull : MethodName := ⟨RX9, "hull", "()I"⟩
abbrev cX9_squareOf : ByteArray := prog_11_method_48_code
def yX9_squareOf : MethodName := ⟨RX9, "squareOf", "(II)I"⟩
abbrev cX9_kindsOf : ByteArray := prog_11_method_49_code
def yX9_kindsOf : MethodName := ⟨RX9, "kindsOf", "(I)I"⟩
abbrev cX9_about : ByteArray := prog_11_method_50_code
def yX9_about : MethodName := ⟨RX9, "about", "(I)I"⟩
abbrev cX9_lengthOf : ByteArray := prog_11_method_51_code
def yX9_lengthOf : MethodName := ⟨RX9, "lengthOf", "(II)I"⟩
abbrev cX9_longest : ByteArray := prog_11_method_52_code
def yX9_longest : MethodName := ⟨RX9, "longest", "(I)I"⟩
abbrev cX9_ring : ByteArray := prog_11_method_53_code
def yX9_ring : MethodName := ⟨RX9, "ring", "(II)I"⟩
abbrev cX9_corner : ByteArray := prog_11_method_54_code
def yX9_corner : MethodName := ⟨RX9, "corner", "(III)I"⟩
abbrev cX9_isPoint : ByteArray := prog_11_method_55_code
def yX9_isPoint : MethodName := ⟨RX9, "isPoint", "(II)Z"⟩
abbrev cX9_point : ByteArray := prog_11_method_56_code
def yX9_point : MethodName := ⟨RX9, "point", "(II)I"⟩
abbrev cX9_sees : ByteArray := prog_11_method_57_code
def yX9_sees : MethodName := ⟨RX9, "sees", "(IIII)Z"⟩
abbrev cX9_remember : ByteArray := prog_11_method_58_code
def yX9_remember : MethodName := ⟨RX9, "remember", "()V"⟩
abbrev cX9_begin : ByteArray := prog_11_method_59_code
def yX9_begin : MethodName := ⟨RX9, "begin", "()V"⟩
abbrev cX9_end : ByteArray := prog_11_method_60_code
def yX9_end : MethodName := ⟨RX9, "end", "()I"⟩
abbrev cX9_tryMove : ByteArray := prog_11_method_61_code
def yX9_tryMove : MethodName := ⟨RX9, "tryMove", "(IIII)I"⟩
abbrev cX9_tryInsert : ByteArray := prog_11_method_62_code
def yX9_tryInsert : MethodName := ⟨RX9, "tryInsert", "(IIII)I"⟩
abbrev cX9_tryRemove : ByteArray := prog_11_method_63_code
def yX9_tryRemove : MethodName := ⟨RX9, "tryRemove", "(II)I"⟩
abbrev cX9_tryHole : ByteArray := prog_11_method_64_code
def yX9_tryHole : MethodName := ⟨RX9, "tryHole", "(II)I"⟩
abbrev cX9_tryShift : ByteArray := prog_11_method_65_code
def yX9_tryShift : MethodName := ⟨RX9, "tryShift", "(II)I"⟩
abbrev cX9_turned : ByteArray := prog_11_method_66_code
def yX9_turned : MethodName := ⟨RX9, "turned", "(Z)V"⟩
abbrev cX9_greatestX : ByteArray := prog_11_method_67_code
def yX9_greatestX : MethodName := ⟨RX9, "greatestX", "()I"⟩
abbrev cX9_move : ByteArray := prog_11_method_68_code
def yX9_move : MethodName := ⟨RX9, "move", "(IIII)I"⟩
abbrev cX9_insert : ByteArray := prog_11_method_69_code
def yX9_insert : MethodName := ⟨RX9, "insert", "(IIII)I"⟩
abbrev cX9_remove : ByteArray := prog_11_method_70_code
def yX9_remove : MethodName := ⟨RX9, "remove", "(II)I"⟩
abbrev cX9_addHole : ByteArray := prog_11_method_71_code
def yX9_addHole : MethodName := ⟨RX9, "addHole", "(II)I"⟩
abbrev cX9_dropHole : ByteArray := prog_11_method_72_code
def yX9_dropHole : MethodName := ⟨RX9, "dropHole", "(I)I"⟩
abbrev cX9_shift : ByteArray := prog_11_method_73_code
def yX9_shift : MethodName := ⟨RX9, "shift", "(II)I"⟩
abbrev cX9_turn : ByteArray := prog_11_method_74_code
def yX9_turn : MethodName := ⟨RX9, "turn", "()I"⟩
abbrev cX9_mirror : ByteArray := prog_11_method_75_code
def yX9_mirror : MethodName := ⟨RX9, "mirror", "()I"⟩
abbrev cX9_undo : ByteArray := prog_11_method_76_code
def yX9_undo : MethodName := ⟨RX9, "undo", "()I"⟩
abbrev cX9_whyNot : ByteArray := prog_11_method_77_code
def yX9_whyNot : MethodName := ⟨RX9, "whyNot", "(IIII)I"⟩
abbrev cX9_cut : ByteArray := prog_11_method_78_code
def yX9_cut : MethodName := ⟨RX9, "cut", "(I)I"⟩
abbrev cX9_stepX : ByteArray := prog_11_method_79_code
def yX9_stepX : MethodName := ⟨RX9, "stepX", "(I)I"⟩
abbrev cX9_stepY : ByteArray := prog_11_method_80_code
def yX9_stepY : MethodName := ⟨RX9, "stepY", "(I)I"⟩
abbrev cX9_isStepped : ByteArray := prog_11_method_81_code
def yX9_isStepped : MethodName := ⟨RX9, "isStepped", "(II)Z"⟩
abbrev cX9_bestMove : ByteArray := prog_11_method_82_code
def yX9_bestMove : MethodName := ⟨RX9, "bestMove", "()I"⟩
abbrev cX9_inRow : ByteArray := prog_11_method_83_code
def yX9_inRow : MethodName := ⟨RX9, "inRow", "(IZ)I"⟩
abbrev cX9_cuttings : ByteArray := prog_11_method_84_code
def yX9_cuttings : MethodName := ⟨RX9, "cuttings", "()I"⟩
abbrev cX9_isTurned : ByteArray := prog_11_method_85_code
def yX9_isTurned : MethodName := ⟨RX9, "isTurned", "(I)Z"⟩
abbrev cX9_commands : ByteArray := prog_11_method_86_code
def yX9_commands : MethodName := ⟨RX9, "commands", "(I)Z"⟩
abbrev cX9_runScript : ByteArray := prog_11_method_87_code
def yX9_runScript : MethodName := ⟨RX9, "runScript", "(IJ)I"⟩
abbrev cX9_simulate : ByteArray := prog_11_method_88_code
def yX9_simulate : MethodName := ⟨RX9, "simulate", "(JI)I"⟩
abbrev cX9_isSlot : ByteArray := prog_11_method_89_code
def yX9_isSlot : MethodName := ⟨RX9, "isSlot", "(I)Z"⟩
abbrev cX9_save : ByteArray := prog_11_method_90_code
def yX9_save : MethodName := ⟨RX9, "save", "(I)I"⟩
abbrev cX9_restore : ByteArray := prog_11_method_91_code
def yX9_restore : MethodName := ⟨RX9, "restore", "(I)I"⟩
def RJ9 : String := "java/lang/Math"
def RJ0 : String := "java/lang/String"
def RJ10 : String := "java/lang/System"
def RL : String := "SquaredPaperLaw"
abbrev cL_append : ByteArray := method_3_code
def yL_append : MethodName := ⟨RL, "append", "(LSquaredPaper;I[J)I"⟩
abbrev cL_load : ByteArray := method_4_code
def yL_load : MethodName := ⟨RL, "load", "(LSquaredPaper;[J)I"⟩
abbrev cL_about : ByteArray := method_5_code
def yL_about : MethodName := ⟨RL, "about", "(LSquaredPaper;I[J)I"⟩
abbrev cL_ring : ByteArray := method_6_code
def yL_ring : MethodName := ⟨RL, "ring", "(LSquaredPaper;II[J)I"⟩
abbrev cL_corner : ByteArray := method_7_code
def yL_corner : MethodName := ⟨RL, "corner", "(LSquaredPaper;III[J)I"⟩
abbrev cL_point : ByteArray := method_8_code
def yL_point : MethodName := ⟨RL, "point", "(LSquaredPaper;II[J)I"⟩
abbrev cL_sees : ByteArray := method_9_code
def yL_sees : MethodName := ⟨RL, "sees", "(LSquaredPaper;IIII[J)I"⟩
abbrev cL_move : ByteArray := method_10_code
def yL_move : MethodName := ⟨RL, "move", "(LSquaredPaper;IIII[J)I"⟩
abbrev cL_insert : ByteArray := method_11_code
def yL_insert : MethodName := ⟨RL, "insert", "(LSquaredPaper;IIII[J)I"⟩
abbrev cL_remove : ByteArray := method_12_code
def yL_remove : MethodName := ⟨RL, "remove", "(LSquaredPaper;II[J)I"⟩
abbrev cL_addHole : ByteArray := method_13_code
def yL_addHole : MethodName := ⟨RL, "addHole", "(LSquaredPaper;II[J)I"⟩
abbrev cL_dropHole : ByteArray := method_14_code
def yL_dropHole : MethodName := ⟨RL, "dropHole", "(LSquaredPaper;I[J)I"⟩
abbrev cL_shift : ByteArray := method_15_code
def yL_shift : MethodName := ⟨RL, "shift", "(LSquaredPaper;II[J)I"⟩
abbrev cL_undo : ByteArray := method_16_code
def yL_undo : MethodName := ⟨RL, "undo", "(LSquaredPaper;[J)I"⟩
abbrev cL_whyNot : ByteArray := method_17_code
def yL_whyNot : MethodName := ⟨RL, "whyNot", "(LSquaredPaper;IIII[J)I"⟩
abbrev cL_cut : ByteArray := method_18_code
def yL_cut : MethodName := ⟨RL, "cut", "(LSquaredPaper;I[J)I"⟩
abbrev cL_inRow : ByteArray := method_19_code
def yL_inRow : MethodName := ⟨RL, "inRow", "(LSquaredPaper;IZ[J)I"⟩
abbrev cL_runScript : ByteArray := method_20_code
def yL_runScript : MethodName := ⟨RL, "runScript", "(LSquaredPaper;IJ[J)I"⟩
abbrev cL_simulate : ByteArray := method_21_code
def yL_simulate : MethodName := ⟨RL, "simulate", "(LSquaredPaper;JI[J)I"⟩
abbrev cL_save : ByteArray := method_22_code
def yL_save : MethodName := ⟨RL, "save", "(LSquaredPaper;I[J)I"⟩
abbrev cL_restore : ByteArray := method_23_code
def yL_restore : MethodName := ⟨RL, "restore", "(LSquaredPaper;I[J)I"⟩
abbrev cL_law : ByteArray := code
def yL_law : MethodName := ⟨RL, "law", "([I)Z"⟩
abbrev vwCl : List vw_C := [(RX1, TX1, 6), (RX3, TX3, 3), (RX7, TX7, 2), (RX8, TX8, 7), (RX9, TX9, 18)]
