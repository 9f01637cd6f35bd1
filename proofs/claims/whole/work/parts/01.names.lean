-- ===== PART A: goes FIRST, ahead of the names: the tables' words, and 'selects' of the private methods out of them =====
/-- a private method of a class that the tables say can be made, by its rows of tables_1 -/
def lw_okq (q : MethodName × Nat) : Prop := (q.1.cls ≠ "java/lang/invoke/MethodHandle" ∧ q.1.cls ≠ "java/lang/invoke/VarHandle") ∧ Cond.instantiable q.1.cls q.2 ∈ tables_1 ∧ Cond.privateMethod q.1 ∈ tables_1 ∧ Cond.instanceMethod q.1 ∈ tables_1
theorem lw_p0 : lw_okq (⟨"TableFirms", "found", "(I)I"⟩, 10) := ⟨⟨by decide +kernel, by decide +kernel⟩, List.mem_of_getElem? (i := 14) (by decide +kernel), List.mem_of_getElem? (i := 223) (by decide +kernel), List.mem_of_getElem? (i := 224) (by decide +kernel)⟩
theorem lw_p1 : lw_okq (⟨"TableFirms", "unfound", "(I)I"⟩, 10) := ⟨⟨by decide +kernel, by decide +kernel⟩, List.mem_of_getElem? (i := 14) (by decide +kernel), List.mem_of_getElem? (i := 232) (by decide +kernel), List.mem_of_getElem? (i := 233) (by decide +kernel)⟩
theorem lw_p2 : lw_okq (⟨"TableFirms$Rows", "hasItems", "(III)Z"⟩, 3) := ⟨⟨by decide +kernel, by decide +kernel⟩, List.mem_of_getElem? (i := 22) (by decide +kernel), List.mem_of_getElem? (i := 248) (by decide +kernel), List.mem_of_getElem? (i := 249) (by decide +kernel)⟩
theorem lw_p3 : lw_okq (⟨"TableFirms$Reader", "readLaw", "()Z"⟩, 6) := ⟨⟨by decide +kernel, by decide +kernel⟩, List.mem_of_getElem? (i := 293) (by decide +kernel), List.mem_of_getElem? (i := 324) (by decide +kernel), List.mem_of_getElem? (i := 325) (by decide +kernel)⟩
theorem lw_p4 : lw_okq (⟨"TableFirms$Reader", "readSign", "(I)Z"⟩, 6) := ⟨⟨by decide +kernel, by decide +kernel⟩, List.mem_of_getElem? (i := 293) (by decide +kernel), List.mem_of_getElem? (i := 328) (by decide +kernel), List.mem_of_getElem? (i := 329) (by decide +kernel)⟩
theorem lw_p5 : lw_okq (⟨"TableFirms$Reader", "fail", "(I)Z"⟩, 6) := ⟨⟨by decide +kernel, by decide +kernel⟩, List.mem_of_getElem? (i := 293) (by decide +kernel), List.mem_of_getElem? (i := 332) (by decide +kernel), List.mem_of_getElem? (i := 333) (by decide +kernel)⟩
theorem lw_p6 : lw_okq (⟨"TableFirms$Reader", "readNumber", "(II)I"⟩, 6) := ⟨⟨by decide +kernel, by decide +kernel⟩, List.mem_of_getElem? (i := 293) (by decide +kernel), List.mem_of_getElem? (i := 336) (by decide +kernel), List.mem_of_getElem? (i := 337) (by decide +kernel)⟩
theorem lw_p7 : lw_okq (⟨"TableFirms$Reader", "readMan", "()Z"⟩, 6) := ⟨⟨by decide +kernel, by decide +kernel⟩, List.mem_of_getElem? (i := 293) (by decide +kernel), List.mem_of_getElem? (i := 352) (by decide +kernel), List.mem_of_getElem? (i := 353) (by decide +kernel)⟩
theorem lw_p8 : lw_okq (⟨"TableFirms$Reader", "kindHere", "()I"⟩, 6) := ⟨⟨by decide +kernel, by decide +kernel⟩, List.mem_of_getElem? (i := 293) (by decide +kernel), List.mem_of_getElem? (i := 356) (by decide +kernel), List.mem_of_getElem? (i := 357) (by decide +kernel)⟩
theorem lw_p9 : lw_okq (⟨"TableFirms$Board", "tally", "(II)V"⟩, 13) := ⟨⟨by decide +kernel, by decide +kernel⟩, List.mem_of_getElem? (i := 55) (by decide +kernel), List.mem_of_getElem? (i := 368) (by decide +kernel), List.mem_of_getElem? (i := 369) (by decide +kernel)⟩
theorem lw_p10 : lw_okq (⟨"TableFirms", "hasNoTable", "()Z"⟩, 10) := ⟨⟨by decide +kernel, by decide +kernel⟩, List.mem_of_getElem? (i := 14) (by decide +kernel), List.mem_of_getElem? (i := 411) (by decide +kernel), List.mem_of_getElem? (i := 412) (by decide +kernel)⟩
theorem lw_p11 : lw_okq (⟨"TableFirms", "isOver", "()Z"⟩, 10) := ⟨⟨by decide +kernel, by decide +kernel⟩, List.mem_of_getElem? (i := 14) (by decide +kernel), List.mem_of_getElem? (i := 418) (by decide +kernel), List.mem_of_getElem? (i := 419) (by decide +kernel)⟩
theorem lw_p12 : lw_okq (⟨"TableFirms$Board", "stride", "(II)I"⟩, 13) := ⟨⟨by decide +kernel, by decide +kernel⟩, List.mem_of_getElem? (i := 55) (by decide +kernel), List.mem_of_getElem? (i := 465) (by decide +kernel), List.mem_of_getElem? (i := 466) (by decide +kernel)⟩
theorem lw_p13 : lw_okq (⟨"TableFirms$Board", "dares", "(II)Z"⟩, 13) := ⟨⟨by decide +kernel, by decide +kernel⟩, List.mem_of_getElem? (i := 55) (by decide +kernel), List.mem_of_getElem? (i := 469) (by decide +kernel), List.mem_of_getElem? (i := 470) (by decide +kernel)⟩
theorem lw_p14 : lw_okq (⟨"TableFirms$Board", "loneOn", "(II)I"⟩, 13) := ⟨⟨by decide +kernel, by decide +kernel⟩, List.mem_of_getElem? (i := 55) (by decide +kernel), List.mem_of_getElem? (i := 482) (by decide +kernel), List.mem_of_getElem? (i := 483) (by decide +kernel)⟩
theorem lw_p15 : lw_okq (⟨"TableFirms", "isMan", "(I)Z"⟩, 10) := ⟨⟨by decide +kernel, by decide +kernel⟩, List.mem_of_getElem? (i := 14) (by decide +kernel), List.mem_of_getElem? (i := 495) (by decide +kernel), List.mem_of_getElem? (i := 496) (by decide +kernel)⟩
def lw_privs_1 : List (MethodName × Nat) := [(⟨"TableFirms", "found", "(I)I"⟩, 10), (⟨"TableFirms", "unfound", "(I)I"⟩, 10), (⟨"TableFirms$Rows", "hasItems", "(III)Z"⟩, 3), (⟨"TableFirms$Reader", "readLaw", "()Z"⟩, 6), (⟨"TableFirms$Reader", "readSign", "(I)Z"⟩, 6), (⟨"TableFirms$Reader", "fail", "(I)Z"⟩, 6), (⟨"TableFirms$Reader", "readNumber", "(II)I"⟩, 6), (⟨"TableFirms$Reader", "readMan", "()Z"⟩, 6), (⟨"TableFirms$Reader", "kindHere", "()I"⟩, 6), (⟨"TableFirms$Board", "tally", "(II)V"⟩, 13), (⟨"TableFirms", "hasNoTable", "()Z"⟩, 10), (⟨"TableFirms", "isOver", "()Z"⟩, 10), (⟨"TableFirms$Board", "stride", "(II)I"⟩, 13), (⟨"TableFirms$Board", "dares", "(II)Z"⟩, 13), (⟨"TableFirms$Board", "loneOn", "(II)I"⟩, 13), (⟨"TableFirms", "isMan", "(I)Z"⟩, 10)]
theorem lw_r1 : ∀ q ∈ lw_privs_1, lw_okq q := List.forall_mem_cons.mpr ⟨lw_p0, List.forall_mem_cons.mpr ⟨lw_p1, List.forall_mem_cons.mpr ⟨lw_p2, List.forall_mem_cons.mpr ⟨lw_p3, List.forall_mem_cons.mpr ⟨lw_p4, List.forall_mem_cons.mpr ⟨lw_p5, List.forall_mem_cons.mpr ⟨lw_p6, List.forall_mem_cons.mpr ⟨lw_p7, List.forall_mem_cons.mpr ⟨lw_p8, List.forall_mem_cons.mpr ⟨lw_p9, List.forall_mem_cons.mpr ⟨lw_p10, List.forall_mem_cons.mpr ⟨lw_p11, List.forall_mem_cons.mpr ⟨lw_p12, List.forall_mem_cons.mpr ⟨lw_p13, List.forall_mem_cons.mpr ⟨lw_p14, List.forall_mem_cons.mpr ⟨lw_p15, fun _ h => absurd h List.not_mem_nil⟩⟩⟩⟩⟩⟩⟩⟩⟩⟩⟩⟩⟩⟩⟩⟩
theorem lw_p16 : lw_okq (⟨"TableFirms$Board", "hits", "(III)Z"⟩, 13) := ⟨⟨by decide +kernel, by decide +kernel⟩, List.mem_of_getElem? (i := 55) (by decide +kernel), List.mem_of_getElem? (i := 558) (by decide +kernel), List.mem_of_getElem? (i := 559) (by decide +kernel)⟩
theorem lw_p17 : lw_okq (⟨"TableFirms$Foresight", "greatestWorth", "(III)I"⟩, 3) := ⟨⟨by decide +kernel, by decide +kernel⟩, List.mem_of_getElem? (i := 145) (by decide +kernel), List.mem_of_getElem? (i := 592) (by decide +kernel), List.mem_of_getElem? (i := 593) (by decide +kernel)⟩
theorem lw_p18 : lw_okq (⟨"TableFirms$Foresight", "worthBehind", "(III)I"⟩, 3) := ⟨⟨by decide +kernel, by decide +kernel⟩, List.mem_of_getElem? (i := 145) (by decide +kernel), List.mem_of_getElem? (i := 597) (by decide +kernel), List.mem_of_getElem? (i := 598) (by decide +kernel)⟩
theorem lw_p19 : lw_okq (⟨"TableFirms$Foresight", "worthTo", "(II)I"⟩, 3) := ⟨⟨by decide +kernel, by decide +kernel⟩, List.mem_of_getElem? (i := 145) (by decide +kernel), List.mem_of_getElem? (i := 602) (by decide +kernel), List.mem_of_getElem? (i := 603) (by decide +kernel)⟩
theorem lw_p20 : lw_okq (⟨"TableFirms$Foresight", "leaveAlone", "(LTableFirms$Board;I)V"⟩, 3) := ⟨⟨by decide +kernel, by decide +kernel⟩, List.mem_of_getElem? (i := 145) (by decide +kernel), List.mem_of_getElem? (i := 621) (by decide +kernel), List.mem_of_getElem? (i := 622) (by decide +kernel)⟩
theorem lw_p21 : lw_okq (⟨"TableFirms$Foresight", "isAsTold", "()Z"⟩, 3) := ⟨⟨by decide +kernel, by decide +kernel⟩, List.mem_of_getElem? (i := 145) (by decide +kernel), List.mem_of_getElem? (i := 649) (by decide +kernel), List.mem_of_getElem? (i := 650) (by decide +kernel)⟩
theorem lw_p22 : lw_okq (⟨"TableFirms$Asks", "leave", "(I)V"⟩, 2) := ⟨⟨by decide +kernel, by decide +kernel⟩, List.mem_of_getElem? (i := 166) (by decide +kernel), List.mem_of_getElem? (i := 746) (by decide +kernel), List.mem_of_getElem? (i := 747) (by decide +kernel)⟩
theorem lw_p23 : lw_okq (⟨"TableFirmsModel", "found", "(I)I"⟩, 34) := ⟨⟨by decide +kernel, by decide +kernel⟩, List.mem_of_getElem? (i := 767) (by decide +kernel), List.mem_of_getElem? (i := 890) (by decide +kernel), List.mem_of_getElem? (i := 891) (by decide +kernel)⟩
theorem lw_p24 : lw_okq (⟨"TableFirmsModel", "well", "(I)I"⟩, 34) := ⟨⟨by decide +kernel, by decide +kernel⟩, List.mem_of_getElem? (i := 767) (by decide +kernel), List.mem_of_getElem? (i := 895) (by decide +kernel), List.mem_of_getElem? (i := 896) (by decide +kernel)⟩
theorem lw_p25 : lw_okq (⟨"TableFirmsModel", "isSpan", "(III)Z"⟩, 34) := ⟨⟨by decide +kernel, by decide +kernel⟩, List.mem_of_getElem? (i := 767) (by decide +kernel), List.mem_of_getElem? (i := 907) (by decide +kernel), List.mem_of_getElem? (i := 908) (by decide +kernel)⟩
theorem lw_p26 : lw_okq (⟨"TableFirmsModel", "readAll", "()I"⟩, 34) := ⟨⟨by decide +kernel, by decide +kernel⟩, List.mem_of_getElem? (i := 767) (by decide +kernel), List.mem_of_getElem? (i := 925) (by decide +kernel), List.mem_of_getElem? (i := 926) (by decide +kernel)⟩
theorem lw_p27 : lw_okq (⟨"TableFirmsModel", "law", "()I"⟩, 34) := ⟨⟨by decide +kernel, by decide +kernel⟩, List.mem_of_getElem? (i := 767) (by decide +kernel), List.mem_of_getElem? (i := 929) (by decide +kernel), List.mem_of_getElem? (i := 930) (by decide +kernel)⟩
theorem lw_p28 : lw_okq (⟨"TableFirmsModel", "sign", "(I)I"⟩, 34) := ⟨⟨by decide +kernel, by decide +kernel⟩, List.mem_of_getElem? (i := 767) (by decide +kernel), List.mem_of_getElem? (i := 933) (by decide +kernel), List.mem_of_getElem? (i := 934) (by decide +kernel)⟩
theorem lw_p29 : lw_okq (⟨"TableFirmsModel", "next", "()V"⟩, 34) := ⟨⟨by decide +kernel, by decide +kernel⟩, List.mem_of_getElem? (i := 767) (by decide +kernel), List.mem_of_getElem? (i := 937) (by decide +kernel), List.mem_of_getElem? (i := 938) (by decide +kernel)⟩
theorem lw_p30 : lw_okq (⟨"TableFirmsModel", "numberIn", "(II)I"⟩, 34) := ⟨⟨by decide +kernel, by decide +kernel⟩, List.mem_of_getElem? (i := 767) (by decide +kernel), List.mem_of_getElem? (i := 948) (by decide +kernel), List.mem_of_getElem? (i := 949) (by decide +kernel)⟩
theorem lw_p31 : lw_okq (⟨"TableFirmsModel", "manItem", "()I"⟩, 34) := ⟨⟨by decide +kernel, by decide +kernel⟩, List.mem_of_getElem? (i := 767) (by decide +kernel), List.mem_of_getElem? (i := 952) (by decide +kernel), List.mem_of_getElem? (i := 953) (by decide +kernel)⟩
def lw_privs_2 : List (MethodName × Nat) := [(⟨"TableFirms$Board", "hits", "(III)Z"⟩, 13), (⟨"TableFirms$Foresight", "greatestWorth", "(III)I"⟩, 3), (⟨"TableFirms$Foresight", "worthBehind", "(III)I"⟩, 3), (⟨"TableFirms$Foresight", "worthTo", "(II)I"⟩, 3), (⟨"TableFirms$Foresight", "leaveAlone", "(LTableFirms$Board;I)V"⟩, 3), (⟨"TableFirms$Foresight", "isAsTold", "()Z"⟩, 3), (⟨"TableFirms$Asks", "leave", "(I)V"⟩, 2), (⟨"TableFirmsModel", "found", "(I)I"⟩, 34), (⟨"TableFirmsModel", "well", "(I)I"⟩, 34), (⟨"TableFirmsModel", "isSpan", "(III)Z"⟩, 34), (⟨"TableFirmsModel", "readAll", "()I"⟩, 34), (⟨"TableFirmsModel", "law", "()I"⟩, 34), (⟨"TableFirmsModel", "sign", "(I)I"⟩, 34), (⟨"TableFirmsModel", "next", "()V"⟩, 34), (⟨"TableFirmsModel", "numberIn", "(II)I"⟩, 34), (⟨"TableFirmsModel", "manItem", "()I"⟩, 34)]
theorem lw_r2 : ∀ q ∈ lw_privs_2, lw_okq q := List.forall_mem_cons.mpr ⟨lw_p16, List.forall_mem_cons.mpr ⟨lw_p17, List.forall_mem_cons.mpr ⟨lw_p18, List.forall_mem_cons.mpr ⟨lw_p19, List.forall_mem_cons.mpr ⟨lw_p20, List.forall_mem_cons.mpr ⟨lw_p21, List.forall_mem_cons.mpr ⟨lw_p22, List.forall_mem_cons.mpr ⟨lw_p23, List.forall_mem_cons.mpr ⟨lw_p24, List.forall_mem_cons.mpr ⟨lw_p25, List.forall_mem_cons.mpr ⟨lw_p26, List.forall_mem_cons.mpr ⟨lw_p27, List.forall_mem_cons.mpr ⟨lw_p28, List.forall_mem_cons.mpr ⟨lw_p29, List.forall_mem_cons.mpr ⟨lw_p30, List.forall_mem_cons.mpr ⟨lw_p31, fun _ h => absurd h List.not_mem_nil⟩⟩⟩⟩⟩⟩⟩⟩⟩⟩⟩⟩⟩⟩⟩⟩
theorem lw_p32 : lw_okq (⟨"TableFirmsModel", "wonNow", "()I"⟩, 34) := ⟨⟨by decide +kernel, by decide +kernel⟩, List.mem_of_getElem? (i := 767) (by decide +kernel), List.mem_of_getElem? (i := 977) (by decide +kernel), List.mem_of_getElem? (i := 978) (by decide +kernel)⟩
theorem lw_p33 : lw_okq (⟨"TableFirmsModel", "aside", "(I)V"⟩, 34) := ⟨⟨by decide +kernel, by decide +kernel⟩, List.mem_of_getElem? (i := 767) (by decide +kernel), List.mem_of_getElem? (i := 981) (by decide +kernel), List.mem_of_getElem? (i := 982) (by decide +kernel)⟩
theorem lw_p34 : lw_okq (⟨"TableFirmsModel", "won", "(I)I"⟩, 34) := ⟨⟨by decide +kernel, by decide +kernel⟩, List.mem_of_getElem? (i := 767) (by decide +kernel), List.mem_of_getElem? (i := 985) (by decide +kernel), List.mem_of_getElem? (i := 986) (by decide +kernel)⟩
theorem lw_p35 : lw_okq (⟨"TableFirmsModel", "at", "(II)I"⟩, 34) := ⟨⟨by decide +kernel, by decide +kernel⟩, List.mem_of_getElem? (i := 767) (by decide +kernel), List.mem_of_getElem? (i := 989) (by decide +kernel), List.mem_of_getElem? (i := 990) (by decide +kernel)⟩
theorem lw_p36 : lw_okq (⟨"TableFirmsModel", "note", "()V"⟩, 34) := ⟨⟨by decide +kernel, by decide +kernel⟩, List.mem_of_getElem? (i := 767) (by decide +kernel), List.mem_of_getElem? (i := 993) (by decide +kernel), List.mem_of_getElem? (i := 994) (by decide +kernel)⟩
theorem lw_p37 : lw_okq (⟨"TableFirmsModel", "goRuled", "(II)I"⟩, 34) := ⟨⟨by decide +kernel, by decide +kernel⟩, List.mem_of_getElem? (i := 767) (by decide +kernel), List.mem_of_getElem? (i := 997) (by decide +kernel), List.mem_of_getElem? (i := 998) (by decide +kernel)⟩
theorem lw_p38 : lw_okq (⟨"TableFirmsModel", "ruled", "(III)I"⟩, 34) := ⟨⟨by decide +kernel, by decide +kernel⟩, List.mem_of_getElem? (i := 767) (by decide +kernel), List.mem_of_getElem? (i := 1001) (by decide +kernel), List.mem_of_getElem? (i := 1002) (by decide +kernel)⟩
theorem lw_p39 : lw_okq (⟨"TableFirmsModel", "can", "(III)Z"⟩, 34) := ⟨⟨by decide +kernel, by decide +kernel⟩, List.mem_of_getElem? (i := 767) (by decide +kernel), List.mem_of_getElem? (i := 1005) (by decide +kernel), List.mem_of_getElem? (i := 1006) (by decide +kernel)⟩
theorem lw_p40 : lw_okq (⟨"TableFirmsModel", "manyAt", "(IIII)I"⟩, 34) := ⟨⟨by decide +kernel, by decide +kernel⟩, List.mem_of_getElem? (i := 767) (by decide +kernel), List.mem_of_getElem? (i := 1009) (by decide +kernel), List.mem_of_getElem? (i := 1010) (by decide +kernel)⟩
theorem lw_p41 : lw_okq (⟨"TableFirmsModel", "target", "(III)I"⟩, 34) := ⟨⟨by decide +kernel, by decide +kernel⟩, List.mem_of_getElem? (i := 767) (by decide +kernel), List.mem_of_getElem? (i := 1013) (by decide +kernel), List.mem_of_getElem? (i := 1014) (by decide +kernel)⟩
theorem lw_p42 : lw_okq (⟨"TableFirmsModel", "pipsOf", "(II)I"⟩, 34) := ⟨⟨by decide +kernel, by decide +kernel⟩, List.mem_of_getElem? (i := 767) (by decide +kernel), List.mem_of_getElem? (i := 1017) (by decide +kernel), List.mem_of_getElem? (i := 1018) (by decide +kernel)⟩
theorem lw_p43 : lw_okq (⟨"TableFirmsModel", "pipsAt", "(II)I"⟩, 34) := ⟨⟨by decide +kernel, by decide +kernel⟩, List.mem_of_getElem? (i := 767) (by decide +kernel), List.mem_of_getElem? (i := 1021) (by decide +kernel), List.mem_of_getElem? (i := 1022) (by decide +kernel)⟩
theorem lw_p44 : lw_okq (⟨"TableFirmsModel", "hop", "(II)I"⟩, 34) := ⟨⟨by decide +kernel, by decide +kernel⟩, List.mem_of_getElem? (i := 767) (by decide +kernel), List.mem_of_getElem? (i := 1025) (by decide +kernel), List.mem_of_getElem? (i := 1026) (by decide +kernel)⟩
theorem lw_p45 : lw_okq (⟨"TableFirmsModel", "kindNow", "(I)I"⟩, 34) := ⟨⟨by decide +kernel, by decide +kernel⟩, List.mem_of_getElem? (i := 767) (by decide +kernel), List.mem_of_getElem? (i := 1029) (by decide +kernel), List.mem_of_getElem? (i := 1030) (by decide +kernel)⟩
theorem lw_p46 : lw_okq (⟨"TableFirmsModel", "isAllHome", "(II)Z"⟩, 34) := ⟨⟨by decide +kernel, by decide +kernel⟩, List.mem_of_getElem? (i := 767) (by decide +kernel), List.mem_of_getElem? (i := 1033) (by decide +kernel), List.mem_of_getElem? (i := 1034) (by decide +kernel)⟩
theorem lw_p47 : lw_okq (⟨"TableFirmsModel", "goMan", "(III)V"⟩, 34) := ⟨⟨by decide +kernel, by decide +kernel⟩, List.mem_of_getElem? (i := 767) (by decide +kernel), List.mem_of_getElem? (i := 1037) (by decide +kernel), List.mem_of_getElem? (i := 1038) (by decide +kernel)⟩
def lw_privs_3 : List (MethodName × Nat) := [(⟨"TableFirmsModel", "wonNow", "()I"⟩, 34), (⟨"TableFirmsModel", "aside", "(I)V"⟩, 34), (⟨"TableFirmsModel", "won", "(I)I"⟩, 34), (⟨"TableFirmsModel", "at", "(II)I"⟩, 34), (⟨"TableFirmsModel", "note", "()V"⟩, 34), (⟨"TableFirmsModel", "goRuled", "(II)I"⟩, 34), (⟨"TableFirmsModel", "ruled", "(III)I"⟩, 34), (⟨"TableFirmsModel", "can", "(III)Z"⟩, 34), (⟨"TableFirmsModel", "manyAt", "(IIII)I"⟩, 34), (⟨"TableFirmsModel", "target", "(III)I"⟩, 34), (⟨"TableFirmsModel", "pipsOf", "(II)I"⟩, 34), (⟨"TableFirmsModel", "pipsAt", "(II)I"⟩, 34), (⟨"TableFirmsModel", "hop", "(II)I"⟩, 34), (⟨"TableFirmsModel", "kindNow", "(I)I"⟩, 34), (⟨"TableFirmsModel", "isAllHome", "(II)Z"⟩, 34), (⟨"TableFirmsModel", "goMan", "(III)V"⟩, 34)]
theorem lw_r3 : ∀ q ∈ lw_privs_3, lw_okq q := List.forall_mem_cons.mpr ⟨lw_p32, List.forall_mem_cons.mpr ⟨lw_p33, List.forall_mem_cons.mpr ⟨lw_p34, List.forall_mem_cons.mpr ⟨lw_p35, List.forall_mem_cons.mpr ⟨lw_p36, List.forall_mem_cons.mpr ⟨lw_p37, List.forall_mem_cons.mpr ⟨lw_p38, List.forall_mem_cons.mpr ⟨lw_p39, List.forall_mem_cons.mpr ⟨lw_p40, List.forall_mem_cons.mpr ⟨lw_p41, List.forall_mem_cons.mpr ⟨lw_p42, List.forall_mem_cons.mpr ⟨lw_p43, List.forall_mem_cons.mpr ⟨lw_p44, List.forall_mem_cons.mpr ⟨lw_p45, List.forall_mem_cons.mpr ⟨lw_p46, List.forall_mem_cons.mpr ⟨lw_p47, fun _ h => absurd h List.not_mem_nil⟩⟩⟩⟩⟩⟩⟩⟩⟩⟩⟩⟩⟩⟩⟩⟩
theorem lw_p48 : lw_okq (⟨"TableFirmsModel", "goTurn", "(I)V"⟩, 34) := ⟨⟨by decide +kernel, by decide +kernel⟩, List.mem_of_getElem? (i := 767) (by decide +kernel), List.mem_of_getElem? (i := 1041) (by decide +kernel), List.mem_of_getElem? (i := 1042) (by decide +kernel)⟩
theorem lw_p49 : lw_okq (⟨"TableFirmsModel", "take", "()V"⟩, 34) := ⟨⟨by decide +kernel, by decide +kernel⟩, List.mem_of_getElem? (i := 767) (by decide +kernel), List.mem_of_getElem? (i := 1045) (by decide +kernel), List.mem_of_getElem? (i := 1046) (by decide +kernel)⟩
theorem lw_p50 : lw_okq (⟨"TableFirmsModel", "isMan", "(I)Z"⟩, 34) := ⟨⟨by decide +kernel, by decide +kernel⟩, List.mem_of_getElem? (i := 767) (by decide +kernel), List.mem_of_getElem? (i := 1053) (by decide +kernel), List.mem_of_getElem? (i := 1054) (by decide +kernel)⟩
theorem lw_p51 : lw_okq (⟨"TableFirmsModel", "pipsOfAll", "(II)I"⟩, 34) := ⟨⟨by decide +kernel, by decide +kernel⟩, List.mem_of_getElem? (i := 767) (by decide +kernel), List.mem_of_getElem? (i := 1101) (by decide +kernel), List.mem_of_getElem? (i := 1102) (by decide +kernel)⟩
theorem lw_p52 : lw_okq (⟨"TableFirmsModel", "lead", "(II)I"⟩, 34) := ⟨⟨by decide +kernel, by decide +kernel⟩, List.mem_of_getElem? (i := 767) (by decide +kernel), List.mem_of_getElem? (i := 1105) (by decide +kernel), List.mem_of_getElem? (i := 1106) (by decide +kernel)⟩
theorem lw_p53 : lw_okq (⟨"TableFirmsModel", "best0", "(III)I"⟩, 34) := ⟨⟨by decide +kernel, by decide +kernel⟩, List.mem_of_getElem? (i := 767) (by decide +kernel), List.mem_of_getElem? (i := 1113) (by decide +kernel), List.mem_of_getElem? (i := 1114) (by decide +kernel)⟩
theorem lw_p54 : lw_okq (⟨"TableFirmsModel", "deeper", "(I)V"⟩, 34) := ⟨⟨by decide +kernel, by decide +kernel⟩, List.mem_of_getElem? (i := 767) (by decide +kernel), List.mem_of_getElem? (i := 1117) (by decide +kernel), List.mem_of_getElem? (i := 1118) (by decide +kernel)⟩
theorem lw_p55 : lw_okq (⟨"TableFirmsModel", "best1", "(III)I"⟩, 34) := ⟨⟨by decide +kernel, by decide +kernel⟩, List.mem_of_getElem? (i := 767) (by decide +kernel), List.mem_of_getElem? (i := 1121) (by decide +kernel), List.mem_of_getElem? (i := 1122) (by decide +kernel)⟩
theorem lw_p56 : lw_okq (⟨"TableFirmsModel", "all0", "(II)I"⟩, 34) := ⟨⟨by decide +kernel, by decide +kernel⟩, List.mem_of_getElem? (i := 767) (by decide +kernel), List.mem_of_getElem? (i := 1125) (by decide +kernel), List.mem_of_getElem? (i := 1126) (by decide +kernel)⟩
theorem lw_p57 : lw_okq (⟨"TableFirmsModel", "best2", "(II)I"⟩, 34) := ⟨⟨by decide +kernel, by decide +kernel⟩, List.mem_of_getElem? (i := 767) (by decide +kernel), List.mem_of_getElem? (i := 1129) (by decide +kernel), List.mem_of_getElem? (i := 1130) (by decide +kernel)⟩
theorem lw_p58 : lw_okq (⟨"TableFirmsModel", "all1", "(II)I"⟩, 34) := ⟨⟨by decide +kernel, by decide +kernel⟩, List.mem_of_getElem? (i := 767) (by decide +kernel), List.mem_of_getElem? (i := 1133) (by decide +kernel), List.mem_of_getElem? (i := 1134) (by decide +kernel)⟩
theorem lw_p59 : lw_okq (⟨"TableFirmsModel", "hasMen", "(I)Z"⟩, 34) := ⟨⟨by decide +kernel, by decide +kernel⟩, List.mem_of_getElem? (i := 767) (by decide +kernel), List.mem_of_getElem? (i := 1141) (by decide +kernel), List.mem_of_getElem? (i := 1142) (by decide +kernel)⟩
theorem lw_p60 : lw_okq (⟨"TableFirmsModel", "alone", "(I)V"⟩, 34) := ⟨⟨by decide +kernel, by decide +kernel⟩, List.mem_of_getElem? (i := 767) (by decide +kernel), List.mem_of_getElem? (i := 1145) (by decide +kernel), List.mem_of_getElem? (i := 1146) (by decide +kernel)⟩
theorem lw_p61 : lw_okq (⟨"TableFirmsModel", "isDone", "(II)Z"⟩, 34) := ⟨⟨by decide +kernel, by decide +kernel⟩, List.mem_of_getElem? (i := 767) (by decide +kernel), List.mem_of_getElem? (i := 1149) (by decide +kernel), List.mem_of_getElem? (i := 1150) (by decide +kernel)⟩
theorem lw_p62 : lw_okq (⟨"TableFirmsModel", "goAlone", "(III)V"⟩, 34) := ⟨⟨by decide +kernel, by decide +kernel⟩, List.mem_of_getElem? (i := 767) (by decide +kernel), List.mem_of_getElem? (i := 1153) (by decide +kernel), List.mem_of_getElem? (i := 1154) (by decide +kernel)⟩
theorem lw_p63 : lw_okq (⟨"TableFirmsModel", "lacks", "(II)I"⟩, 34) := ⟨⟨by decide +kernel, by decide +kernel⟩, List.mem_of_getElem? (i := 767) (by decide +kernel), List.mem_of_getElem? (i := 1165) (by decide +kernel), List.mem_of_getElem? (i := 1166) (by decide +kernel)⟩
def lw_privs_4 : List (MethodName × Nat) := [(⟨"TableFirmsModel", "goTurn", "(I)V"⟩, 34), (⟨"TableFirmsModel", "take", "()V"⟩, 34), (⟨"TableFirmsModel", "isMan", "(I)Z"⟩, 34), (⟨"TableFirmsModel", "pipsOfAll", "(II)I"⟩, 34), (⟨"TableFirmsModel", "lead", "(II)I"⟩, 34), (⟨"TableFirmsModel", "best0", "(III)I"⟩, 34), (⟨"TableFirmsModel", "deeper", "(I)V"⟩, 34), (⟨"TableFirmsModel", "best1", "(III)I"⟩, 34), (⟨"TableFirmsModel", "all0", "(II)I"⟩, 34), (⟨"TableFirmsModel", "best2", "(II)I"⟩, 34), (⟨"TableFirmsModel", "all1", "(II)I"⟩, 34), (⟨"TableFirmsModel", "hasMen", "(I)Z"⟩, 34), (⟨"TableFirmsModel", "alone", "(I)V"⟩, 34), (⟨"TableFirmsModel", "isDone", "(II)Z"⟩, 34), (⟨"TableFirmsModel", "goAlone", "(III)V"⟩, 34), (⟨"TableFirmsModel", "lacks", "(II)I"⟩, 34)]
theorem lw_r4 : ∀ q ∈ lw_privs_4, lw_okq q := List.forall_mem_cons.mpr ⟨lw_p48, List.forall_mem_cons.mpr ⟨lw_p49, List.forall_mem_cons.mpr ⟨lw_p50, List.forall_mem_cons.mpr ⟨lw_p51, List.forall_mem_cons.mpr ⟨lw_p52, List.forall_mem_cons.mpr ⟨lw_p53, List.forall_mem_cons.mpr ⟨lw_p54, List.forall_mem_cons.mpr ⟨lw_p55, List.forall_mem_cons.mpr ⟨lw_p56, List.forall_mem_cons.mpr ⟨lw_p57, List.forall_mem_cons.mpr ⟨lw_p58, List.forall_mem_cons.mpr ⟨lw_p59, List.forall_mem_cons.mpr ⟨lw_p60, List.forall_mem_cons.mpr ⟨lw_p61, List.forall_mem_cons.mpr ⟨lw_p62, List.forall_mem_cons.mpr ⟨lw_p63, fun _ h => absurd h List.not_mem_nil⟩⟩⟩⟩⟩⟩⟩⟩⟩⟩⟩⟩⟩⟩⟩⟩
theorem lw_p64 : lw_okq (⟨"TableFirmsModel", "isAs", "(III)Z"⟩, 34) := ⟨⟨by decide +kernel, by decide +kernel⟩, List.mem_of_getElem? (i := 767) (by decide +kernel), List.mem_of_getElem? (i := 1169) (by decide +kernel), List.mem_of_getElem? (i := 1170) (by decide +kernel)⟩
theorem lw_p65 : lw_okq (⟨"TableFirmsModel", "size", "(I)I"⟩, 34) := ⟨⟨by decide +kernel, by decide +kernel⟩, List.mem_of_getElem? (i := 767) (by decide +kernel), List.mem_of_getElem? (i := 1219) (by decide +kernel), List.mem_of_getElem? (i := 1220) (by decide +kernel)⟩
theorem lw_p66 : lw_okq (⟨"TableFirmsModel", "partnerSize", "(I)I"⟩, 34) := ⟨⟨by decide +kernel, by decide +kernel⟩, List.mem_of_getElem? (i := 767) (by decide +kernel), List.mem_of_getElem? (i := 1223) (by decide +kernel), List.mem_of_getElem? (i := 1224) (by decide +kernel)⟩
theorem lw_p67 : lw_okq (⟨"TableFirmsModel", "leaves", "(I)V"⟩, 34) := ⟨⟨by decide +kernel, by decide +kernel⟩, List.mem_of_getElem? (i := 767) (by decide +kernel), List.mem_of_getElem? (i := 1227) (by decide +kernel), List.mem_of_getElem? (i := 1228) (by decide +kernel)⟩
theorem lw_p68 : lw_okq (⟨"TableFirmsModel", "body13", "(I)I"⟩, 34) := ⟨⟨by decide +kernel, by decide +kernel⟩, List.mem_of_getElem? (i := 767) (by decide +kernel), List.mem_of_getElem? (i := 1231) (by decide +kernel), List.mem_of_getElem? (i := 1232) (by decide +kernel)⟩
theorem lw_p69 : lw_okq (⟨"TableFirmsModel", "body10", "(I)I"⟩, 34) := ⟨⟨by decide +kernel, by decide +kernel⟩, List.mem_of_getElem? (i := 767) (by decide +kernel), List.mem_of_getElem? (i := 1235) (by decide +kernel), List.mem_of_getElem? (i := 1236) (by decide +kernel)⟩
theorem lw_p70 : lw_okq (⟨"TableFirmsModel", "body11", "(I)I"⟩, 34) := ⟨⟨by decide +kernel, by decide +kernel⟩, List.mem_of_getElem? (i := 767) (by decide +kernel), List.mem_of_getElem? (i := 1239) (by decide +kernel), List.mem_of_getElem? (i := 1240) (by decide +kernel)⟩
theorem lw_p71 : lw_okq (⟨"TableFirmsModel", "clerkMark", "(I)I"⟩, 34) := ⟨⟨by decide +kernel, by decide +kernel⟩, List.mem_of_getElem? (i := 767) (by decide +kernel), List.mem_of_getElem? (i := 1243) (by decide +kernel), List.mem_of_getElem? (i := 1244) (by decide +kernel)⟩
theorem lw_p72 : lw_okq (⟨"TableFirmsModel", "body21", "(I)I"⟩, 34) := ⟨⟨by decide +kernel, by decide +kernel⟩, List.mem_of_getElem? (i := 767) (by decide +kernel), List.mem_of_getElem? (i := 1247) (by decide +kernel), List.mem_of_getElem? (i := 1248) (by decide +kernel)⟩
theorem lw_p73 : lw_okq (⟨"TableFirmsModel", "body20", "(I)I"⟩, 34) := ⟨⟨by decide +kernel, by decide +kernel⟩, List.mem_of_getElem? (i := 767) (by decide +kernel), List.mem_of_getElem? (i := 1251) (by decide +kernel), List.mem_of_getElem? (i := 1252) (by decide +kernel)⟩
theorem lw_p74 : lw_okq (⟨"TableFirmsModel", "mark", "(I)I"⟩, 34) := ⟨⟨by decide +kernel, by decide +kernel⟩, List.mem_of_getElem? (i := 767) (by decide +kernel), List.mem_of_getElem? (i := 1255) (by decide +kernel), List.mem_of_getElem? (i := 1256) (by decide +kernel)⟩
theorem lw_p75 : lw_okq (⟨"TableFirmsModel", "manyNow", "(I)I"⟩, 34) := ⟨⟨by decide +kernel, by decide +kernel⟩, List.mem_of_getElem? (i := 767) (by decide +kernel), List.mem_of_getElem? (i := 1267) (by decide +kernel), List.mem_of_getElem? (i := 1268) (by decide +kernel)⟩
def lw_privs_5 : List (MethodName × Nat) := [(⟨"TableFirmsModel", "isAs", "(III)Z"⟩, 34), (⟨"TableFirmsModel", "size", "(I)I"⟩, 34), (⟨"TableFirmsModel", "partnerSize", "(I)I"⟩, 34), (⟨"TableFirmsModel", "leaves", "(I)V"⟩, 34), (⟨"TableFirmsModel", "body13", "(I)I"⟩, 34), (⟨"TableFirmsModel", "body10", "(I)I"⟩, 34), (⟨"TableFirmsModel", "body11", "(I)I"⟩, 34), (⟨"TableFirmsModel", "clerkMark", "(I)I"⟩, 34), (⟨"TableFirmsModel", "body21", "(I)I"⟩, 34), (⟨"TableFirmsModel", "body20", "(I)I"⟩, 34), (⟨"TableFirmsModel", "mark", "(I)I"⟩, 34), (⟨"TableFirmsModel", "manyNow", "(I)I"⟩, 34)]
theorem lw_r5 : ∀ q ∈ lw_privs_5, lw_okq q := List.forall_mem_cons.mpr ⟨lw_p64, List.forall_mem_cons.mpr ⟨lw_p65, List.forall_mem_cons.mpr ⟨lw_p66, List.forall_mem_cons.mpr ⟨lw_p67, List.forall_mem_cons.mpr ⟨lw_p68, List.forall_mem_cons.mpr ⟨lw_p69, List.forall_mem_cons.mpr ⟨lw_p70, List.forall_mem_cons.mpr ⟨lw_p71, List.forall_mem_cons.mpr ⟨lw_p72, List.forall_mem_cons.mpr ⟨lw_p73, List.forall_mem_cons.mpr ⟨lw_p74, List.forall_mem_cons.mpr ⟨lw_p75, fun _ h => absurd h List.not_mem_nil⟩⟩⟩⟩⟩⟩⟩⟩⟩⟩⟩⟩
def lw_privs : List (MethodName × Nat) := lw_privs_1 ++ (lw_privs_2 ++ (lw_privs_3 ++ (lw_privs_4 ++ (lw_privs_5))))
def lw_tbl : List Cond := k2_sels lw_privs ++ tables_1
theorem lw_privs_ok : ∀ q ∈ lw_privs, lw_okq q := by
  show ∀ q ∈ lw_privs_1 ++ (lw_privs_2 ++ (lw_privs_3 ++ (lw_privs_4 ++ (lw_privs_5)))), lw_okq q
  exact List.forall_mem_append.mpr ⟨lw_r1, List.forall_mem_append.mpr ⟨lw_r2, List.forall_mem_append.mpr ⟨lw_r3, List.forall_mem_append.mpr ⟨lw_r4, lw_r5⟩⟩⟩⟩
def RX0 : String := "TableFirms$Acts"
def TX0 : u_T := fun k => match k with
  | 0 => ("TableFirms$Acts", "before", "[I", true)
  | 1 => ("TableFirms$Acts", "next", "I", false)
  | _ => ("TableFirms$Acts", "kept", "I", false)
def tyX0 : Nat → FieldType := fun k => match k with
  | 0 => .array .int
  | 1 => .int
  | _ => .int
abbrev wsX00 : List Cond := u_ws RX0 TX0 3
theorem nmX0 : ∀ a, a < 3 → ∀ b, b < 3 → a ≠ b → (TX0 a).2.1 ≠ (TX0 b).2.1 := by decide +kernel
theorem tyX0_ok : ∀ k, k < 3 → parseFieldDescriptor (TX0 k).2.2.1 = some (tyX0 k) := by decide +kernel
abbrev cX0_init : ByteArray := prog_2_method_1_code
def yX0_init : MethodName := ⟨RX0, "<init>", "()V"⟩
abbrev cX0_forget : ByteArray := prog_2_method_2_code
def yX0_forget : MethodName := ⟨RX0, "forget", "()V"⟩
abbrev cX0_keep : ByteArray := prog_2_method_3_code
def yX0_keep : MethodName := ⟨RX0, "keep", "(LTableFirms$Board;)V"⟩
abbrev cX0_takeBack : ByteArray := prog_2_method_4_code
def yX0_takeBack : MethodName := ⟨RX0, "takeBack", "(LTableFirms$Board;)V"⟩
def RX1 : String := "TableFirms$Asks"
def TX1 : u_T := fun k => match k with
  | 0 => ("TableFirms$Asks", "numbers", "[I", true)
  | _ => ("TableFirms$Asks", "left", "I", false)
def tyX1 : Nat → FieldType := fun k => match k with
  | 0 => .array .int
  | _ => .int
abbrev wsX10 : List Cond := u_ws RX1 TX1 2
theorem nmX1 : ∀ a, a < 2 → ∀ b, b < 2 → a ≠ b → (TX1 a).2.1 ≠ (TX1 b).2.1 := by decide +kernel
theorem tyX1_ok : ∀ k, k < 2 → parseFieldDescriptor (TX1 k).2.2.1 = some (tyX1 k) := by decide +kernel
abbrev cX1_init : ByteArray := prog_3_method_1_code
def yX1_init : MethodName := ⟨RX1, "<init>", "()V"⟩
abbrev cX1_answerOf : ByteArray := prog_3_method_2_code
def yX1_answerOf : MethodName := ⟨RX1, "answerOf", "(LTableFirms$Board;II)I"⟩
abbrev cX1_anew : ByteArray := prog_3_method_3_code
def yX1_anew : MethodName := ⟨RX1, "anew", "(LTableFirms$Asks;LTableFirms$Board;III)I"⟩
abbrev cX1_bodyTold : ByteArray := prog_3_method_4_code
def yX1_bodyTold : MethodName := ⟨RX1, "bodyTold", "(II)I"⟩
abbrev cX1_begun : ByteArray := prog_3_method_5_code
def yX1_begun : MethodName := ⟨RX1, "begun", "(LTableFirms$Asks;LTableFirms$Board;III)I"⟩
abbrev cX1_leave : ByteArray := prog_3_method_6_code
def yX1_leave : MethodName := ⟨RX1, "leave", "(I)V"⟩
def RX2 : String := "TableFirms$Board"
def TX2 : u_T := fun k => match k with
  | 0 => ("TableFirms$Board", "points", "I", false)
  | 1 => ("TableFirms$Board", "home", "I", false)
  | 2 => ("TableFirms$Board", "men", "I", false)
  | 3 => ("TableFirms$Board", "turn", "I", false)
  | 4 => ("TableFirms$Board", "thrower", "I", false)
  | 5 => ("TableFirms$Board", "cube", "I", false)
  | 6 => ("TableFirms$Board", "owner", "I", false)
  | 7 => ("TableFirms$Board", "firms", "[I", true)
  | 8 => ("TableFirms$Board", "kindsTold", "[I", true)
  | 9 => ("TableFirms$Board", "places", "[I", true)
  | 10 => ("TableFirms$Board", "crowds", "[I", true)
  | 11 => ("TableFirms$Board", "pipsLeft", "[I", true)
  | _ => ("TableFirms$Board", "notHome", "[I", true)
def tyX2 : Nat → FieldType := fun k => match k with
  | 0 => .int
  | 1 => .int
  | 2 => .int
  | 3 => .int
  | 4 => .int
  | 5 => .int
  | 6 => .int
  | 7 => .array .int
  | 8 => .array .int
  | 9 => .array .int
  | 10 => .array .int
  | 11 => .array .int
  | _ => .array .int
abbrev wsX20 : List Cond := u_ws RX2 TX2 13
theorem nmX2 : ∀ a, a < 13 → ∀ b, b < 13 → a ≠ b → (TX2 a).2.1 ≠ (TX2 b).2.1 := by decide +kernel
theorem tyX2_ok : ∀ k, k < 13 → parseFieldDescriptor (TX2 k).2.2.1 = some (tyX2 k) := by decide +kernel
abbrev cX2_init : ByteArray := prog_4_method_1_code
def yX2_init : MethodName := ⟨RX2, "<init>", "()V"⟩
abbrev cX2_begin : ByteArray := prog_4_method_2_code
def yX2_begin : MethodName := ⟨RX2, "begin", "(II)V"⟩
abbrev cX2_join : ByteArray := prog_4_method_3_code
def yX2_join : MethodName := ⟨RX2, "join", "(III)V"⟩
abbrev cX2_copyFrom : ByteArray := prog_4_method_4_code
def yX2_copyFrom : MethodName := ⟨RX2, "copyFrom", "(LTableFirms$Board;)V"⟩
abbrev cX2_bar : ByteArray := prog_4_method_5_code
def yX2_bar : MethodName := ⟨RX2, "bar", "()I"⟩
abbrev cX2_off : ByteArray := prog_4_method_6_code
def yX2_off : MethodName := ⟨RX2, "off", "()I"⟩
abbrev cX2_crowd : ByteArray := prog_4_method_7_code
def yX2_crowd : MethodName := ⟨RX2, "crowd", "(II)I"⟩
abbrev cX2_put : ByteArray := prog_4_method_8_code
def yX2_put : MethodName := ⟨RX2, "put", "(II)V"⟩
abbrev cX2_tally : ByteArray := prog_4_method_9_code
def yX2_tally : MethodName := ⟨RX2, "tally", "(II)V"⟩
abbrev cX2_pipsOf : ByteArray := prog_4_method_10_code
def yX2_pipsOf : MethodName := ⟨RX2, "pipsOf", "(I)I"⟩
abbrev cX2_lead : ByteArray := prog_4_method_11_code
def yX2_lead : MethodName := ⟨RX2, "lead", "(I)I"⟩
abbrev cX2_hasMen : ByteArray := prog_4_method_12_code
def yX2_hasMen : MethodName := ⟨RX2, "hasMen", "(I)Z"⟩
abbrev cX2_hasWon : ByteArray := prog_4_method_13_code
def yX2_hasWon : MethodName := ⟨RX2, "hasWon", "(I)Z"⟩
abbrev cX2_winner : ByteArray := prog_4_method_14_code
def yX2_winner : MethodName := ⟨RX2, "winner", "()I"⟩
abbrev cX2_menAt : ByteArray := prog_4_method_15_code
def yX2_menAt : MethodName := ⟨RX2, "menAt", "(II)I"⟩
abbrev cX2_menInCompany : ByteArray := prog_4_method_16_code
def yX2_menInCompany : MethodName := ⟨RX2, "menInCompany", "(I)I"⟩
abbrev cX2_placeTold : ByteArray := prog_4_method_17_code
def yX2_placeTold : MethodName := ⟨RX2, "placeTold", "(I)I"⟩
abbrev cX2_stride : ByteArray := prog_4_method_18_code
def yX2_stride : MethodName := ⟨RX2, "stride", "(II)I"⟩
abbrev cX2_aim : ByteArray := prog_4_method_19_code
def yX2_aim : MethodName := ⟨RX2, "aim", "(II)I"⟩
abbrev cX2_canGo : ByteArray := prog_4_method_20_code
def yX2_canGo : MethodName := ⟨RX2, "canGo", "(II)Z"⟩
abbrev cX2_dares : ByteArray := prog_4_method_21_code
def yX2_dares : MethodName := ⟨RX2, "dares", "(II)Z"⟩
abbrev cX2_go : ByteArray := prog_4_method_22_code
def yX2_go : MethodName := ⟨RX2, "go", "(II)I"⟩
abbrev cX2_loneOn : ByteArray := prog_4_method_23_code
def yX2_loneOn : MethodName := ⟨RX2, "loneOn", "(II)I"⟩
abbrev cX2_chosenByRule : ByteArray := prog_4_method_24_code
def yX2_chosenByRule : MethodName := ⟨RX2, "chosenByRule", "(II)I"⟩
abbrev cX2_turnByRule : ByteArray := prog_4_method_25_code
def yX2_turnByRule : MethodName := ⟨RX2, "turnByRule", "(I)I"⟩
abbrev cX2_passThrow : ByteArray := prog_4_method_26_code
def yX2_passThrow : MethodName := ⟨RX2, "passThrow", "()V"⟩
abbrev cX2_menWhoCan : ByteArray := prog_4_method_27_code
def yX2_menWhoCan : MethodName := ⟨RX2, "menWhoCan", "(II)I"⟩
abbrev cX2_throwsThatHit : ByteArray := prog_4_method_28_code
def yX2_throwsThatHit : MethodName := ⟨RX2, "throwsThatHit", "(I)I"⟩
abbrev cX2_hits : ByteArray := prog_4_method_29_code
def yX2_hits : MethodName := ⟨RX2, "hits", "(III)Z"⟩
abbrev cX2_throwsThatEnter : ByteArray := prog_4_method_30_code
def yX2_throwsThatEnter : MethodName := ⟨RX2, "throwsThatEnter", "(I)I"⟩
def RX3 : String := "TableFirms$Foresight"
def TX3 : u_T := fun k => match k with
  | 0 => ("TableFirms$Foresight", "spare", "LTableFirms$Board;", true)
  | 1 => ("TableFirms$Foresight", "told", "[I", true)
  | _ => ("TableFirms$Foresight", "bestMan", "I", false)
def tyX3 : Nat → FieldType := fun k => match k with
  | 0 => .object "TableFirms$Board"
  | 1 => .array .int
  | _ => .int
abbrev wsX30 : List Cond := u_ws RX3 TX3 3
theorem nmX3 : ∀ a, a < 3 → ∀ b, b < 3 → a ≠ b → (TX3 a).2.1 ≠ (TX3 b).2.1 := by decide +kernel
theorem tyX3_ok : ∀ k, k < 3 → parseFieldDescriptor (TX3 k).2.2.1 = some (tyX3 k) := by decide +kernel
abbrev cX3_init : ByteArray := prog_5_method_1_code
def yX3_init : MethodName := ⟨RX3, "<init>", "()V"⟩
abbrev cX3_startFrom : ByteArray := prog_5_method_2_code
def yX3_startFrom : MethodName := ⟨RX3, "startFrom", "(LTableFirms$Board;)V"⟩
abbrev cX3_greatestWorth : ByteArray := prog_5_method_3_code
def yX3_greatestWorth : MethodName := ⟨RX3, "greatestWorth", "(III)I"⟩
abbrev cX3_worthBehind : ByteArray := prog_5_method_4_code
def yX3_worthBehind : MethodName := ⟨RX3, "worthBehind", "(III)I"⟩
abbrev cX3_worthTo : ByteArray := prog_5_method_5_code
def yX3_worthTo : MethodName := ⟨RX3, "worthTo", "(II)I"⟩
abbrev cX3_turnsAlone : ByteArray := prog_5_method_6_code
def yX3_turnsAlone : MethodName := ⟨RX3, "turnsAlone", "(LTableFirms$Board;I)I"⟩
abbrev cX3_waysToWin : ByteArray := prog_5_method_7_code
def yX3_waysToWin : MethodName := ⟨RX3, "waysToWin", "(LTableFirms$Board;II)J"⟩
abbrev cX3_winsWithin : ByteArray := prog_5_method_8_code
def yX3_winsWithin : MethodName := ⟨RX3, "winsWithin", "(LTableFirms$Board;II)J"⟩
abbrev cX3_leaveAlone : ByteArray := prog_5_method_9_code
def yX3_leaveAlone : MethodName := ⟨RX3, "leaveAlone", "(LTableFirms$Board;I)V"⟩
abbrev cX3_throwsSo : ByteArray := prog_5_method_10_code
def yX3_throwsSo : MethodName := ⟨RX3, "throwsSo", "(LTableFirms$Board;)I"⟩
abbrev cX3_menSo : ByteArray := prog_5_method_11_code
def yX3_menSo : MethodName := ⟨RX3, "menSo", "(LTableFirms$Board;I)I"⟩
abbrev cX3_kindsSo : ByteArray := prog_5_method_12_code
def yX3_kindsSo : MethodName := ⟨RX3, "kindsSo", "(LTableFirms$Board;II)I"⟩
abbrev cX3_isAsTold : ByteArray := prog_5_method_13_code
def yX3_isAsTold : MethodName := ⟨RX3, "isAsTold", "()Z"⟩
abbrev cX3_endOfGame : ByteArray := prog_5_method_14_code
def yX3_endOfGame : MethodName := ⟨RX3, "endOfGame", "(LTableFirms$Board;II)LTableFirms$Board;"⟩
def RX4 : String := "TableFirms$Reader"
def TX4 : u_T := fun k => match k with
  | 0 => ("TableFirms$Reader", "bytes", "[I", true)
  | 1 => ("TableFirms$Reader", "length", "I", true)
  | 2 => ("TableFirms$Reader", "board", "LTableFirms$Board;", true)
  | 3 => ("TableFirms$Reader", "at", "I", false)
  | 4 => ("TableFirms$Reader", "faultNumber", "I", false)
  | _ => ("TableFirms$Reader", "faultPlace", "I", false)
def tyX4 : Nat → FieldType := fun k => match k with
  | 0 => .array .int
  | 1 => .int
  | 2 => .object "TableFirms$Board"
  | 3 => .int
  | 4 => .int
  | _ => .int
abbrev wsX40 : List Cond := u_ws RX4 TX4 6
theorem nmX4 : ∀ a, a < 6 → ∀ b, b < 6 → a ≠ b → (TX4 a).2.1 ≠ (TX4 b).2.1 := by decide +kernel
theorem tyX4_ok : ∀ k, k < 6 → parseFieldDescriptor (TX4 k).2.2.1 = some (tyX4 k) := by decide +kernel
abbrev cX4_init : ByteArray := prog_6_method_1_code
def yX4_init : MethodName := ⟨RX4, "<init>", "(LTableFirms$Tape;LTableFirms$Board;)V"⟩
abbrev cX4_readAll : ByteArray := prog_6_method_2_code
def yX4_readAll : MethodName := ⟨RX4, "readAll", "()Z"⟩
abbrev cX4_readLaw : ByteArray := prog_6_method_3_code
def yX4_readLaw : MethodName := ⟨RX4, "readLaw", "()Z"⟩
abbrev cX4_readMan : ByteArray := prog_6_method_4_code
def yX4_readMan : MethodName := ⟨RX4, "readMan", "()Z"⟩
abbrev cX4_kindHere : ByteArray := prog_6_method_5_code
def yX4_kindHere : MethodName := ⟨RX4, "kindHere", "()I"⟩
abbrev cX4_readSign : ByteArray := prog_6_method_6_code
def yX4_readSign : MethodName := ⟨RX4, "readSign", "(I)Z"⟩
abbrev cX4_readNumber : ByteArray := prog_6_method_7_code
def yX4_readNumber : MethodName := ⟨RX4, "readNumber", "(II)I"⟩
abbrev cX4_isFigure : ByteArray := prog_6_method_8_code
def yX4_isFigure : MethodName := ⟨RX4, "isFigure", "(I)Z"⟩
abbrev cX4_fail : ByteArray := prog_6_method_9_code
def yX4_fail : MethodName := ⟨RX4, "fail", "(I)Z"⟩
def RX5 : String := "TableFirms$Rows"
def TX5 : u_T := fun k => match k with
  | 0 => ("TableFirms$Rows", "lanes", "[I", true)
  | 1 => ("TableFirms$Rows", "sizes", "[I", true)
  | _ => ("TableFirms$Rows", "items", "[I", true)
def tyX5 : Nat → FieldType := fun k => match k with
  | 0 => .array .int
  | 1 => .array .int
  | _ => .array .int
abbrev wsX50 : List Cond := u_ws RX5 TX5 3
theorem nmX5 : ∀ a, a < 3 → ∀ b, b < 3 → a ≠ b → (TX5 a).2.1 ≠ (TX5 b).2.1 := by decide +kernel
theorem tyX5_ok : ∀ k, k < 3 → parseFieldDescriptor (TX5 k).2.2.1 = some (tyX5 k) := by decide +kernel
abbrev cX5_init : ByteArray := prog_7_method_1_code
def yX5_init : MethodName := ⟨RX5, "<init>", "()V"⟩
abbrev cX5_isMissing : ByteArray := prog_7_method_2_code
def yX5_isMissing : MethodName := ⟨RX5, "isMissing", "(I)Z"⟩
abbrev cX5_present : ByteArray := prog_7_method_3_code
def yX5_present : MethodName := ⟨RX5, "present", "()I"⟩
abbrev cX5_make : ByteArray := prog_7_method_4_code
def yX5_make : MethodName := ⟨RX5, "make", "(III)V"⟩
abbrev cX5_remove : ByteArray := prog_7_method_5_code
def yX5_remove : MethodName := ⟨RX5, "remove", "(I)I"⟩
abbrev cX5_findingFrom : ByteArray := prog_7_method_6_code
def yX5_findingFrom : MethodName := ⟨RX5, "findingFrom", "(III)I"⟩
abbrev cX5_copyFinding : ByteArray := prog_7_method_7_code
def yX5_copyFinding : MethodName := ⟨RX5, "copyFinding", "(IIIII)I"⟩
abbrev cX5_hasItems : ByteArray := prog_7_method_8_code
def yX5_hasItems : MethodName := ⟨RX5, "hasItems", "(III)Z"⟩
abbrev cX5_write : ByteArray := prog_7_method_9_code
def yX5_write : MethodName := ⟨RX5, "write", "(III)I"⟩
abbrev cX5_carry : ByteArray := prog_7_method_10_code
def yX5_carry : MethodName := ⟨RX5, "carry", "(IIIII)V"⟩
abbrev cX5_read : ByteArray := prog_7_method_11_code
def yX5_read : MethodName := ⟨RX5, "read", "(III[I)V"⟩
def RX6 : String := "TableFirms$Tape"
def TX6 : u_T := fun k => match k with
  | 0 => ("TableFirms$Tape", "bytes", "[I", true)
  | _ => ("TableFirms$Tape", "length", "I", false)
def tyX6 : Nat → FieldType := fun k => match k with
  | 0 => .array .int
  | _ => .int
abbrev wsX60 : List Cond := u_ws RX6 TX6 2
theorem nmX6 : ∀ a, a < 2 → ∀ b, b < 2 → a ≠ b → (TX6 a).2.1 ≠ (TX6 b).2.1 := by decide +kernel
theorem tyX6_ok : ∀ k, k < 2 → parseFieldDescriptor (TX6 k).2.2.1 = some (tyX6 k) := by decide +kernel
abbrev cX6_init : ByteArray := prog_8_method_1_code
def yX6_init : MethodName := ⟨RX6, "<init>", "()V"⟩
abbrev cX6_append : ByteArray := prog_8_method_2_code
def yX6_append : MethodName := ⟨RX6, "append", "(I)I"⟩
abbrev cX6_clear : ByteArray := prog_8_method_3_code
def yX6_clear : MethodName := ⟨RX6, "clear", "()V"⟩
def RX7 : String := "TableFirms"
def TX7 : u_T := fun k => match k with
  | 0 => ("TableFirms", "rows", "LTableFirms$Rows;", true)
  | 1 => ("TableFirms", "tape", "LTableFirms$Tape;", true)
  | 2 => ("TableFirms", "live", "LTableFirms$Board;", true)
  | 3 => ("TableFirms", "draft", "LTableFirms$Board;", true)
  | 4 => ("TableFirms", "images", "[LTableFirms$Board;", true)
  | 5 => ("TableFirms", "acts", "LTableFirms$Acts;", true)
  | 6 => ("TableFirms", "foresight", "LTableFirms$Foresight;", true)
  | 7 => ("TableFirms", "asks", "LTableFirms$Asks;", true)
  | 8 => ("TableFirms", "latestFault", "I", false)
  | _ => ("TableFirms", "latestFinding", "I", false)
def tyX7 : Nat → FieldType := fun k => match k with
  | 0 => .object "TableFirms$Rows"
  | 1 => .object "TableFirms$Tape"
  | 2 => .object "TableFirms$Board"
  | 3 => .object "TableFirms$Board"
  | 4 => .array (.object "TableFirms$Board")
  | 5 => .object "TableFirms$Acts"
  | 6 => .object "TableFirms$Foresight"
  | 7 => .object "TableFirms$Asks"
  | 8 => .int
  | _ => .int
abbrev wsX70 : List Cond := u_ws RX7 TX7 10
theorem nmX7 : ∀ a, a < 10 → ∀ b, b < 10 → a ≠ b → (TX7 a).2.1 ≠ (TX7 b).2.1 := by decide +kernel
theorem tyX7_ok : ∀ k, k < 10 → parseFieldDescriptor (TX7 k).2.2.1 = some (tyX7 k) := by decide +kernel
abbrev cX7_init : ByteArray := prog_1_method_1_code
def yX7_init : MethodName := ⟨RX7, "<init>", "()V"⟩
abbrev cX7_row : ByteArray := prog_1_method_2_code
def yX7_row : MethodName := ⟨RX7, "row", "(III)I"⟩
abbrev cX7_set : ByteArray := prog_1_method_3_code
def yX7_set : MethodName := ⟨RX7, "set", "(III)I"⟩
abbrev cX7_copy : ByteArray := prog_1_method_4_code
def yX7_copy : MethodName := ⟨RX7, "copy", "(IIIII)I"⟩
abbrev cX7_drop : ByteArray := prog_1_method_5_code
def yX7_drop : MethodName := ⟨RX7, "drop", "(I)I"⟩
abbrev cX7_feed : ByteArray := prog_1_method_6_code
def yX7_feed : MethodName := ⟨RX7, "feed", "(I)I"⟩
abbrev cX7_table : ByteArray := prog_1_method_7_code
def yX7_table : MethodName := ⟨RX7, "table", "()I"⟩
abbrev cX7_fault : ByteArray := prog_1_method_8_code
def yX7_fault : MethodName := ⟨RX7, "fault", "()I"⟩
abbrev cX7_undo : ByteArray := prog_1_method_9_code
def yX7_undo : MethodName := ⟨RX7, "undo", "()I"⟩
abbrev cX7_play : ByteArray := prog_1_method_10_code
def yX7_play : MethodName := ⟨RX7, "play", "(I)I"⟩
abbrev cX7_move : ByteArray := prog_1_method_11_code
def yX7_move : MethodName := ⟨RX7, "move", "(II)I"⟩
abbrev cX7_twice : ByteArray := prog_1_method_12_code
def yX7_twice : MethodName := ⟨RX7, "twice", "()I"⟩
abbrev cX7_lay : ByteArray := prog_1_method_13_code
def yX7_lay : MethodName := ⟨RX7, "lay", "(II)I"⟩
abbrev cX7_man : ByteArray := prog_1_method_14_code
def yX7_man : MethodName := ⟨RX7, "man", "(II)I"⟩
abbrev cX7_on : ByteArray := prog_1_method_15_code
def yX7_on : MethodName := ⟨RX7, "on", "(II)I"⟩
abbrev cX7_stand : ByteArray := prog_1_method_16_code
def yX7_stand : MethodName := ⟨RX7, "stand", "(I)I"⟩
abbrev cX7_may : ByteArray := prog_1_method_17_code
def yX7_may : MethodName := ⟨RX7, "may", "(I)I"⟩
abbrev cX7_whither : ByteArray := prog_1_method_18_code
def yX7_whither : MethodName := ⟨RX7, "whither", "(II)I"⟩
abbrev cX7_shots : ByteArray := prog_1_method_19_code
def yX7_shots : MethodName := ⟨RX7, "shots", "(I)I"⟩
abbrev cX7_enter : ByteArray := prog_1_method_20_code
def yX7_enter : MethodName := ⟨RX7, "enter", "(I)I"⟩
abbrev cX7_pips : ByteArray := prog_1_method_21_code
def yX7_pips : MethodName := ⟨RX7, "pips", "(II)I"⟩
abbrev cX7_best : ByteArray := prog_1_method_22_code
def yX7_best : MethodName := ⟨RX7, "best", "(III)I"⟩
abbrev cX7_race : ByteArray := prog_1_method_23_code
def yX7_race : MethodName := ⟨RX7, "race", "(I)I"⟩
abbrev cX7_safe : ByteArray := prog_1_method_24_code
def yX7_safe : MethodName := ⟨RX7, "safe", "(I)I"⟩
abbrev cX7_cast : ByteArray := prog_1_method_25_code
def yX7_cast : MethodName := ⟨RX7, "cast", "(II)I"⟩
abbrev cX7_played : ByteArray := prog_1_method_26_code
def yX7_played : MethodName := ⟨RX7, "played", "(III)I"⟩
abbrev cX7_kinds : ByteArray := prog_1_method_27_code
def yX7_kinds : MethodName := ⟨RX7, "kinds", "(IIII)I"⟩
abbrev cX7_chance : ByteArray := prog_1_method_28_code
def yX7_chance : MethodName := ⟨RX7, "chance", "(III)J"⟩
abbrev cX7_drawn : ByteArray := prog_1_method_29_code
def yX7_drawn : MethodName := ⟨RX7, "drawn", "(III)I"⟩
abbrev cX7_image : ByteArray := prog_1_method_30_code
def yX7_image : MethodName := ⟨RX7, "image", "(I)I"⟩
abbrev cX7_restore : ByteArray := prog_1_method_31_code
def yX7_restore : MethodName := ⟨RX7, "restore", "(I)I"⟩
abbrev cX7_kind : ByteArray := prog_1_method_32_code
def yX7_kind : MethodName := ⟨RX7, "kind", "(I)I"⟩
abbrev cX7_as : ByteArray := prog_1_method_33_code
def yX7_as : MethodName := ⟨RX7, "as", "(II)I"⟩
abbrev cX7_ask : ByteArray := prog_1_method_34_code
def yX7_ask : MethodName := ⟨RX7, "ask", "(II)I"⟩
abbrev cX7_trace : ByteArray := prog_1_method_35_code
def yX7_trace : MethodName := ⟨RX7, "trace", "(I)I"⟩
abbrev cX7_count : ByteArray := prog_1_method_36_code
def yX7_count : MethodName := ⟨RX7, "count", "(I)I"⟩
abbrev cX7_status : ByteArray := prog_1_method_37_code
def yX7_status : MethodName := ⟨RX7, "status", "()I"⟩
abbrev cX7_within : ByteArray := prog_1_method_38_code
def yX7_within : MethodName := ⟨RX7, "within", "(III)Z"⟩
abbrev cX7_isRow : ByteArray := prog_1_method_39_code
def yX7_isRow : MethodName := ⟨RX7, "isRow", "(I)Z"⟩
abbrev cX7_isThrow : ByteArray := prog_1_method_40_code
def yX7_isThrow : MethodName := ⟨RX7, "isThrow", "(I)Z"⟩
abbrev cX7_isFirm : ByteArray := prog_1_method_41_code
def yX7_isFirm : MethodName := ⟨RX7, "isFirm", "(I)Z"⟩
abbrev cX7_isChoice : ByteArray := prog_1_method_42_code
def yX7_isChoice : MethodName := ⟨RX7, "isChoice", "(I)Z"⟩
abbrev cX7_isMan : ByteArray := prog_1_method_43_code
def yX7_isMan : MethodName := ⟨RX7, "isMan", "(I)Z"⟩
abbrev cX7_hasNoTable : ByteArray := prog_1_method_44_code
def yX7_hasNoTable : MethodName := ⟨RX7, "hasNoTable", "()Z"⟩
abbrev cX7_isOver : ByteArray := prog_1_method_45_code
def yX7_isOver : MethodName := ⟨RX7, "isOver", "()Z"⟩
abbrev cX7_found : ByteArray := prog_1_method_46_code
def yX7_found : MethodName := ⟨RX7, "found", "(I)I"⟩
abbrev cX7_unfound : ByteArray := prog_1_method_47_code
def yX7_unfound : MethodName := ⟨RX7, "unfound", "(I)I"⟩
abbrev cX7_isKind : ByteArray := prog_1_method_48_code
def yX7_isKind : MethodName := ⟨RX7, "isKind", "(II)Z"⟩
abbrev cX7_power : ByteArray := prog_1_method_49_code
def yX7_power : MethodName := ⟨RX7, "power", "(JI)J"⟩
abbrev cX7_commonDivisor : ByteArray := prog_1_method_50_code
def yX7_commonDivisor : MethodName := ⟨RX7, "commonDivisor", "(JJ)J"⟩
def RX8 : String := "TableFirmsModel"
def TX8 : u_T := fun k => match k with
  | 0 => ("TableFirmsModel", "items", "[I", true)
  | 1 => ("TableFirmsModel", "lanes", "[I", true)
  | 2 => ("TableFirmsModel", "sizes", "[I", true)
  | 3 => ("TableFirmsModel", "status", "I", false)
  | 4 => ("TableFirmsModel", "points", "I", false)
  | 5 => ("TableFirmsModel", "home", "I", false)
  | 6 => ("TableFirmsModel", "men", "I", false)
  | 7 => ("TableFirmsModel", "hasTable", "Z", false)
  | 8 => ("TableFirmsModel", "firms", "[I", true)
  | 9 => ("TableFirmsModel", "kinds", "[I", true)
  | 10 => ("TableFirmsModel", "now", "[I", true)
  | 11 => ("TableFirmsModel", "before", "[I", true)
  | 12 => ("TableFirmsModel", "acts", "I", false)
  | 13 => ("TableFirmsModel", "images", "[I", true)
  | 14 => ("TableFirmsModel", "imaged", "I", false)
  | 15 => ("TableFirmsModel", "length", "I", false)
  | 16 => ("TableFirmsModel", "tape", "[I", true)
  | 17 => ("TableFirmsModel", "fault", "I", false)
  | 18 => ("TableFirmsModel", "trace", "[I", true)
  | 19 => ("TableFirmsModel", "traced", "I", false)
  | 20 => ("TableFirmsModel", "spot", "I", false)
  | 21 => ("TableFirmsModel", "begins", "I", false)
  | 22 => ("TableFirmsModel", "token", "I", false)
  | 23 => ("TableFirmsModel", "number", "I", false)
  | 24 => ("TableFirmsModel", "readFirms", "[I", true)
  | 25 => ("TableFirmsModel", "readKinds", "[I", true)
  | 26 => ("TableFirmsModel", "readAt", "[I", true)
  | 27 => ("TableFirmsModel", "readPoints", "I", false)
  | 28 => ("TableFirmsModel", "readHome", "I", false)
  | 29 => ("TableFirmsModel", "readMen", "I", false)
  | 30 => ("TableFirmsModel", "rows", "[I", true)
  | 31 => ("TableFirmsModel", "otherOne", "I", false)
  | 32 => ("TableFirmsModel", "otherKind", "I", false)
  | _ => ("TableFirmsModel", "bests", "[I", true)
def tyX8 : Nat → FieldType := fun k => match k with
  | 0 => .array .int
  | 1 => .array .int
  | 2 => .array .int
  | 3 => .int
  | 4 => .int
  | 5 => .int
  | 6 => .int
  | 7 => .boolean
  | 8 => .array .int
  | 9 => .array .int
  | 10 => .array .int
  | 11 => .array .int
  | 12 => .int
  | 13 => .array .int
  | 14 => .int
  | 15 => .int
  | 16 => .array .int
  | 17 => .int
  | 18 => .array .int
  | 19 => .int
  | 20 => .int
  | 21 => .int
  | 22 => .int
  | 23 => .int
  | 24 => .array .int
  | 25 => .array .int
  | 26 => .array .int
  | 27 => .int
  | 28 => .int
  | 29 => .int
  | 30 => .array .int
  | 31 => .int
  | 32 => .int
  | _ => .array .int
abbrev wsX80 : List Cond := u_ws RX8 TX8 34
theorem nmX8 : ∀ a, a < 34 → ∀ b, b < 34 → a ≠ b → (TX8 a).2.1 ≠ (TX8 b).2.1 := by decide +kernel
theorem tyX8_ok : ∀ k, k < 34 → parseFieldDescriptor (TX8 k).2.2.1 = some (tyX8 k) := by decide +kernel
abbrev cX8_init : ByteArray := prog_10_method_1_code
def yX8_init : MethodName := ⟨RX8, "<init>", "()V"⟩
abbrev cX8_in : ByteArray := prog_10_method_2_code
def yX8_in : MethodName := ⟨RX8, "in", "(JJJ)Z"⟩
abbrev cX8_has : ByteArray := prog_10_method_3_code
def yX8_has : MethodName := ⟨RX8, "has", "(II)Z"⟩
abbrev cX8_found : ByteArray := prog_10_method_4_code
def yX8_found : MethodName := ⟨RX8, "found", "(I)I"⟩
abbrev cX8_well : ByteArray := prog_10_method_5_code
def yX8_well : MethodName := ⟨RX8, "well", "(I)I"⟩
abbrev cX8_isRow : ByteArray := prog_10_method_6_code
def yX8_isRow : MethodName := ⟨RX8, "isRow", "(I)Z"⟩
abbrev cX8_row : ByteArray := prog_10_method_7_code
def yX8_row : MethodName := ⟨RX8, "row", "(III)I"⟩
abbrev cX8_set : ByteArray := prog_10_method_8_code
def yX8_set : MethodName := ⟨RX8, "set", "(III)I"⟩
abbrev cX8_isSpan : ByteArray := prog_10_method_9_code
def yX8_isSpan : MethodName := ⟨RX8, "isSpan", "(III)Z"⟩
abbrev cX8_copy : ByteArray := prog_10_method_10_code
def yX8_copy : MethodName := ⟨RX8, "copy", "(IIIII)I"⟩
abbrev cX8_drop : ByteArray := prog_10_method_11_code
def yX8_drop : MethodName := ⟨RX8, "drop", "(I)I"⟩
abbrev cX8_feed : ByteArray := prog_10_method_12_code
def yX8_feed : MethodName := ⟨RX8, "feed", "(I)I"⟩
abbrev cX8_isFigure : ByteArray := prog_10_method_13_code
def yX8_isFigure : MethodName := ⟨RX8, "isFigure", "(I)Z"⟩
abbrev cX8_next : ByteArray := prog_10_method_14_code
def yX8_next : MethodName := ⟨RX8, "next", "()V"⟩
abbrev cX8_sign : ByteArray := prog_10_method_15_code
def yX8_sign : MethodName := ⟨RX8, "sign", "(I)I"⟩
abbrev cX8_numberIn : ByteArray := prog_10_method_16_code
def yX8_numberIn : MethodName := ⟨RX8, "numberIn", "(II)I"⟩
abbrev cX8_law : ByteArray := prog_10_method_17_code
def yX8_law : MethodName := ⟨RX8, "law", "()I"⟩
abbrev cX8_kindOf : ByteArray := prog_10_method_18_code
def yX8_kindOf : MethodName := ⟨RX8, "kindOf", "(I)I"⟩
abbrev cX8_manItem : ByteArray := prog_10_method_19_code
def yX8_manItem : MethodName := ⟨RX8, "manItem", "()I"⟩
abbrev cX8_readAll : ByteArray := prog_10_method_20_code
def yX8_readAll : MethodName := ⟨RX8, "readAll", "()I"⟩
abbrev cX8_table : ByteArray := prog_10_method_21_code
def yX8_table : MethodName := ⟨RX8, "table", "()I"⟩
abbrev cX8_fault : ByteArray := prog_10_method_22_code
def yX8_fault : MethodName := ⟨RX8, "fault", "()I"⟩
abbrev cX8_aside : ByteArray := prog_10_method_23_code
def yX8_aside : MethodName := ⟨RX8, "aside", "(I)V"⟩
abbrev cX8_deeper : ByteArray := prog_10_method_24_code
def yX8_deeper : MethodName := ⟨RX8, "deeper", "(I)V"⟩
abbrev cX8_take : ByteArray := prog_10_method_25_code
def yX8_take : MethodName := ⟨RX8, "take", "()V"⟩
abbrev cX8_at : ByteArray := prog_10_method_26_code
def yX8_at : MethodName := ⟨RX8, "at", "(II)I"⟩
abbrev cX8_pipsAt : ByteArray := prog_10_method_27_code
def yX8_pipsAt : MethodName := ⟨RX8, "pipsAt", "(II)I"⟩
abbrev cX8_pipsOf : ByteArray := prog_10_method_28_code
def yX8_pipsOf : MethodName := ⟨RX8, "pipsOf", "(II)I"⟩
abbrev cX8_kindNow : ByteArray := prog_10_method_29_code
def yX8_kindNow : MethodName := ⟨RX8, "kindNow", "(I)I"⟩
abbrev cX8_hop : ByteArray := prog_10_method_30_code
def yX8_hop : MethodName := ⟨RX8, "hop", "(II)I"⟩
abbrev cX8_target : ByteArray := prog_10_method_31_code
def yX8_target : MethodName := ⟨RX8, "target", "(III)I"⟩
abbrev cX8_manyAt : ByteArray := prog_10_method_32_code
def yX8_manyAt : MethodName := ⟨RX8, "manyAt", "(IIII)I"⟩
abbrev cX8_isAllHome : ByteArray := prog_10_method_33_code
def yX8_isAllHome : MethodName := ⟨RX8, "isAllHome", "(II)Z"⟩
abbrev cX8_can : ByteArray := prog_10_method_34_code
def yX8_can : MethodName := ⟨RX8, "can", "(III)Z"⟩
abbrev cX8_goMan : ByteArray := prog_10_method_35_code
def yX8_goMan : MethodName := ⟨RX8, "goMan", "(III)V"⟩
abbrev cX8_goTurn : ByteArray := prog_10_method_36_code
def yX8_goTurn : MethodName := ⟨RX8, "goTurn", "(I)V"⟩
abbrev cX8_ruled : ByteArray := prog_10_method_37_code
def yX8_ruled : MethodName := ⟨RX8, "ruled", "(III)I"⟩
abbrev cX8_won : ByteArray := prog_10_method_38_code
def yX8_won : MethodName := ⟨RX8, "won", "(I)I"⟩
abbrev cX8_wonNow : ByteArray := prog_10_method_39_code
def yX8_wonNow : MethodName := ⟨RX8, "wonNow", "()I"⟩
abbrev cX8_goRuled : ByteArray := prog_10_method_40_code
def yX8_goRuled : MethodName := ⟨RX8, "goRuled", "(II)I"⟩
abbrev cX8_pipsOfAll : ByteArray := prog_10_method_41_code
def yX8_pipsOfAll : MethodName := ⟨RX8, "pipsOfAll", "(II)I"⟩
abbrev cX8_lead : ByteArray := prog_10_method_42_code
def yX8_lead : MethodName := ⟨RX8, "lead", "(II)I"⟩
abbrev cX8_isThrow : ByteArray := prog_10_method_43_code
def yX8_isThrow : MethodName := ⟨RX8, "isThrow", "(I)Z"⟩
abbrev cX8_isMan : ByteArray := prog_10_method_44_code
def yX8_isMan : MethodName := ⟨RX8, "isMan", "(I)Z"⟩
abbrev cX8_isFirm : ByteArray := prog_10_method_45_code
def yX8_isFirm : MethodName := ⟨RX8, "isFirm", "(I)Z"⟩
abbrev cX8_note : ByteArray := prog_10_method_46_code
def yX8_note : MethodName := ⟨RX8, "note", "()V"⟩
abbrev cX8_undo : ByteArray := prog_10_method_47_code
def yX8_undo : MethodName := ⟨RX8, "undo", "()I"⟩
abbrev cX8_play : ByteArray := prog_10_method_48_code
def yX8_play : MethodName := ⟨RX8, "play", "(I)I"⟩
abbrev cX8_move : ByteArray := prog_10_method_49_code
def yX8_move : MethodName := ⟨RX8, "move", "(II)I"⟩
abbrev cX8_twice : ByteArray := prog_10_method_50_code
def yX8_twice : MethodName := ⟨RX8, "twice", "()I"⟩
abbrev cX8_lay : ByteArray := prog_10_method_51_code
def yX8_lay : MethodName := ⟨RX8, "lay", "(II)I"⟩
abbrev cX8_man : ByteArray := prog_10_method_52_code
def yX8_man : MethodName := ⟨RX8, "man", "(II)I"⟩
abbrev cX8_on : ByteArray := prog_10_method_53_code
def yX8_on : MethodName := ⟨RX8, "on", "(II)I"⟩
abbrev cX8_stand : ByteArray := prog_10_method_54_code
def yX8_stand : MethodName := ⟨RX8, "stand", "(I)I"⟩
abbrev cX8_may : ByteArray := prog_10_method_55_code
def yX8_may : MethodName := ⟨RX8, "may", "(I)I"⟩
abbrev cX8_whither : ByteArray := prog_10_method_56_code
def yX8_whither : MethodName := ⟨RX8, "whither", "(II)I"⟩
abbrev cX8_shots : ByteArray := prog_10_method_57_code
def yX8_shots : MethodName := ⟨RX8, "shots", "(I)I"⟩
abbrev cX8_enter : ByteArray := prog_10_method_58_code
def yX8_enter : MethodName := ⟨RX8, "enter", "(I)I"⟩
abbrev cX8_pips : ByteArray := prog_10_method_59_code
def yX8_pips : MethodName := ⟨RX8, "pips", "(II)I"⟩
abbrev cX8_best0 : ByteArray := prog_10_method_60_code
def yX8_best0 : MethodName := ⟨RX8, "best0", "(III)I"⟩
abbrev cX8_all0 : ByteArray := prog_10_method_61_code
def yX8_all0 : MethodName := ⟨RX8, "all0", "(II)I"⟩
abbrev cX8_best1 : ByteArray := prog_10_method_62_code
def yX8_best1 : MethodName := ⟨RX8, "best1", "(III)I"⟩
abbrev cX8_all1 : ByteArray := prog_10_method_63_code
def yX8_all1 : MethodName := ⟨RX8, "all1", "(II)I"⟩
abbrev cX8_best2 : ByteArray := prog_10_method_64_code
def yX8_best2 : MethodName := ⟨RX8, "best2", "(II)I"⟩
abbrev cX8_best : ByteArray := prog_10_method_65_code
def yX8_best : MethodName := ⟨RX8, "best", "(III)I"⟩
abbrev cX8_hasMen : ByteArray := prog_10_method_66_code
def yX8_hasMen : MethodName := ⟨RX8, "hasMen", "(I)Z"⟩
abbrev cX8_alone : ByteArray := prog_10_method_67_code
def yX8_alone : MethodName := ⟨RX8, "alone", "(I)V"⟩
abbrev cX8_isDone : ByteArray := prog_10_method_68_code
def yX8_isDone : MethodName := ⟨RX8, "isDone", "(II)Z"⟩
abbrev cX8_goAlone : ByteArray := prog_10_method_69_code
def yX8_goAlone : MethodName := ⟨RX8, "goAlone", "(III)V"⟩
abbrev cX8_race : ByteArray := prog_10_method_70_code
def yX8_race : MethodName := ⟨RX8, "race", "(I)I"⟩
abbrev cX8_safe : ByteArray := prog_10_method_71_code
def yX8_safe : MethodName := ⟨RX8, "safe", "(I)I"⟩
abbrev cX8_isAs : ByteArray := prog_10_method_72_code
def yX8_isAs : MethodName := ⟨RX8, "isAs", "(III)Z"⟩
abbrev cX8_lacks : ByteArray := prog_10_method_73_code
def yX8_lacks : MethodName := ⟨RX8, "lacks", "(II)I"⟩
abbrev cX8_cast : ByteArray := prog_10_method_74_code
def yX8_cast : MethodName := ⟨RX8, "cast", "(II)I"⟩
abbrev cX8_played : ByteArray := prog_10_method_75_code
def yX8_played : MethodName := ⟨RX8, "played", "(III)I"⟩
abbrev cX8_kinds : ByteArray := prog_10_method_76_code
def yX8_kinds : MethodName := ⟨RX8, "kinds", "(IIII)I"⟩
abbrev cX8_chance : ByteArray := prog_10_method_77_code
def yX8_chance : MethodName := ⟨RX8, "chance", "(III)J"⟩
abbrev cX8_drawn : ByteArray := prog_10_method_78_code
def yX8_drawn : MethodName := ⟨RX8, "drawn", "(III)I"⟩
abbrev cX8_image : ByteArray := prog_10_method_79_code
def yX8_image : MethodName := ⟨RX8, "image", "(I)I"⟩
abbrev cX8_restore : ByteArray := prog_10_method_80_code
def yX8_restore : MethodName := ⟨RX8, "restore", "(I)I"⟩
abbrev cX8_kind : ByteArray := prog_10_method_81_code
def yX8_kind : MethodName := ⟨RX8, "kind", "(I)I"⟩
abbrev cX8_as : ByteArray := prog_10_method_82_code
def yX8_as : MethodName := ⟨RX8, "as", "(II)I"⟩
abbrev cX8_leaves : ByteArray := prog_10_method_83_code
def yX8_leaves : MethodName := ⟨RX8, "leaves", "(I)V"⟩
abbrev cX8_body10 : ByteArray := prog_10_method_84_code
def yX8_body10 : MethodName := ⟨RX8, "body10", "(I)I"⟩
abbrev cX8_body20 : ByteArray := prog_10_method_85_code
def yX8_body20 : MethodName := ⟨RX8, "body20", "(I)I"⟩
abbrev cX8_body21 : ByteArray := prog_10_method_86_code
def yX8_body21 : MethodName := ⟨RX8, "body21", "(I)I"⟩
abbrev cX8_clerkMark : ByteArray := prog_10_method_87_code
def yX8_clerkMark : MethodName := ⟨RX8, "clerkMark", "(I)I"⟩
abbrev cX8_body11 : ByteArray := prog_10_method_88_code
def yX8_body11 : MethodName := ⟨RX8, "body11", "(I)I"⟩
abbrev cX8_body13 : ByteArray := prog_10_method_89_code
def yX8_body13 : MethodName := ⟨RX8, "body13", "(I)I"⟩
abbrev cX8_partnerSize : ByteArray := prog_10_method_90_code
def yX8_partnerSize : MethodName := ⟨RX8, "partnerSize", "(I)I"⟩
abbrev cX8_size : ByteArray := prog_10_method_91_code
def yX8_size : MethodName := ⟨RX8, "size", "(I)I"⟩
abbrev cX8_mark : ByteArray := prog_10_method_92_code
def yX8_mark : MethodName := ⟨RX8, "mark", "(I)I"⟩
abbrev cX8_ask : ByteArray := prog_10_method_93_code
def yX8_ask : MethodName := ⟨RX8, "ask", "(II)I"⟩
abbrev cX8_trace : ByteArray := prog_10_method_94_code
def yX8_trace : MethodName := ⟨RX8, "trace", "(I)I"⟩
abbrev cX8_manyNow : ByteArray := prog_10_method_95_code
def yX8_manyNow : MethodName := ⟨RX8, "manyNow", "(I)I"⟩
abbrev cX8_count : ByteArray := prog_10_method_96_code
def yX8_count : MethodName := ⟨RX8, "count", "(I)I"⟩
abbrev cX8_status : ByteArray := prog_10_method_97_code
def yX8_status : MethodName := ⟨RX8, "status", "()I"⟩
def RJ9 : String := "java/lang/Math"
abbrev cJ9_max_f86c9 : ByteArray := prog_11_method_66_code
def yJ9_max_f86c9 : MethodName := ⟨RJ9, "max", "(JJ)J"⟩
abbrev cJ9_min_7cf53 : ByteArray := prog_11_method_69_code
def yJ9_min_7cf53 : MethodName := ⟨RJ9, "min", "(II)I"⟩
def RJ10 : String := "java/lang/System"
def RJ7 : String := "java/util/Arrays"
abbrev cJ7_fill_53178 : ByteArray := prog_13_method_103_code
def yJ7_fill_53178 : MethodName := ⟨RJ7, "fill", "([II)V"⟩
def RL : String := "TableFirmsLaw"
abbrev cL_law : ByteArray := code
def yL_law : MethodName := ⟨RL, "law", "([I)Z"⟩
abbrev vwCl : List vw_C := [(RX0, TX0, 3), (RX1, TX1, 2), (RX2, TX2, 13), (RX3, TX3, 3), (RX4, TX4, 6), (RX5, TX5, 3), (RX6, TX6, 2), (RX7, TX7, 10), (RX8, TX8, 34)]
