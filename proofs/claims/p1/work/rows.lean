section
-- ===== PART A: goes FIRST, ahead of the names: the tables' words, and 'selects' of the private methods out of them =====
/-- a private method of a class that the tables say can be made, by its rows of tables_1 -/
def lw_okq (q : MethodName × Nat) : Prop := (q.1.cls ≠ "java/lang/invoke/MethodHandle" ∧ q.1.cls ≠ "java/lang/invoke/VarHandle") ∧ Cond.instantiable q.1.cls q.2 ∈ tables_1 ∧ Cond.privateMethod q.1 ∈ tables_1 ∧ Cond.instanceMethod q.1 ∈ tables_1
theorem lw_p0 : lw_okq (⟨"WebCourt$Tape", "scanWord", "()V"⟩, 7) := ⟨⟨by decide +kernel, by decide +kernel⟩, List.mem_of_getElem? (i := 29) (by decide +kernel), List.mem_of_getElem? (i := 442) (by decide +kernel), List.mem_of_getElem? (i := 443) (by decide +kernel)⟩
theorem lw_p1 : lw_okq (⟨"WebCourt$Tape", "wordKind", "()I"⟩, 7) := ⟨⟨by decide +kernel, by decide +kernel⟩, List.mem_of_getElem? (i := 29) (by decide +kernel), List.mem_of_getElem? (i := 448) (by decide +kernel), List.mem_of_getElem? (i := 449) (by decide +kernel)⟩
theorem lw_p2 : lw_okq (⟨"WebCourt$Tape", "scanNumber", "()V"⟩, 7) := ⟨⟨by decide +kernel, by decide +kernel⟩, List.mem_of_getElem? (i := 29) (by decide +kernel), List.mem_of_getElem? (i := 504) (by decide +kernel), List.mem_of_getElem? (i := 505) (by decide +kernel)⟩
theorem lw_p3 : lw_okq (⟨"WebCourt$Reader", "readLine", "()Z"⟩, 4) := ⟨⟨by decide +kernel, by decide +kernel⟩, List.mem_of_getElem? (i := 218) (by decide +kernel), List.mem_of_getElem? (i := 571) (by decide +kernel), List.mem_of_getElem? (i := 572) (by decide +kernel)⟩
theorem lw_p4 : lw_okq (⟨"WebCourt$Reader", "readKnot", "()Z"⟩, 4) := ⟨⟨by decide +kernel, by decide +kernel⟩, List.mem_of_getElem? (i := 218) (by decide +kernel), List.mem_of_getElem? (i := 575) (by decide +kernel), List.mem_of_getElem? (i := 576) (by decide +kernel)⟩
theorem lw_p5 : lw_okq (⟨"WebCourt$Reader", "openSort", "(II)Z"⟩, 4) := ⟨⟨by decide +kernel, by decide +kernel⟩, List.mem_of_getElem? (i := 218) (by decide +kernel), List.mem_of_getElem? (i := 579) (by decide +kernel), List.mem_of_getElem? (i := 580) (by decide +kernel)⟩
theorem lw_p6 : lw_okq (⟨"WebCourt$Reader", "refuse", "(I)Z"⟩, 4) := ⟨⟨by decide +kernel, by decide +kernel⟩, List.mem_of_getElem? (i := 218) (by decide +kernel), List.mem_of_getElem? (i := 583) (by decide +kernel), List.mem_of_getElem? (i := 584) (by decide +kernel)⟩
theorem lw_p7 : lw_okq (⟨"WebCourt$Reader", "newName", "([JI)Z"⟩, 4) := ⟨⟨by decide +kernel, by decide +kernel⟩, List.mem_of_getElem? (i := 218) (by decide +kernel), List.mem_of_getElem? (i := 588) (by decide +kernel), List.mem_of_getElem? (i := 589) (by decide +kernel)⟩
theorem lw_p8 : lw_okq (⟨"WebCourt$Reader", "readThread", "()Z"⟩, 4) := ⟨⟨by decide +kernel, by decide +kernel⟩, List.mem_of_getElem? (i := 218) (by decide +kernel), List.mem_of_getElem? (i := 595) (by decide +kernel), List.mem_of_getElem? (i := 596) (by decide +kernel)⟩
theorem lw_p9 : lw_okq (⟨"WebCourt$Reader", "knownName", "([JI)I"⟩, 4) := ⟨⟨by decide +kernel, by decide +kernel⟩, List.mem_of_getElem? (i := 218) (by decide +kernel), List.mem_of_getElem? (i := 599) (by decide +kernel), List.mem_of_getElem? (i := 600) (by decide +kernel)⟩
theorem lw_p10 : lw_okq (⟨"WebCourt$Reader", "readPlea", "()Z"⟩, 4) := ⟨⟨by decide +kernel, by decide +kernel⟩, List.mem_of_getElem? (i := 218) (by decide +kernel), List.mem_of_getElem? (i := 607) (by decide +kernel), List.mem_of_getElem? (i := 608) (by decide +kernel)⟩
theorem lw_p11 : lw_okq (⟨"WebCourt$Reader", "skip", "(I)Z"⟩, 4) := ⟨⟨by decide +kernel, by decide +kernel⟩, List.mem_of_getElem? (i := 218) (by decide +kernel), List.mem_of_getElem? (i := 611) (by decide +kernel), List.mem_of_getElem? (i := 612) (by decide +kernel)⟩
theorem lw_p12 : lw_okq (⟨"WebCourt$Reader", "numberTo", "(I)I"⟩, 4) := ⟨⟨by decide +kernel, by decide +kernel⟩, List.mem_of_getElem? (i := 218) (by decide +kernel), List.mem_of_getElem? (i := 615) (by decide +kernel), List.mem_of_getElem? (i := 616) (by decide +kernel)⟩
theorem lw_p13 : lw_okq (⟨"WebCourt$Reader", "readCase", "()Z"⟩, 4) := ⟨⟨by decide +kernel, by decide +kernel⟩, List.mem_of_getElem? (i := 218) (by decide +kernel), List.mem_of_getElem? (i := 619) (by decide +kernel), List.mem_of_getElem? (i := 620) (by decide +kernel)⟩
theorem lw_p14 : lw_okq (⟨"WebCourt$Reader", "readPleas", "()I"⟩, 4) := ⟨⟨by decide +kernel, by decide +kernel⟩, List.mem_of_getElem? (i := 218) (by decide +kernel), List.mem_of_getElem? (i := 623) (by decide +kernel), List.mem_of_getElem? (i := 624) (by decide +kernel)⟩
theorem lw_p15 : lw_okq (⟨"WebCourt$Reader", "readBench", "()Z"⟩, 4) := ⟨⟨by decide +kernel, by decide +kernel⟩, List.mem_of_getElem? (i := 218) (by decide +kernel), List.mem_of_getElem? (i := 627) (by decide +kernel), List.mem_of_getElem? (i := 628) (by decide +kernel)⟩
def lw_privs_1 : List (MethodName × Nat) := [(⟨"WebCourt$Tape", "scanWord", "()V"⟩, 7), (⟨"WebCourt$Tape", "wordKind", "()I"⟩, 7), (⟨"WebCourt$Tape", "scanNumber", "()V"⟩, 7), (⟨"WebCourt$Reader", "readLine", "()Z"⟩, 4), (⟨"WebCourt$Reader", "readKnot", "()Z"⟩, 4), (⟨"WebCourt$Reader", "openSort", "(II)Z"⟩, 4), (⟨"WebCourt$Reader", "refuse", "(I)Z"⟩, 4), (⟨"WebCourt$Reader", "newName", "([JI)Z"⟩, 4), (⟨"WebCourt$Reader", "readThread", "()Z"⟩, 4), (⟨"WebCourt$Reader", "knownName", "([JI)I"⟩, 4), (⟨"WebCourt$Reader", "readPlea", "()Z"⟩, 4), (⟨"WebCourt$Reader", "skip", "(I)Z"⟩, 4), (⟨"WebCourt$Reader", "numberTo", "(I)I"⟩, 4), (⟨"WebCourt$Reader", "readCase", "()Z"⟩, 4), (⟨"WebCourt$Reader", "readPleas", "()I"⟩, 4), (⟨"WebCourt$Reader", "readBench", "()Z"⟩, 4)]
theorem lw_r1 : ∀ q ∈ lw_privs_1, lw_okq q := List.forall_mem_cons.mpr ⟨lw_p0, List.forall_mem_cons.mpr ⟨lw_p1, List.forall_mem_cons.mpr ⟨lw_p2, List.forall_mem_cons.mpr ⟨lw_p3, List.forall_mem_cons.mpr ⟨lw_p4, List.forall_mem_cons.mpr ⟨lw_p5, List.forall_mem_cons.mpr ⟨lw_p6, List.forall_mem_cons.mpr ⟨lw_p7, List.forall_mem_cons.mpr ⟨lw_p8, List.forall_mem_cons.mpr ⟨lw_p9, List.forall_mem_cons.mpr ⟨lw_p10, List.forall_mem_cons.mpr ⟨lw_p11, List.forall_mem_cons.mpr ⟨lw_p12, List.forall_mem_cons.mpr ⟨lw_p13, List.forall_mem_cons.mpr ⟨lw_p14, List.forall_mem_cons.mpr ⟨lw_p15, fun _ h => absurd h List.not_mem_nil⟩⟩⟩⟩⟩⟩⟩⟩⟩⟩⟩⟩⟩⟩⟩⟩
theorem lw_p16 : lw_okq (⟨"WebCourt$Reader", "openOnce", "()Z"⟩, 4) := ⟨⟨by decide +kernel, by decide +kernel⟩, List.mem_of_getElem? (i := 218) (by decide +kernel), List.mem_of_getElem? (i := 631) (by decide +kernel), List.mem_of_getElem? (i := 632) (by decide +kernel)⟩
theorem lw_p17 : lw_okq (⟨"WebCourt$Reader", "readFormula", "(I)Z"⟩, 4) := ⟨⟨by decide +kernel, by decide +kernel⟩, List.mem_of_getElem? (i := 218) (by decide +kernel), List.mem_of_getElem? (i := 635) (by decide +kernel), List.mem_of_getElem? (i := 636) (by decide +kernel)⟩
theorem lw_p18 : lw_okq (⟨"WebCourt$Reader", "readBoth", "(I)Z"⟩, 4) := ⟨⟨by decide +kernel, by decide +kernel⟩, List.mem_of_getElem? (i := 218) (by decide +kernel), List.mem_of_getElem? (i := 639) (by decide +kernel), List.mem_of_getElem? (i := 640) (by decide +kernel)⟩
theorem lw_p19 : lw_okq (⟨"WebCourt$Reader", "readOne", "(I)Z"⟩, 4) := ⟨⟨by decide +kernel, by decide +kernel⟩, List.mem_of_getElem? (i := 218) (by decide +kernel), List.mem_of_getElem? (i := 643) (by decide +kernel), List.mem_of_getElem? (i := 644) (by decide +kernel)⟩
theorem lw_p20 : lw_okq (⟨"WebCourt$Reader", "readNot", "(I)Z"⟩, 4) := ⟨⟨by decide +kernel, by decide +kernel⟩, List.mem_of_getElem? (i := 218) (by decide +kernel), List.mem_of_getElem? (i := 647) (by decide +kernel), List.mem_of_getElem? (i := 648) (by decide +kernel)⟩
theorem lw_p21 : lw_okq (⟨"WebCourt$Reader", "readSum", "(I)Z"⟩, 4) := ⟨⟨by decide +kernel, by decide +kernel⟩, List.mem_of_getElem? (i := 218) (by decide +kernel), List.mem_of_getElem? (i := 655) (by decide +kernel), List.mem_of_getElem? (i := 656) (by decide +kernel)⟩
theorem lw_p22 : lw_okq (⟨"WebCourt$Reader", "readProduct", "(I)Z"⟩, 4) := ⟨⟨by decide +kernel, by decide +kernel⟩, List.mem_of_getElem? (i := 218) (by decide +kernel), List.mem_of_getElem? (i := 659) (by decide +kernel), List.mem_of_getElem? (i := 660) (by decide +kernel)⟩
theorem lw_p23 : lw_okq (⟨"WebCourt$Reader", "readUnit", "(I)Z"⟩, 4) := ⟨⟨by decide +kernel, by decide +kernel⟩, List.mem_of_getElem? (i := 218) (by decide +kernel), List.mem_of_getElem? (i := 663) (by decide +kernel), List.mem_of_getElem? (i := 664) (by decide +kernel)⟩
theorem lw_p24 : lw_okq (⟨"WebCourt$Reader", "readInner", "(I)Z"⟩, 4) := ⟨⟨by decide +kernel, by decide +kernel⟩, List.mem_of_getElem? (i := 218) (by decide +kernel), List.mem_of_getElem? (i := 674) (by decide +kernel), List.mem_of_getElem? (i := 675) (by decide +kernel)⟩
theorem lw_p25 : lw_okq (⟨"WebCourt$Reader", "readBack", "()Z"⟩, 4) := ⟨⟨by decide +kernel, by decide +kernel⟩, List.mem_of_getElem? (i := 218) (by decide +kernel), List.mem_of_getElem? (i := 681) (by decide +kernel), List.mem_of_getElem? (i := 682) (by decide +kernel)⟩
theorem lw_p26 : lw_okq (⟨"WebCourt$Reader", "readDraw", "()Z"⟩, 4) := ⟨⟨by decide +kernel, by decide +kernel⟩, List.mem_of_getElem? (i := 218) (by decide +kernel), List.mem_of_getElem? (i := 685) (by decide +kernel), List.mem_of_getElem? (i := 686) (by decide +kernel)⟩
theorem lw_p27 : lw_okq (⟨"WebCourt$Law", "push", "(I)V"⟩, 11) := ⟨⟨by decide +kernel, by decide +kernel⟩, List.mem_of_getElem? (i := 69) (by decide +kernel), List.mem_of_getElem? (i := 771) (by decide +kernel), List.mem_of_getElem? (i := 772) (by decide +kernel)⟩
theorem lw_p28 : lw_okq (⟨"WebCourt$Law", "given", "(I)I"⟩, 11) := ⟨⟨by decide +kernel, by decide +kernel⟩, List.mem_of_getElem? (i := 69) (by decide +kernel), List.mem_of_getElem? (i := 776) (by decide +kernel), List.mem_of_getElem? (i := 777) (by decide +kernel)⟩
theorem lw_p29 : lw_okq (⟨"WebCourt$Law", "pop", "()I"⟩, 11) := ⟨⟨by decide +kernel, by decide +kernel⟩, List.mem_of_getElem? (i := 69) (by decide +kernel), List.mem_of_getElem? (i := 780) (by decide +kernel), List.mem_of_getElem? (i := 781) (by decide +kernel)⟩
theorem lw_p30 : lw_okq (⟨"WebCourt$Court", "drawsBack", "()Z"⟩, 2) := ⟨⟨by decide +kernel, by decide +kernel⟩, List.mem_of_getElem? (i := 239) (by decide +kernel), List.mem_of_getElem? (i := 809) (by decide +kernel), List.mem_of_getElem? (i := 810) (by decide +kernel)⟩
theorem lw_p31 : lw_okq (⟨"WebCourt", "turnPlea", "(II)I"⟩, 13) := ⟨⟨by decide +kernel, by decide +kernel⟩, List.mem_of_getElem? (i := 21) (by decide +kernel), List.mem_of_getElem? (i := 841) (by decide +kernel), List.mem_of_getElem? (i := 842) (by decide +kernel)⟩
def lw_privs_2 : List (MethodName × Nat) := [(⟨"WebCourt$Reader", "openOnce", "()Z"⟩, 4), (⟨"WebCourt$Reader", "readFormula", "(I)Z"⟩, 4), (⟨"WebCourt$Reader", "readBoth", "(I)Z"⟩, 4), (⟨"WebCourt$Reader", "readOne", "(I)Z"⟩, 4), (⟨"WebCourt$Reader", "readNot", "(I)Z"⟩, 4), (⟨"WebCourt$Reader", "readSum", "(I)Z"⟩, 4), (⟨"WebCourt$Reader", "readProduct", "(I)Z"⟩, 4), (⟨"WebCourt$Reader", "readUnit", "(I)Z"⟩, 4), (⟨"WebCourt$Reader", "readInner", "(I)Z"⟩, 4), (⟨"WebCourt$Reader", "readBack", "()Z"⟩, 4), (⟨"WebCourt$Reader", "readDraw", "()Z"⟩, 4), (⟨"WebCourt$Law", "push", "(I)V"⟩, 11), (⟨"WebCourt$Law", "given", "(I)I"⟩, 11), (⟨"WebCourt$Law", "pop", "()I"⟩, 11), (⟨"WebCourt$Court", "drawsBack", "()Z"⟩, 2), (⟨"WebCourt", "turnPlea", "(II)I"⟩, 13)]
theorem lw_r2 : ∀ q ∈ lw_privs_2, lw_okq q := List.forall_mem_cons.mpr ⟨lw_p16, List.forall_mem_cons.mpr ⟨lw_p17, List.forall_mem_cons.mpr ⟨lw_p18, List.forall_mem_cons.mpr ⟨lw_p19, List.forall_mem_cons.mpr ⟨lw_p20, List.forall_mem_cons.mpr ⟨lw_p21, List.forall_mem_cons.mpr ⟨lw_p22, List.forall_mem_cons.mpr ⟨lw_p23, List.forall_mem_cons.mpr ⟨lw_p24, List.forall_mem_cons.mpr ⟨lw_p25, List.forall_mem_cons.mpr ⟨lw_p26, List.forall_mem_cons.mpr ⟨lw_p27, List.forall_mem_cons.mpr ⟨lw_p28, List.forall_mem_cons.mpr ⟨lw_p29, List.forall_mem_cons.mpr ⟨lw_p30, List.forall_mem_cons.mpr ⟨lw_p31, fun _ h => absurd h List.not_mem_nil⟩⟩⟩⟩⟩⟩⟩⟩⟩⟩⟩⟩⟩⟩⟩⟩
theorem lw_p32 : lw_okq (⟨"WebCourt", "fewestOf", "(III)I"⟩, 13) := ⟨⟨by decide +kernel, by decide +kernel⟩, List.mem_of_getElem? (i := 21) (by decide +kernel), List.mem_of_getElem? (i := 879) (by decide +kernel), List.mem_of_getElem? (i := 880) (by decide +kernel)⟩
theorem lw_p33 : lw_okq (⟨"WebCourt$Ways", "shortenOver", "(I)V"⟩, 2) := ⟨⟨by decide +kernel, by decide +kernel⟩, List.mem_of_getElem? (i := 283) (by decide +kernel), List.mem_of_getElem? (i := 905) (by decide +kernel), List.mem_of_getElem? (i := 906) (by decide +kernel)⟩
theorem lw_p34 : lw_okq (⟨"WebCourt$Ways", "stepNearer", "(III)I"⟩, 2) := ⟨⟨by decide +kernel, by decide +kernel⟩, List.mem_of_getElem? (i := 283) (by decide +kernel), List.mem_of_getElem? (i := 919) (by decide +kernel), List.mem_of_getElem? (i := 920) (by decide +kernel)⟩
theorem lw_p35 : lw_okq (⟨"WebCourt$Rounds", "hoursFrom", "(II)I"⟩, 3) := ⟨⟨by decide +kernel, by decide +kernel⟩, List.mem_of_getElem? (i := 296) (by decide +kernel), List.mem_of_getElem? (i := 932) (by decide +kernel), List.mem_of_getElem? (i := 933) (by decide +kernel)⟩
theorem lw_p36 : lw_okq (⟨"WebCourt$Rounds", "hoursBy", "(III)I"⟩, 3) := ⟨⟨by decide +kernel, by decide +kernel⟩, List.mem_of_getElem? (i := 296) (by decide +kernel), List.mem_of_getElem? (i := 936) (by decide +kernel), List.mem_of_getElem? (i := 937) (by decide +kernel)⟩
theorem lw_p37 : lw_okq (⟨"WebCourt$Rounds", "firstBest", "(II)I"⟩, 3) := ⟨⟨by decide +kernel, by decide +kernel⟩, List.mem_of_getElem? (i := 296) (by decide +kernel), List.mem_of_getElem? (i := 951) (by decide +kernel), List.mem_of_getElem? (i := 952) (by decide +kernel)⟩
theorem lw_p38 : lw_okq (⟨"WebCourt$Counsel", "outcome", "(I)I"⟩, 3) := ⟨⟨by decide +kernel, by decide +kernel⟩, List.mem_of_getElem? (i := 312) (by decide +kernel), List.mem_of_getElem? (i := 984) (by decide +kernel), List.mem_of_getElem? (i := 985) (by decide +kernel)⟩
theorem lw_p39 : lw_okq (⟨"WebCourt$Counsel", "isBest", "([IIII)Z"⟩, 3) := ⟨⟨by decide +kernel, by decide +kernel⟩, List.mem_of_getElem? (i := 312) (by decide +kernel), List.mem_of_getElem? (i := 1012) (by decide +kernel), List.mem_of_getElem? (i := 1013) (by decide +kernel)⟩
theorem lw_p40 : lw_okq (⟨"WebCourt$Hearsay", "allIsSo", "(LWebCourt$Web;II)Z"⟩, 7) := ⟨⟨by decide +kernel, by decide +kernel⟩, List.mem_of_getElem? (i := 328) (by decide +kernel), List.mem_of_getElem? (i := 1163) (by decide +kernel), List.mem_of_getElem? (i := 1164) (by decide +kernel)⟩
theorem lw_p41 : lw_okq (⟨"WebCourt$Hearsay", "counts", "(II)Z"⟩, 7) := ⟨⟨by decide +kernel, by decide +kernel⟩, List.mem_of_getElem? (i := 328) (by decide +kernel), List.mem_of_getElem? (i := 1175) (by decide +kernel), List.mem_of_getElem? (i := 1176) (by decide +kernel)⟩
theorem lw_p42 : lw_okq (⟨"WebCourt", "aboutRest", "(I)I"⟩, 13) := ⟨⟨by decide +kernel, by decide +kernel⟩, List.mem_of_getElem? (i := 21) (by decide +kernel), List.mem_of_getElem? (i := 1218) (by decide +kernel), List.mem_of_getElem? (i := 1219) (by decide +kernel)⟩
theorem lw_p43 : lw_okq (⟨"WebCourtModel", "clearBank", "()V"⟩, 65) := ⟨⟨by decide +kernel, by decide +kernel⟩, List.mem_of_getElem? (i := 1222) (by decide +kernel), List.mem_of_getElem? (i := 1228) (by decide +kernel), List.mem_of_getElem? (i := 1229) (by decide +kernel)⟩
theorem lw_p44 : lw_okq (⟨"WebCourtModel", "startAnew", "()V"⟩, 65) := ⟨⟨by decide +kernel, by decide +kernel⟩, List.mem_of_getElem? (i := 1222) (by decide +kernel), List.mem_of_getElem? (i := 1232) (by decide +kernel), List.mem_of_getElem? (i := 1233) (by decide +kernel)⟩
theorem lw_p45 : lw_okq (⟨"WebCourtModel", "layTold", "()V"⟩, 65) := ⟨⟨by decide +kernel, by decide +kernel⟩, List.mem_of_getElem? (i := 1222) (by decide +kernel), List.mem_of_getElem? (i := 1236) (by decide +kernel), List.mem_of_getElem? (i := 1237) (by decide +kernel)⟩
theorem lw_p46 : lw_okq (⟨"WebCourtModel", "many", "()I"⟩, 65) := ⟨⟨by decide +kernel, by decide +kernel⟩, List.mem_of_getElem? (i := 1222) (by decide +kernel), List.mem_of_getElem? (i := 1240) (by decide +kernel), List.mem_of_getElem? (i := 1241) (by decide +kernel)⟩
theorem lw_p47 : lw_okq (⟨"WebCourtModel", "spots", "()I"⟩, 65) := ⟨⟨by decide +kernel, by decide +kernel⟩, List.mem_of_getElem? (i := 1222) (by decide +kernel), List.mem_of_getElem? (i := 1244) (by decide +kernel), List.mem_of_getElem? (i := 1245) (by decide +kernel)⟩
def lw_privs_3 : List (MethodName × Nat) := [(⟨"WebCourt", "fewestOf", "(III)I"⟩, 13), (⟨"WebCourt$Ways", "shortenOver", "(I)V"⟩, 2), (⟨"WebCourt$Ways", "stepNearer", "(III)I"⟩, 2), (⟨"WebCourt$Rounds", "hoursFrom", "(II)I"⟩, 3), (⟨"WebCourt$Rounds", "hoursBy", "(III)I"⟩, 3), (⟨"WebCourt$Rounds", "firstBest", "(II)I"⟩, 3), (⟨"WebCourt$Counsel", "outcome", "(I)I"⟩, 3), (⟨"WebCourt$Counsel", "isBest", "([IIII)Z"⟩, 3), (⟨"WebCourt$Hearsay", "allIsSo", "(LWebCourt$Web;II)Z"⟩, 7), (⟨"WebCourt$Hearsay", "counts", "(II)Z"⟩, 7), (⟨"WebCourt", "aboutRest", "(I)I"⟩, 13), (⟨"WebCourtModel", "clearBank", "()V"⟩, 65), (⟨"WebCourtModel", "startAnew", "()V"⟩, 65), (⟨"WebCourtModel", "layTold", "()V"⟩, 65), (⟨"WebCourtModel", "many", "()I"⟩, 65), (⟨"WebCourtModel", "spots", "()I"⟩, 65)]
theorem lw_r3 : ∀ q ∈ lw_privs_3, lw_okq q := List.forall_mem_cons.mpr ⟨lw_p32, List.forall_mem_cons.mpr ⟨lw_p33, List.forall_mem_cons.mpr ⟨lw_p34, List.forall_mem_cons.mpr ⟨lw_p35, List.forall_mem_cons.mpr ⟨lw_p36, List.forall_mem_cons.mpr ⟨lw_p37, List.forall_mem_cons.mpr ⟨lw_p38, List.forall_mem_cons.mpr ⟨lw_p39, List.forall_mem_cons.mpr ⟨lw_p40, List.forall_mem_cons.mpr ⟨lw_p41, List.forall_mem_cons.mpr ⟨lw_p42, List.forall_mem_cons.mpr ⟨lw_p43, List.forall_mem_cons.mpr ⟨lw_p44, List.forall_mem_cons.mpr ⟨lw_p45, List.forall_mem_cons.mpr ⟨lw_p46, List.forall_mem_cons.mpr ⟨lw_p47, fun _ h => absurd h List.not_mem_nil⟩⟩⟩⟩⟩⟩⟩⟩⟩⟩⟩⟩⟩⟩⟩⟩
theorem lw_p48 : lw_okq (⟨"WebCourtModel", "goOn", "()V"⟩, 65) := ⟨⟨by decide +kernel, by decide +kernel⟩, List.mem_of_getElem? (i := 1222) (by decide +kernel), List.mem_of_getElem? (i := 1448) (by decide +kernel), List.mem_of_getElem? (i := 1449) (by decide +kernel)⟩
theorem lw_p49 : lw_okq (⟨"WebCourtModel", "sign", "(I)I"⟩, 65) := ⟨⟨by decide +kernel, by decide +kernel⟩, List.mem_of_getElem? (i := 1222) (by decide +kernel), List.mem_of_getElem? (i := 1452) (by decide +kernel), List.mem_of_getElem? (i := 1453) (by decide +kernel)⟩
theorem lw_p50 : lw_okq (⟨"WebCourtModel", "isGood", "()Z"⟩, 65) := ⟨⟨by decide +kernel, by decide +kernel⟩, List.mem_of_getElem? (i := 1222) (by decide +kernel), List.mem_of_getElem? (i := 1488) (by decide +kernel), List.mem_of_getElem? (i := 1489) (by decide +kernel)⟩
theorem lw_p51 : lw_okq (⟨"WebCourtModel", "readLine", "()V"⟩, 65) := ⟨⟨by decide +kernel, by decide +kernel⟩, List.mem_of_getElem? (i := 1222) (by decide +kernel), List.mem_of_getElem? (i := 1492) (by decide +kernel), List.mem_of_getElem? (i := 1493) (by decide +kernel)⟩
theorem lw_p52 : lw_okq (⟨"WebCourtModel", "isFull", "()Z"⟩, 65) := ⟨⟨by decide +kernel, by decide +kernel⟩, List.mem_of_getElem? (i := 1222) (by decide +kernel), List.mem_of_getElem? (i := 1496) (by decide +kernel), List.mem_of_getElem? (i := 1497) (by decide +kernel)⟩
theorem lw_p53 : lw_okq (⟨"WebCourtModel", "isWord", "(J)Z"⟩, 65) := ⟨⟨by decide +kernel, by decide +kernel⟩, List.mem_of_getElem? (i := 1222) (by decide +kernel), List.mem_of_getElem? (i := 1500) (by decide +kernel), List.mem_of_getElem? (i := 1501) (by decide +kernel)⟩
theorem lw_p54 : lw_okq (⟨"WebCourtModel", "misplaced", "()V"⟩, 65) := ⟨⟨by decide +kernel, by decide +kernel⟩, List.mem_of_getElem? (i := 1222) (by decide +kernel), List.mem_of_getElem? (i := 1507) (by decide +kernel), List.mem_of_getElem? (i := 1508) (by decide +kernel)⟩
theorem lw_p55 : lw_okq (⟨"WebCourtModel", "fails", "(II)V"⟩, 65) := ⟨⟨by decide +kernel, by decide +kernel⟩, List.mem_of_getElem? (i := 1222) (by decide +kernel), List.mem_of_getElem? (i := 1511) (by decide +kernel), List.mem_of_getElem? (i := 1512) (by decide +kernel)⟩
theorem lw_p56 : lw_okq (⟨"WebCourtModel", "knotHere", "()I"⟩, 65) := ⟨⟨by decide +kernel, by decide +kernel⟩, List.mem_of_getElem? (i := 1222) (by decide +kernel), List.mem_of_getElem? (i := 1515) (by decide +kernel), List.mem_of_getElem? (i := 1516) (by decide +kernel)⟩
theorem lw_p57 : lw_okq (⟨"WebCourtModel", "here", "([JII)I"⟩, 65) := ⟨⟨by decide +kernel, by decide +kernel⟩, List.mem_of_getElem? (i := 1222) (by decide +kernel), List.mem_of_getElem? (i := 1519) (by decide +kernel), List.mem_of_getElem? (i := 1520) (by decide +kernel)⟩
theorem lw_p58 : lw_okq (⟨"WebCourtModel", "fresh", "(I)J"⟩, 65) := ⟨⟨by decide +kernel, by decide +kernel⟩, List.mem_of_getElem? (i := 1222) (by decide +kernel), List.mem_of_getElem? (i := 1523) (by decide +kernel), List.mem_of_getElem? (i := 1524) (by decide +kernel)⟩
theorem lw_p59 : lw_okq (⟨"WebCourtModel", "readThread", "()V"⟩, 65) := ⟨⟨by decide +kernel, by decide +kernel⟩, List.mem_of_getElem? (i := 1222) (by decide +kernel), List.mem_of_getElem? (i := 1527) (by decide +kernel), List.mem_of_getElem? (i := 1528) (by decide +kernel)⟩
theorem lw_p60 : lw_okq (⟨"WebCourtModel", "known", "(I)I"⟩, 65) := ⟨⟨by decide +kernel, by decide +kernel⟩, List.mem_of_getElem? (i := 1222) (by decide +kernel), List.mem_of_getElem? (i := 1531) (by decide +kernel), List.mem_of_getElem? (i := 1532) (by decide +kernel)⟩
theorem lw_p61 : lw_okq (⟨"WebCourtModel", "isThread", "(III)Z"⟩, 65) := ⟨⟨by decide +kernel, by decide +kernel⟩, List.mem_of_getElem? (i := 1222) (by decide +kernel), List.mem_of_getElem? (i := 1535) (by decide +kernel), List.mem_of_getElem? (i := 1536) (by decide +kernel)⟩
theorem lw_p62 : lw_okq (⟨"WebCourtModel", "pleaHere", "()I"⟩, 65) := ⟨⟨by decide +kernel, by decide +kernel⟩, List.mem_of_getElem? (i := 1222) (by decide +kernel), List.mem_of_getElem? (i := 1539) (by decide +kernel), List.mem_of_getElem? (i := 1540) (by decide +kernel)⟩
theorem lw_p63 : lw_okq (⟨"WebCourtModel", "must", "(Z)V"⟩, 65) := ⟨⟨by decide +kernel, by decide +kernel⟩, List.mem_of_getElem? (i := 1222) (by decide +kernel), List.mem_of_getElem? (i := 1543) (by decide +kernel), List.mem_of_getElem? (i := 1544) (by decide +kernel)⟩
def lw_privs_4 : List (MethodName × Nat) := [(⟨"WebCourtModel", "goOn", "()V"⟩, 65), (⟨"WebCourtModel", "sign", "(I)I"⟩, 65), (⟨"WebCourtModel", "isGood", "()Z"⟩, 65), (⟨"WebCourtModel", "readLine", "()V"⟩, 65), (⟨"WebCourtModel", "isFull", "()Z"⟩, 65), (⟨"WebCourtModel", "isWord", "(J)Z"⟩, 65), (⟨"WebCourtModel", "misplaced", "()V"⟩, 65), (⟨"WebCourtModel", "fails", "(II)V"⟩, 65), (⟨"WebCourtModel", "knotHere", "()I"⟩, 65), (⟨"WebCourtModel", "here", "([JII)I"⟩, 65), (⟨"WebCourtModel", "fresh", "(I)J"⟩, 65), (⟨"WebCourtModel", "readThread", "()V"⟩, 65), (⟨"WebCourtModel", "known", "(I)I"⟩, 65), (⟨"WebCourtModel", "isThread", "(III)Z"⟩, 65), (⟨"WebCourtModel", "pleaHere", "()I"⟩, 65), (⟨"WebCourtModel", "must", "(Z)V"⟩, 65)]
theorem lw_r4 : ∀ q ∈ lw_privs_4, lw_okq q := List.forall_mem_cons.mpr ⟨lw_p48, List.forall_mem_cons.mpr ⟨lw_p49, List.forall_mem_cons.mpr ⟨lw_p50, List.forall_mem_cons.mpr ⟨lw_p51, List.forall_mem_cons.mpr ⟨lw_p52, List.forall_mem_cons.mpr ⟨lw_p53, List.forall_mem_cons.mpr ⟨lw_p54, List.forall_mem_cons.mpr ⟨lw_p55, List.forall_mem_cons.mpr ⟨lw_p56, List.forall_mem_cons.mpr ⟨lw_p57, List.forall_mem_cons.mpr ⟨lw_p58, List.forall_mem_cons.mpr ⟨lw_p59, List.forall_mem_cons.mpr ⟨lw_p60, List.forall_mem_cons.mpr ⟨lw_p61, List.forall_mem_cons.mpr ⟨lw_p62, List.forall_mem_cons.mpr ⟨lw_p63, fun _ h => absurd h List.not_mem_nil⟩⟩⟩⟩⟩⟩⟩⟩⟩⟩⟩⟩⟩⟩⟩⟩
theorem lw_p64 : lw_okq (⟨"WebCourtModel", "numeral", "(II)I"⟩, 65) := ⟨⟨by decide +kernel, by decide +kernel⟩, List.mem_of_getElem? (i := 1222) (by decide +kernel), List.mem_of_getElem? (i := 1547) (by decide +kernel), List.mem_of_getElem? (i := 1548) (by decide +kernel)⟩
theorem lw_p65 : lw_okq (⟨"WebCourtModel", "readCase", "()V"⟩, 65) := ⟨⟨by decide +kernel, by decide +kernel⟩, List.mem_of_getElem? (i := 1222) (by decide +kernel), List.mem_of_getElem? (i := 1551) (by decide +kernel), List.mem_of_getElem? (i := 1552) (by decide +kernel)⟩
theorem lw_p66 : lw_okq (⟨"WebCourtModel", "readRule", "()V"⟩, 65) := ⟨⟨by decide +kernel, by decide +kernel⟩, List.mem_of_getElem? (i := 1222) (by decide +kernel), List.mem_of_getElem? (i := 1558) (by decide +kernel), List.mem_of_getElem? (i := 1559) (by decide +kernel)⟩
theorem lw_p67 : lw_okq (⟨"WebCourtModel", "e", "()V"⟩, 65) := ⟨⟨by decide +kernel, by decide +kernel⟩, List.mem_of_getElem? (i := 1222) (by decide +kernel), List.mem_of_getElem? (i := 1562) (by decide +kernel), List.mem_of_getElem? (i := 1563) (by decide +kernel)⟩
theorem lw_p68 : lw_okq (⟨"WebCourtModel", "pushE", "(II)V"⟩, 65) := ⟨⟨by decide +kernel, by decide +kernel⟩, List.mem_of_getElem? (i := 1222) (by decide +kernel), List.mem_of_getElem? (i := 1566) (by decide +kernel), List.mem_of_getElem? (i := 1567) (by decide +kernel)⟩
theorem lw_p69 : lw_okq (⟨"WebCourtModel", "unit", "()Z"⟩, 65) := ⟨⟨by decide +kernel, by decide +kernel⟩, List.mem_of_getElem? (i := 1222) (by decide +kernel), List.mem_of_getElem? (i := 1570) (by decide +kernel), List.mem_of_getElem? (i := 1571) (by decide +kernel)⟩
theorem lw_p70 : lw_okq (⟨"WebCourtModel", "isSignHere", "(I)Z"⟩, 65) := ⟨⟨by decide +kernel, by decide +kernel⟩, List.mem_of_getElem? (i := 1222) (by decide +kernel), List.mem_of_getElem? (i := 1574) (by decide +kernel), List.mem_of_getElem? (i := 1575) (by decide +kernel)⟩
theorem lw_p71 : lw_okq (⟨"WebCourtModel", "wordHere", "()I"⟩, 65) := ⟨⟨by decide +kernel, by decide +kernel⟩, List.mem_of_getElem? (i := 1222) (by decide +kernel), List.mem_of_getElem? (i := 1578) (by decide +kernel), List.mem_of_getElem? (i := 1579) (by decide +kernel)⟩
theorem lw_p72 : lw_okq (⟨"WebCourtModel", "emit", "(II)V"⟩, 65) := ⟨⟨by decide +kernel, by decide +kernel⟩, List.mem_of_getElem? (i := 1222) (by decide +kernel), List.mem_of_getElem? (i := 1582) (by decide +kernel), List.mem_of_getElem? (i := 1583) (by decide +kernel)⟩
theorem lw_p73 : lw_okq (⟨"WebCourtModel", "behindUnit", "()Z"⟩, 65) := ⟨⟨by decide +kernel, by decide +kernel⟩, List.mem_of_getElem? (i := 1222) (by decide +kernel), List.mem_of_getElem? (i := 1586) (by decide +kernel), List.mem_of_getElem? (i := 1587) (by decide +kernel)⟩
theorem lw_p74 : lw_okq (⟨"WebCourtModel", "rankHere", "()I"⟩, 65) := ⟨⟨by decide +kernel, by decide +kernel⟩, List.mem_of_getElem? (i := 1222) (by decide +kernel), List.mem_of_getElem? (i := 1590) (by decide +kernel), List.mem_of_getElem? (i := 1591) (by decide +kernel)⟩
theorem lw_p75 : lw_okq (⟨"WebCourtModel", "isCompared", "()Z"⟩, 65) := ⟨⟨by decide +kernel, by decide +kernel⟩, List.mem_of_getElem? (i := 1222) (by decide +kernel), List.mem_of_getElem? (i := 1594) (by decide +kernel), List.mem_of_getElem? (i := 1595) (by decide +kernel)⟩
theorem lw_p76 : lw_okq (⟨"WebCourtModel", "once", "(II)I"⟩, 65) := ⟨⟨by decide +kernel, by decide +kernel⟩, List.mem_of_getElem? (i := 1222) (by decide +kernel), List.mem_of_getElem? (i := 1598) (by decide +kernel), List.mem_of_getElem? (i := 1599) (by decide +kernel)⟩
theorem lw_p77 : lw_okq (⟨"WebCourtModel", "isKnot", "(I)Z"⟩, 65) := ⟨⟨by decide +kernel, by decide +kernel⟩, List.mem_of_getElem? (i := 1222) (by decide +kernel), List.mem_of_getElem? (i := 1610) (by decide +kernel), List.mem_of_getElem? (i := 1611) (by decide +kernel)⟩
theorem lw_p78 : lw_okq (⟨"WebCourtModel", "nextTo", "(IZ)I"⟩, 65) := ⟨⟨by decide +kernel, by decide +kernel⟩, List.mem_of_getElem? (i := 1222) (by decide +kernel), List.mem_of_getElem? (i := 1617) (by decide +kernel), List.mem_of_getElem? (i := 1618) (by decide +kernel)⟩
theorem lw_p79 : lw_okq (⟨"WebCourtModel", "heldAt", "(I)I"⟩, 65) := ⟨⟨by decide +kernel, by decide +kernel⟩, List.mem_of_getElem? (i := 1222) (by decide +kernel), List.mem_of_getElem? (i := 1621) (by decide +kernel), List.mem_of_getElem? (i := 1622) (by decide +kernel)⟩
def lw_privs_5 : List (MethodName × Nat) := [(⟨"WebCourtModel", "numeral", "(II)I"⟩, 65), (⟨"WebCourtModel", "readCase", "()V"⟩, 65), (⟨"WebCourtModel", "readRule", "()V"⟩, 65), (⟨"WebCourtModel", "e", "()V"⟩, 65), (⟨"WebCourtModel", "pushE", "(II)V"⟩, 65), (⟨"WebCourtModel", "unit", "()Z"⟩, 65), (⟨"WebCourtModel", "isSignHere", "(I)Z"⟩, 65), (⟨"WebCourtModel", "wordHere", "()I"⟩, 65), (⟨"WebCourtModel", "emit", "(II)V"⟩, 65), (⟨"WebCourtModel", "behindUnit", "()Z"⟩, 65), (⟨"WebCourtModel", "rankHere", "()I"⟩, 65), (⟨"WebCourtModel", "isCompared", "()Z"⟩, 65), (⟨"WebCourtModel", "once", "(II)I"⟩, 65), (⟨"WebCourtModel", "isKnot", "(I)Z"⟩, 65), (⟨"WebCourtModel", "nextTo", "(IZ)I"⟩, 65), (⟨"WebCourtModel", "heldAt", "(I)I"⟩, 65)]
theorem lw_r5 : ∀ q ∈ lw_privs_5, lw_okq q := List.forall_mem_cons.mpr ⟨lw_p64, List.forall_mem_cons.mpr ⟨lw_p65, List.forall_mem_cons.mpr ⟨lw_p66, List.forall_mem_cons.mpr ⟨lw_p67, List.forall_mem_cons.mpr ⟨lw_p68, List.forall_mem_cons.mpr ⟨lw_p69, List.forall_mem_cons.mpr ⟨lw_p70, List.forall_mem_cons.mpr ⟨lw_p71, List.forall_mem_cons.mpr ⟨lw_p72, List.forall_mem_cons.mpr ⟨lw_p73, List.forall_mem_cons.mpr ⟨lw_p74, List.forall_mem_cons.mpr ⟨lw_p75, List.forall_mem_cons.mpr ⟨lw_p76, List.forall_mem_cons.mpr ⟨lw_p77, List.forall_mem_cons.mpr ⟨lw_p78, List.forall_mem_cons.mpr ⟨lw_p79, fun _ h => absurd h List.not_mem_nil⟩⟩⟩⟩⟩⟩⟩⟩⟩⟩⟩⟩⟩⟩⟩⟩
theorem lw_p80 : lw_okq (⟨"WebCourtModel", "placeOf", "(I)I"⟩, 65) := ⟨⟨by decide +kernel, by decide +kernel⟩, List.mem_of_getElem? (i := 1222) (by decide +kernel), List.mem_of_getElem? (i := 1625) (by decide +kernel), List.mem_of_getElem? (i := 1626) (by decide +kernel)⟩
theorem lw_p81 : lw_okq (⟨"WebCourtModel", "isPlea", "(I)Z"⟩, 65) := ⟨⟨by decide +kernel, by decide +kernel⟩, List.mem_of_getElem? (i := 1222) (by decide +kernel), List.mem_of_getElem? (i := 1633) (by decide +kernel), List.mem_of_getElem? (i := 1634) (by decide +kernel)⟩
theorem lw_p82 : lw_okq (⟨"WebCourtModel", "pleads", "()I"⟩, 65) := ⟨⟨by decide +kernel, by decide +kernel⟩, List.mem_of_getElem? (i := 1222) (by decide +kernel), List.mem_of_getElem? (i := 1637) (by decide +kernel), List.mem_of_getElem? (i := 1638) (by decide +kernel)⟩
theorem lw_p83 : lw_okq (⟨"WebCourtModel", "isCase", "(I)Z"⟩, 65) := ⟨⟨by decide +kernel, by decide +kernel⟩, List.mem_of_getElem? (i := 1222) (by decide +kernel), List.mem_of_getElem? (i := 1645) (by decide +kernel), List.mem_of_getElem? (i := 1646) (by decide +kernel)⟩
theorem lw_p84 : lw_okq (⟨"WebCourtModel", "verdictOf", "(I)I"⟩, 65) := ⟨⟨by decide +kernel, by decide +kernel⟩, List.mem_of_getElem? (i := 1222) (by decide +kernel), List.mem_of_getElem? (i := 1653) (by decide +kernel), List.mem_of_getElem? (i := 1654) (by decide +kernel)⟩
theorem lw_p85 : lw_okq (⟨"WebCourtModel", "verdictBy", "(II)I"⟩, 65) := ⟨⟨by decide +kernel, by decide +kernel⟩, List.mem_of_getElem? (i := 1222) (by decide +kernel), List.mem_of_getElem? (i := 1657) (by decide +kernel), List.mem_of_getElem? (i := 1658) (by decide +kernel)⟩
theorem lw_p86 : lw_okq (⟨"WebCourtModel", "comes", "()I"⟩, 65) := ⟨⟨by decide +kernel, by decide +kernel⟩, List.mem_of_getElem? (i := 1222) (by decide +kernel), List.mem_of_getElem? (i := 1661) (by decide +kernel), List.mem_of_getElem? (i := 1662) (by decide +kernel)⟩
theorem lw_p87 : lw_okq (⟨"WebCourtModel", "asked", "(II)I"⟩, 65) := ⟨⟨by decide +kernel, by decide +kernel⟩, List.mem_of_getElem? (i := 1222) (by decide +kernel), List.mem_of_getElem? (i := 1665) (by decide +kernel), List.mem_of_getElem? (i := 1666) (by decide +kernel)⟩
theorem lw_p88 : lw_okq (⟨"WebCourtModel", "strengthOf", "(I)I"⟩, 65) := ⟨⟨by decide +kernel, by decide +kernel⟩, List.mem_of_getElem? (i := 1222) (by decide +kernel), List.mem_of_getElem? (i := 1669) (by decide +kernel), List.mem_of_getElem? (i := 1670) (by decide +kernel)⟩
theorem lw_p89 : lw_okq (⟨"WebCourtModel", "kinOf", "(I)I"⟩, 65) := ⟨⟨by decide +kernel, by decide +kernel⟩, List.mem_of_getElem? (i := 1222) (by decide +kernel), List.mem_of_getElem? (i := 1673) (by decide +kernel), List.mem_of_getElem? (i := 1674) (by decide +kernel)⟩
theorem lw_p90 : lw_okq (⟨"WebCourtModel", "freeNow", "()I"⟩, 65) := ⟨⟨by decide +kernel, by decide +kernel⟩, List.mem_of_getElem? (i := 1222) (by decide +kernel), List.mem_of_getElem? (i := 1685) (by decide +kernel), List.mem_of_getElem? (i := 1686) (by decide +kernel)⟩
theorem lw_p91 : lw_okq (⟨"WebCourtModel", "isHeld", "(I)Z"⟩, 65) := ⟨⟨by decide +kernel, by decide +kernel⟩, List.mem_of_getElem? (i := 1222) (by decide +kernel), List.mem_of_getElem? (i := 1689) (by decide +kernel), List.mem_of_getElem? (i := 1690) (by decide +kernel)⟩
theorem lw_p92 : lw_okq (⟨"WebCourtModel", "haveIt", "(I)I"⟩, 65) := ⟨⟨by decide +kernel, by decide +kernel⟩, List.mem_of_getElem? (i := 1222) (by decide +kernel), List.mem_of_getElem? (i := 1701) (by decide +kernel), List.mem_of_getElem? (i := 1702) (by decide +kernel)⟩
theorem lw_p93 : lw_okq (⟨"WebCourtModel", "keepAct", "()V"⟩, 65) := ⟨⟨by decide +kernel, by decide +kernel⟩, List.mem_of_getElem? (i := 1222) (by decide +kernel), List.mem_of_getElem? (i := 1709) (by decide +kernel), List.mem_of_getElem? (i := 1710) (by decide +kernel)⟩
theorem lw_p94 : lw_okq (⟨"WebCourtModel", "heldNow", "()I"⟩, 65) := ⟨⟨by decide +kernel, by decide +kernel⟩, List.mem_of_getElem? (i := 1222) (by decide +kernel), List.mem_of_getElem? (i := 1732) (by decide +kernel), List.mem_of_getElem? (i := 1733) (by decide +kernel)⟩
theorem lw_p95 : lw_okq (⟨"WebCourtModel", "swapAll", "()V"⟩, 65) := ⟨⟨by decide +kernel, by decide +kernel⟩, List.mem_of_getElem? (i := 1222) (by decide +kernel), List.mem_of_getElem? (i := 1744) (by decide +kernel), List.mem_of_getElem? (i := 1745) (by decide +kernel)⟩
def lw_privs_6 : List (MethodName × Nat) := [(⟨"WebCourtModel", "placeOf", "(I)I"⟩, 65), (⟨"WebCourtModel", "isPlea", "(I)Z"⟩, 65), (⟨"WebCourtModel", "pleads", "()I"⟩, 65), (⟨"WebCourtModel", "isCase", "(I)Z"⟩, 65), (⟨"WebCourtModel", "verdictOf", "(I)I"⟩, 65), (⟨"WebCourtModel", "verdictBy", "(II)I"⟩, 65), (⟨"WebCourtModel", "comes", "()I"⟩, 65), (⟨"WebCourtModel", "asked", "(II)I"⟩, 65), (⟨"WebCourtModel", "strengthOf", "(I)I"⟩, 65), (⟨"WebCourtModel", "kinOf", "(I)I"⟩, 65), (⟨"WebCourtModel", "freeNow", "()I"⟩, 65), (⟨"WebCourtModel", "isHeld", "(I)Z"⟩, 65), (⟨"WebCourtModel", "haveIt", "(I)I"⟩, 65), (⟨"WebCourtModel", "keepAct", "()V"⟩, 65), (⟨"WebCourtModel", "heldNow", "()I"⟩, 65), (⟨"WebCourtModel", "swapAll", "()V"⟩, 65)]
theorem lw_r6 : ∀ q ∈ lw_privs_6, lw_okq q := List.forall_mem_cons.mpr ⟨lw_p80, List.forall_mem_cons.mpr ⟨lw_p81, List.forall_mem_cons.mpr ⟨lw_p82, List.forall_mem_cons.mpr ⟨lw_p83, List.forall_mem_cons.mpr ⟨lw_p84, List.forall_mem_cons.mpr ⟨lw_p85, List.forall_mem_cons.mpr ⟨lw_p86, List.forall_mem_cons.mpr ⟨lw_p87, List.forall_mem_cons.mpr ⟨lw_p88, List.forall_mem_cons.mpr ⟨lw_p89, List.forall_mem_cons.mpr ⟨lw_p90, List.forall_mem_cons.mpr ⟨lw_p91, List.forall_mem_cons.mpr ⟨lw_p92, List.forall_mem_cons.mpr ⟨lw_p93, List.forall_mem_cons.mpr ⟨lw_p94, List.forall_mem_cons.mpr ⟨lw_p95, fun _ h => absurd h List.not_mem_nil⟩⟩⟩⟩⟩⟩⟩⟩⟩⟩⟩⟩⟩⟩⟩⟩
theorem lw_p96 : lw_okq (⟨"WebCourtModel", "allPleas", "()I"⟩, 65) := ⟨⟨by decide +kernel, by decide +kernel⟩, List.mem_of_getElem? (i := 1222) (by decide +kernel), List.mem_of_getElem? (i := 1760) (by decide +kernel), List.mem_of_getElem? (i := 1761) (by decide +kernel)⟩
theorem lw_p97 : lw_okq (⟨"WebCourtModel", "fewestOf", "(II)I"⟩, 65) := ⟨⟨by decide +kernel, by decide +kernel⟩, List.mem_of_getElem? (i := 1222) (by decide +kernel), List.mem_of_getElem? (i := 1764) (by decide +kernel), List.mem_of_getElem? (i := 1765) (by decide +kernel)⟩
theorem lw_p98 : lw_okq (⟨"WebCourtModel", "toldOf", "(II)I"⟩, 65) := ⟨⟨by decide +kernel, by decide +kernel⟩, List.mem_of_getElem? (i := 1222) (by decide +kernel), List.mem_of_getElem? (i := 1768) (by decide +kernel), List.mem_of_getElem? (i := 1769) (by decide +kernel)⟩
theorem lw_p99 : lw_okq (⟨"WebCourtModel", "freeWith", "(II)I"⟩, 65) := ⟨⟨by decide +kernel, by decide +kernel⟩, List.mem_of_getElem? (i := 1222) (by decide +kernel), List.mem_of_getElem? (i := 1792) (by decide +kernel), List.mem_of_getElem? (i := 1793) (by decide +kernel)⟩
theorem lw_p100 : lw_okq (⟨"WebCourtModel", "layVerdicts", "(II)V"⟩, 65) := ⟨⟨by decide +kernel, by decide +kernel⟩, List.mem_of_getElem? (i := 1222) (by decide +kernel), List.mem_of_getElem? (i := 1816) (by decide +kernel), List.mem_of_getElem? (i := 1817) (by decide +kernel)⟩
theorem lw_p101 : lw_okq (⟨"WebCourtModel", "isRest", "(I)Z"⟩, 65) := ⟨⟨by decide +kernel, by decide +kernel⟩, List.mem_of_getElem? (i := 1222) (by decide +kernel), List.mem_of_getElem? (i := 1820) (by decide +kernel), List.mem_of_getElem? (i := 1821) (by decide +kernel)⟩
theorem lw_p102 : lw_okq (⟨"WebCourtModel", "layFar", "()V"⟩, 65) := ⟨⟨by decide +kernel, by decide +kernel⟩, List.mem_of_getElem? (i := 1222) (by decide +kernel), List.mem_of_getElem? (i := 1828) (by decide +kernel), List.mem_of_getElem? (i := 1829) (by decide +kernel)⟩
theorem lw_p103 : lw_okq (⟨"WebCourtModel", "reached", "()I"⟩, 65) := ⟨⟨by decide +kernel, by decide +kernel⟩, List.mem_of_getElem? (i := 1222) (by decide +kernel), List.mem_of_getElem? (i := 1836) (by decide +kernel), List.mem_of_getElem? (i := 1837) (by decide +kernel)⟩
theorem lw_p104 : lw_okq (⟨"WebCourtModel", "lastHeard", "(II)I"⟩, 65) := ⟨⟨by decide +kernel, by decide +kernel⟩, List.mem_of_getElem? (i := 1222) (by decide +kernel), List.mem_of_getElem? (i := 1851) (by decide +kernel), List.mem_of_getElem? (i := 1852) (by decide +kernel)⟩
theorem lw_p105 : lw_okq (⟨"WebCourtModel", "inOrder", "(III)I"⟩, 65) := ⟨⟨by decide +kernel, by decide +kernel⟩, List.mem_of_getElem? (i := 1222) (by decide +kernel), List.mem_of_getElem? (i := 1855) (by decide +kernel), List.mem_of_getElem? (i := 1856) (by decide +kernel)⟩
theorem lw_p106 : lw_okq (⟨"WebCourtModel", "layThought", "()V"⟩, 65) := ⟨⟨by decide +kernel, by decide +kernel⟩, List.mem_of_getElem? (i := 1222) (by decide +kernel), List.mem_of_getElem? (i := 1887) (by decide +kernel), List.mem_of_getElem? (i := 1888) (by decide +kernel)⟩
theorem lw_p107 : lw_okq (⟨"WebCourtModel", "doesFit", "(II)Z"⟩, 65) := ⟨⟨by decide +kernel, by decide +kernel⟩, List.mem_of_getElem? (i := 1222) (by decide +kernel), List.mem_of_getElem? (i := 1891) (by decide +kernel), List.mem_of_getElem? (i := 1892) (by decide +kernel)⟩
theorem lw_p108 : lw_okq (⟨"WebCourtModel", "mostOf", "(II)I"⟩, 65) := ⟨⟨by decide +kernel, by decide +kernel⟩, List.mem_of_getElem? (i := 1222) (by decide +kernel), List.mem_of_getElem? (i := 1904) (by decide +kernel), List.mem_of_getElem? (i := 1905) (by decide +kernel)⟩
def lw_privs_7 : List (MethodName × Nat) := [(⟨"WebCourtModel", "allPleas", "()I"⟩, 65), (⟨"WebCourtModel", "fewestOf", "(II)I"⟩, 65), (⟨"WebCourtModel", "toldOf", "(II)I"⟩, 65), (⟨"WebCourtModel", "freeWith", "(II)I"⟩, 65), (⟨"WebCourtModel", "layVerdicts", "(II)V"⟩, 65), (⟨"WebCourtModel", "isRest", "(I)Z"⟩, 65), (⟨"WebCourtModel", "layFar", "()V"⟩, 65), (⟨"WebCourtModel", "reached", "()I"⟩, 65), (⟨"WebCourtModel", "lastHeard", "(II)I"⟩, 65), (⟨"WebCourtModel", "inOrder", "(III)I"⟩, 65), (⟨"WebCourtModel", "layThought", "()V"⟩, 65), (⟨"WebCourtModel", "doesFit", "(II)Z"⟩, 65), (⟨"WebCourtModel", "mostOf", "(II)I"⟩, 65)]
theorem lw_r7 : ∀ q ∈ lw_privs_7, lw_okq q := List.forall_mem_cons.mpr ⟨lw_p96, List.forall_mem_cons.mpr ⟨lw_p97, List.forall_mem_cons.mpr ⟨lw_p98, List.forall_mem_cons.mpr ⟨lw_p99, List.forall_mem_cons.mpr ⟨lw_p100, List.forall_mem_cons.mpr ⟨lw_p101, List.forall_mem_cons.mpr ⟨lw_p102, List.forall_mem_cons.mpr ⟨lw_p103, List.forall_mem_cons.mpr ⟨lw_p104, List.forall_mem_cons.mpr ⟨lw_p105, List.forall_mem_cons.mpr ⟨lw_p106, List.forall_mem_cons.mpr ⟨lw_p107, List.forall_mem_cons.mpr ⟨lw_p108, fun _ h => absurd h List.not_mem_nil⟩⟩⟩⟩⟩⟩⟩⟩⟩⟩⟩⟩⟩
def lw_privs : List (MethodName × Nat) := lw_privs_1 ++ (lw_privs_2 ++ (lw_privs_3 ++ (lw_privs_4 ++ (lw_privs_5 ++ (lw_privs_6 ++ (lw_privs_7))))))
def lw_tbl : List Cond := k2_sels lw_privs ++ tables_1
theorem lw_privs_ok : ∀ q ∈ lw_privs, lw_okq q := by
  show ∀ q ∈ lw_privs_1 ++ (lw_privs_2 ++ (lw_privs_3 ++ (lw_privs_4 ++ (lw_privs_5 ++ (lw_privs_6 ++ (lw_privs_7)))))), lw_okq q
  exact List.forall_mem_append.mpr ⟨lw_r1, List.forall_mem_append.mpr ⟨lw_r2, List.forall_mem_append.mpr ⟨lw_r3, List.forall_mem_append.mpr ⟨lw_r4, List.forall_mem_append.mpr ⟨lw_r5, List.forall_mem_append.mpr ⟨lw_r6, lw_r7⟩⟩⟩⟩⟩⟩
end
section
def RX0 : String := "WebCourt$Acts"
def TX0 : u_T := fun k => match k with
  | 0 => ("WebCourt$Acts", "rows", "[[I", true)
  | 1 => ("WebCourt$Acts", "first", "I", false)
  | 2 => ("WebCourt$Acts", "done", "I", false)
  | _ => ("WebCourt$Acts", "undone", "I", false)
def tyX0 : Nat → FieldType := fun k => match k with
  | 0 => .array (.array .int)
  | 1 => .int
  | 2 => .int
  | _ => .int
abbrev wsX00 : List Cond := u_ws RX0 TX0 4
theorem nmX0 : ∀ a, a < 4 → ∀ b, b < 4 → a ≠ b → (TX0 a).2.1 ≠ (TX0 b).2.1 := by decide +kernel
theorem tyX0_ok : ∀ k, k < 4 → parseFieldDescriptor (TX0 k).2.2.1 = some (tyX0 k) := by decide +kernel
abbrev cX0_init : ByteArray := prog_2_method_1_code
def yX0_init : MethodName := ⟨RX0, "<init>", "()V"⟩
abbrev cX0_clear : ByteArray := prog_2_method_2_code
def yX0_clear : MethodName := ⟨RX0, "clear", "()V"⟩
abbrev cX0_keep : ByteArray := prog_2_method_3_code
def yX0_keep : MethodName := ⟨RX0, "keep", "([I)V"⟩
abbrev cX0_takeBack : ByteArray := prog_2_method_4_code
def yX0_takeBack : MethodName := ⟨RX0, "takeBack", "([I)Z"⟩
abbrev cX0_doAgain : ByteArray := prog_2_method_5_code
def yX0_doAgain : MethodName := ⟨RX0, "doAgain", "([I)Z"⟩
def RX1 : String := "WebCourt$Counsel"
def TX1 : u_T := fun k => match k with
  | 0 => ("WebCourt$Counsel", "court", "LWebCourt$Court;", true)
  | 1 => ("WebCourt$Counsel", "alone", "[I", true)
  | _ => ("WebCourt$Counsel", "otherAlone", "[I", true)
def tyX1 : Nat → FieldType := fun k => match k with
  | 0 => .object "WebCourt$Court"
  | 1 => .array .int
  | _ => .array .int
abbrev wsX10 : List Cond := u_ws RX1 TX1 3
theorem nmX1 : ∀ a, a < 3 → ∀ b, b < 3 → a ≠ b → (TX1 a).2.1 ≠ (TX1 b).2.1 := by decide +kernel
theorem tyX1_ok : ∀ k, k < 3 → parseFieldDescriptor (TX1 k).2.2.1 = some (tyX1 k) := by decide +kernel
abbrev cX1_init : ByteArray := prog_3_method_1_code
def yX1_init : MethodName := ⟨RX1, "<init>", "(LWebCourt$Court;)V"⟩
abbrev cX1_fewestPleas : ByteArray := prog_3_method_2_code
def yX1_fewestPleas : MethodName := ⟨RX1, "fewestPleas", "(II)I"⟩
abbrev cX1_withoutHope : ByteArray := prog_3_method_3_code
def yX1_withoutHope : MethodName := ⟨RX1, "withoutHope", "()I"⟩
abbrev cX1_hearingsTillFree : ByteArray := prog_3_method_4_code
def yX1_hearingsTillFree : MethodName := ⟨RX1, "hearingsTillFree", "(I)I"⟩
abbrev cX1_contraries : ByteArray := prog_3_method_5_code
def yX1_contraries : MethodName := ⟨RX1, "contraries", "()I"⟩
abbrev cX1_outcome : ByteArray := prog_3_method_6_code
def yX1_outcome : MethodName := ⟨RX1, "outcome", "(I)I"⟩
abbrev cX1_rests : ByteArray := prog_3_method_7_code
def yX1_rests : MethodName := ⟨RX1, "rests", "(II[I)I"⟩
abbrev cX1_isBest : ByteArray := prog_3_method_8_code
def yX1_isBest : MethodName := ⟨RX1, "isBest", "([IIII)Z"⟩
abbrev cX1_freeWithout : ByteArray := prog_3_method_9_code
def yX1_freeWithout : MethodName := ⟨RX1, "freeWithout", "(I)I"⟩
abbrev cX1_pleaToForbid : ByteArray := prog_3_method_10_code
def yX1_pleaToForbid : MethodName := ⟨RX1, "pleaToForbid", "()I"⟩
abbrev cX1_freeByExchange : ByteArray := prog_3_method_11_code
def yX1_freeByExchange : MethodName := ⟨RX1, "freeByExchange", "(II)I"⟩
abbrev cX1_bestExchange : ByteArray := prog_3_method_12_code
def yX1_bestExchange : MethodName := ⟨RX1, "bestExchange", "()I"⟩
abbrev cX1_pleaToTakeUp : ByteArray := prog_3_method_13_code
def yX1_pleaToTakeUp : MethodName := ⟨RX1, "pleaToTakeUp", "(I)I"⟩
abbrev cX1_freeNow : ByteArray := prog_3_method_14_code
def yX1_freeNow : MethodName := ⟨RX1, "freeNow", "()I"⟩
abbrev cX1_commonestPlea : ByteArray := prog_3_method_15_code
def yX1_commonestPlea : MethodName := ⟨RX1, "commonestPlea", "()I"⟩
abbrev cX1_greatestVerdict : ByteArray := prog_3_method_16_code
def yX1_greatestVerdict : MethodName := ⟨RX1, "greatestVerdict", "()I"⟩
abbrev cX1_freeingHour : ByteArray := prog_3_method_17_code
def yX1_freeingHour : MethodName := ⟨RX1, "freeingHour", "(I)I"⟩
abbrev cX1_freeAfter : ByteArray := prog_3_method_18_code
def yX1_freeAfter : MethodName := ⟨RX1, "freeAfter", "(I)I"⟩
def RX2 : String := "WebCourt$Court"
def TX2 : u_T := fun k => match k with
  | 0 => ("WebCourt$Court", "row", "[I", true)
  | _ => ("WebCourt$Court", "web", "LWebCourt$Web;", false)
def tyX2 : Nat → FieldType := fun k => match k with
  | 0 => .array .int
  | _ => .object "WebCourt$Web"
abbrev wsX20 : List Cond := u_ws RX2 TX2 2
theorem nmX2 : ∀ a, a < 2 → ∀ b, b < 2 → a ≠ b → (TX2 a).2.1 ≠ (TX2 b).2.1 := by decide +kernel
theorem tyX2_ok : ∀ k, k < 2 → parseFieldDescriptor (TX2 k).2.2.1 = some (tyX2 k) := by decide +kernel
abbrev cX2_init : ByteArray := prog_4_method_1_code
def yX2_init : MethodName := ⟨RX2, "<init>", "(LWebCourt$Web;)V"⟩
abbrev cX2_open : ByteArray := prog_4_method_2_code
def yX2_open : MethodName := ⟨RX2, "open", "(LWebCourt$Web;)V"⟩
abbrev cX2_hasKnot : ByteArray := prog_4_method_3_code
def yX2_hasKnot : MethodName := ⟨RX2, "hasKnot", "(I)Z"⟩
abbrev cX2_hasPlea : ByteArray := prog_4_method_4_code
def yX2_hasPlea : MethodName := ⟨RX2, "hasPlea", "(I)Z"⟩
abbrev cX2_hasCase : ByteArray := prog_4_method_5_code
def yX2_hasCase : MethodName := ⟨RX2, "hasCase", "(I)Z"⟩
abbrev cX2_isHeld : ByteArray := prog_4_method_6_code
def yX2_isHeld : MethodName := ⟨RX2, "isHeld", "(I)Z"⟩
abbrev cX2_pleads : ByteArray := prog_4_method_7_code
def yX2_pleads : MethodName := ⟨RX2, "pleads", "(II)Z"⟩
abbrev cX2_held : ByteArray := prog_4_method_8_code
def yX2_held : MethodName := ⟨RX2, "held", "()I"⟩
abbrev cX2_heldAt : ByteArray := prog_4_method_9_code
def yX2_heldAt : MethodName := ⟨RX2, "heldAt", "(I)I"⟩
abbrev cX2_nextTo : ByteArray := prog_4_method_10_code
def yX2_nextTo : MethodName := ⟨RX2, "nextTo", "(IZ)I"⟩
abbrev cX2_judgedAs : ByteArray := prog_4_method_11_code
def yX2_judgedAs : MethodName := ⟨RX2, "judgedAs", "(IIIII)I"⟩
abbrev cX2_judged : ByteArray := prog_4_method_12_code
def yX2_judged : MethodName := ⟨RX2, "judged", "(II)I"⟩
abbrev cX2_judgedNow : ByteArray := prog_4_method_13_code
def yX2_judgedNow : MethodName := ⟨RX2, "judgedNow", "(I)I"⟩
abbrev cX2_canGo : ByteArray := prog_4_method_14_code
def yX2_canGo : MethodName := ⟨RX2, "canGo", "(I)Z"⟩
abbrev cX2_go : ByteArray := prog_4_method_15_code
def yX2_go : MethodName := ⟨RX2, "go", "(I)I"⟩
abbrev cX2_drawsBack : ByteArray := prog_4_method_16_code
def yX2_drawsBack : MethodName := ⟨RX2, "drawsBack", "()Z"⟩
abbrev cX2_canBeHeard : ByteArray := prog_4_method_17_code
def yX2_canBeHeard : MethodName := ⟨RX2, "canBeHeard", "(I)Z"⟩
abbrev cX2_decide : ByteArray := prog_4_method_18_code
def yX2_decide : MethodName := ⟨RX2, "decide", "(I)I"⟩
def RX3 : String := "WebCourt$Hearsay"
def TX3 : u_T := fun k => match k with
  | 0 => ("WebCourt$Hearsay", "items", "[I", true)
  | 1 => ("WebCourt$Hearsay", "verdicts", "[I", true)
  | 2 => ("WebCourt$Hearsay", "are", "[Z", true)
  | 3 => ("WebCourt$Hearsay", "told", "[I", true)
  | 4 => ("WebCourt$Hearsay", "untold", "[I", true)
  | 5 => ("WebCourt$Hearsay", "count", "I", false)
  | _ => ("WebCourt$Hearsay", "time", "I", false)
def tyX3 : Nat → FieldType := fun k => match k with
  | 0 => .array .int
  | 1 => .array .int
  | 2 => .array .boolean
  | 3 => .array .int
  | 4 => .array .int
  | 5 => .int
  | _ => .int
abbrev wsX30 : List Cond := u_ws RX3 TX3 7
theorem nmX3 : ∀ a, a < 7 → ∀ b, b < 7 → a ≠ b → (TX3 a).2.1 ≠ (TX3 b).2.1 := by decide +kernel
theorem tyX3_ok : ∀ k, k < 7 → parseFieldDescriptor (TX3 k).2.2.1 = some (tyX3 k) := by decide +kernel
abbrev cX3_init : ByteArray := prog_5_method_1_code
def yX3_init : MethodName := ⟨RX3, "<init>", "()V"⟩
abbrev cX3_clear : ByteArray := prog_5_method_2_code
def yX3_clear : MethodName := ⟨RX3, "clear", "()V"⟩
abbrev cX3_tell : ByteArray := prog_5_method_3_code
def yX3_tell : MethodName := ⟨RX3, "tell", "(IIZ)I"⟩
abbrev cX3_takeBack : ByteArray := prog_5_method_4_code
def yX3_takeBack : MethodName := ⟨RX3, "takeBack", "(I)Z"⟩
abbrev cX3_goOn : ByteArray := prog_5_method_5_code
def yX3_goOn : MethodName := ⟨RX3, "goOn", "(I)I"⟩
abbrev cX3_counts : ByteArray := prog_5_method_6_code
def yX3_counts : MethodName := ⟨RX3, "counts", "(II)Z"⟩
abbrev cX3_fitting : ByteArray := prog_5_method_7_code
def yX3_fitting : MethodName := ⟨RX3, "fitting", "(LWebCourt$Web;I)I"⟩
abbrev cX3_allIsSo : ByteArray := prog_5_method_8_code
def yX3_allIsSo : MethodName := ⟨RX3, "allIsSo", "(LWebCourt$Web;II)Z"⟩
abbrev cX3_leastOf : ByteArray := prog_5_method_9_code
def yX3_leastOf : MethodName := ⟨RX3, "leastOf", "(I)I"⟩
abbrev cX3_greatestOf : ByteArray := prog_5_method_10_code
def yX3_greatestOf : MethodName := ⟨RX3, "greatestOf", "(I)I"⟩
abbrev cX3_mostLeft : ByteArray := prog_5_method_11_code
def yX3_mostLeft : MethodName := ⟨RX3, "mostLeft", "(LWebCourt$Web;II)I"⟩
abbrev cX3_caseToAsk : ByteArray := prog_5_method_12_code
def yX3_caseToAsk : MethodName := ⟨RX3, "caseToAsk", "(LWebCourt$Web;I)I"⟩
def RX4 : String := "WebCourt$Law"
def TX4 : u_T := fun k => match k with
  | 0 => ("WebCourt$Law", "codes", "[I", true)
  | 1 => ("WebCourt$Law", "stack", "[I", true)
  | 2 => ("WebCourt$Law", "length", "I", false)
  | 3 => ("WebCourt$Law", "top", "I", false)
  | 4 => ("WebCourt$Law", "units", "I", false)
  | 5 => ("WebCourt$Law", "pleads", "I", false)
  | 6 => ("WebCourt$Law", "many", "I", false)
  | 7 => ("WebCourt$Law", "before", "I", false)
  | 8 => ("WebCourt$Law", "stays", "I", false)
  | 9 => ("WebCourt$Law", "kin", "I", false)
  | _ => ("WebCourt$Law", "hour", "I", false)
def tyX4 : Nat → FieldType := fun k => match k with
  | 0 => .array .int
  | 1 => .array .int
  | 2 => .int
  | 3 => .int
  | 4 => .int
  | 5 => .int
  | 6 => .int
  | 7 => .int
  | 8 => .int
  | 9 => .int
  | _ => .int
abbrev wsX40 : List Cond := u_ws RX4 TX4 11
theorem nmX4 : ∀ a, a < 11 → ∀ b, b < 11 → a ≠ b → (TX4 a).2.1 ≠ (TX4 b).2.1 := by decide +kernel
theorem tyX4_ok : ∀ k, k < 11 → parseFieldDescriptor (TX4 k).2.2.1 = some (tyX4 k) := by decide +kernel
abbrev cX4_init : ByteArray := prog_6_method_1_code
def yX4_init : MethodName := ⟨RX4, "<init>", "()V"⟩
abbrev cX4_clear : ByteArray := prog_6_method_2_code
def yX4_clear : MethodName := ⟨RX4, "clear", "()V"⟩
abbrev cX4_isFull : ByteArray := prog_6_method_3_code
def yX4_isFull : MethodName := ⟨RX4, "isFull", "()Z"⟩
abbrev cX4_add : ByteArray := prog_6_method_4_code
def yX4_add : MethodName := ⟨RX4, "add", "(I)V"⟩
abbrev cX4_value : ByteArray := prog_6_method_5_code
def yX4_value : MethodName := ⟨RX4, "value", "(IIIIII)I"⟩
abbrev cX4_push : ByteArray := prog_6_method_6_code
def yX4_push : MethodName := ⟨RX4, "push", "(I)V"⟩
abbrev cX4_pop : ByteArray := prog_6_method_7_code
def yX4_pop : MethodName := ⟨RX4, "pop", "()I"⟩
abbrev cX4_isGiven : ByteArray := prog_6_method_8_code
def yX4_isGiven : MethodName := ⟨RX4, "isGiven", "(I)Z"⟩
abbrev cX4_given : ByteArray := prog_6_method_9_code
def yX4_given : MethodName := ⟨RX4, "given", "(I)I"⟩
abbrev cX4_joined : ByteArray := prog_6_method_10_code
def yX4_joined : MethodName := ⟨RX4, "joined", "(III)I"⟩
def RX5 : String := "WebCourt$Reader"
def TX5 : u_T := fun k => match k with
  | 0 => ("WebCourt$Reader", "tape", "LWebCourt$Tape;", true)
  | 1 => ("WebCourt$Reader", "web", "LWebCourt$Web;", false)
  | 2 => ("WebCourt$Reader", "fault", "I", false)
  | _ => ("WebCourt$Reader", "place", "I", false)
def tyX5 : Nat → FieldType := fun k => match k with
  | 0 => .object "WebCourt$Tape"
  | 1 => .object "WebCourt$Web"
  | 2 => .int
  | _ => .int
abbrev wsX50 : List Cond := u_ws RX5 TX5 4
theorem nmX5 : ∀ a, a < 4 → ∀ b, b < 4 → a ≠ b → (TX5 a).2.1 ≠ (TX5 b).2.1 := by decide +kernel
theorem tyX5_ok : ∀ k, k < 4 → parseFieldDescriptor (TX5 k).2.2.1 = some (tyX5 k) := by decide +kernel
abbrev cX5_init : ByteArray := prog_7_method_1_code
def yX5_init : MethodName := ⟨RX5, "<init>", "(LWebCourt$Tape;LWebCourt$Web;)V"⟩
abbrev cX5_read : ByteArray := prog_7_method_2_code
def yX5_read : MethodName := ⟨RX5, "read", "(LWebCourt$Web;)Z"⟩
abbrev cX5_readLine : ByteArray := prog_7_method_3_code
def yX5_readLine : MethodName := ⟨RX5, "readLine", "()Z"⟩
abbrev cX5_refuse : ByteArray := prog_7_method_4_code
def yX5_refuse : MethodName := ⟨RX5, "refuse", "(I)Z"⟩
abbrev cX5_skip : ByteArray := prog_7_method_5_code
def yX5_skip : MethodName := ⟨RX5, "skip", "(I)Z"⟩
abbrev cX5_openSort : ByteArray := prog_7_method_6_code
def yX5_openSort : MethodName := ⟨RX5, "openSort", "(II)Z"⟩
abbrev cX5_openOnce : ByteArray := prog_7_method_7_code
def yX5_openOnce : MethodName := ⟨RX5, "openOnce", "()Z"⟩
abbrev cX5_newName : ByteArray := prog_7_method_8_code
def yX5_newName : MethodName := ⟨RX5, "newName", "([JI)Z"⟩
abbrev cX5_knownName : ByteArray := prog_7_method_9_code
def yX5_knownName : MethodName := ⟨RX5, "knownName", "([JI)I"⟩
abbrev cX5_indexOf : ByteArray := prog_7_method_10_code
def yX5_indexOf : MethodName := ⟨RX5, "indexOf", "([JIJ)I"⟩
abbrev cX5_numberTo : ByteArray := prog_7_method_11_code
def yX5_numberTo : MethodName := ⟨RX5, "numberTo", "(I)I"⟩
abbrev cX5_readKnot : ByteArray := prog_7_method_12_code
def yX5_readKnot : MethodName := ⟨RX5, "readKnot", "()Z"⟩
abbrev cX5_readThread : ByteArray := prog_7_method_13_code
def yX5_readThread : MethodName := ⟨RX5, "readThread", "()Z"⟩
abbrev cX5_readPlea : ByteArray := prog_7_method_14_code
def yX5_readPlea : MethodName := ⟨RX5, "readPlea", "()Z"⟩
abbrev cX5_readCase : ByteArray := prog_7_method_15_code
def yX5_readCase : MethodName := ⟨RX5, "readCase", "()Z"⟩
abbrev cX5_readPleas : ByteArray := prog_7_method_16_code
def yX5_readPleas : MethodName := ⟨RX5, "readPleas", "()I"⟩
abbrev cX5_readBench : ByteArray := prog_7_method_17_code
def yX5_readBench : MethodName := ⟨RX5, "readBench", "()Z"⟩
abbrev cX5_readBack : ByteArray := prog_7_method_18_code
def yX5_readBack : MethodName := ⟨RX5, "readBack", "()Z"⟩
abbrev cX5_readDraw : ByteArray := prog_7_method_19_code
def yX5_readDraw : MethodName := ⟨RX5, "readDraw", "()Z"⟩
abbrev cX5_readFormula : ByteArray := prog_7_method_20_code
def yX5_readFormula : MethodName := ⟨RX5, "readFormula", "(I)Z"⟩
abbrev cX5_readBoth : ByteArray := prog_7_method_21_code
def yX5_readBoth : MethodName := ⟨RX5, "readBoth", "(I)Z"⟩
abbrev cX5_readOne : ByteArray := prog_7_method_22_code
def yX5_readOne : MethodName := ⟨RX5, "readOne", "(I)Z"⟩
abbrev cX5_readNot : ByteArray := prog_7_method_23_code
def yX5_readNot : MethodName := ⟨RX5, "readNot", "(I)Z"⟩
abbrev cX5_readSum : ByteArray := prog_7_method_24_code
def yX5_readSum : MethodName := ⟨RX5, "readSum", "(I)Z"⟩
abbrev cX5_readProduct : ByteArray := prog_7_method_25_code
def yX5_readProduct : MethodName := ⟨RX5, "readProduct", "(I)Z"⟩
abbrev cX5_isTimes : ByteArray := prog_7_method_26_code
def yX5_isTimes : MethodName := ⟨RX5, "isTimes", "(I)Z"⟩
abbrev cX5_readUnit : ByteArray := prog_7_method_27_code
def yX5_readUnit : MethodName := ⟨RX5, "readUnit", "(I)Z"⟩
abbrev cX5_readInner : ByteArray := prog_7_method_28_code
def yX5_readInner : MethodName := ⟨RX5, "readInner", "(I)Z"⟩
def RX6 : String := "WebCourt$Rounds"
def TX6 : u_T := fun k => match k with
  | 0 => ("WebCourt$Rounds", "court", "LWebCourt$Court;", true)
  | 1 => ("WebCourt$Rounds", "ways", "LWebCourt$Ways;", true)
  | _ => ("WebCourt$Rounds", "behind", "[I", true)
def tyX6 : Nat → FieldType := fun k => match k with
  | 0 => .object "WebCourt$Court"
  | 1 => .object "WebCourt$Ways"
  | _ => .array .int
abbrev wsX60 : List Cond := u_ws RX6 TX6 3
theorem nmX6 : ∀ a, a < 3 → ∀ b, b < 3 → a ≠ b → (TX6 a).2.1 ≠ (TX6 b).2.1 := by decide +kernel
theorem tyX6_ok : ∀ k, k < 3 → parseFieldDescriptor (TX6 k).2.2.1 = some (tyX6 k) := by decide +kernel
abbrev cX6_init : ByteArray := prog_8_method_1_code
def yX6_init : MethodName := ⟨RX6, "<init>", "(LWebCourt$Court;LWebCourt$Ways;)V"⟩
abbrev cX6_measure : ByteArray := prog_8_method_2_code
def yX6_measure : MethodName := ⟨RX6, "measure", "()V"⟩
abbrev cX6_fewestHours : ByteArray := prog_8_method_3_code
def yX6_fewestHours : MethodName := ⟨RX6, "fewestHours", "(I)I"⟩
abbrev cX6_hoursFrom : ByteArray := prog_8_method_4_code
def yX6_hoursFrom : MethodName := ⟨RX6, "hoursFrom", "(II)I"⟩
abbrev cX6_hoursBy : ByteArray := prog_8_method_5_code
def yX6_hoursBy : MethodName := ⟨RX6, "hoursBy", "(III)I"⟩
abbrev cX6_order : ByteArray := prog_8_method_6_code
def yX6_order : MethodName := ⟨RX6, "order", "(I[I)I"⟩
abbrev cX6_firstBest : ByteArray := prog_8_method_7_code
def yX6_firstBest : MethodName := ⟨RX6, "firstBest", "(II)I"⟩
abbrev cX6_mostHeard : ByteArray := prog_8_method_8_code
def yX6_mostHeard : MethodName := ⟨RX6, "mostHeard", "(II)I"⟩
def RX7 : String := "WebCourt$Tape"
def TX7 : u_T := fun k => match k with
  | 0 => ("WebCourt$Tape", "bytes", "[B", true)
  | 1 => ("WebCourt$Tape", "length", "I", false)
  | 2 => ("WebCourt$Tape", "next", "I", false)
  | 3 => ("WebCourt$Tape", "start", "I", false)
  | 4 => ("WebCourt$Tape", "kind", "I", false)
  | 5 => ("WebCourt$Tape", "word", "J", false)
  | _ => ("WebCourt$Tape", "number", "I", false)
def tyX7 : Nat → FieldType := fun k => match k with
  | 0 => .array .byte
  | 1 => .int
  | 2 => .int
  | 3 => .int
  | 4 => .int
  | 5 => .long
  | _ => .int
abbrev wsX70 : List Cond := u_ws RX7 TX7 7
theorem nmX7 : ∀ a, a < 7 → ∀ b, b < 7 → a ≠ b → (TX7 a).2.1 ≠ (TX7 b).2.1 := by decide +kernel
theorem tyX7_ok : ∀ k, k < 7 → parseFieldDescriptor (TX7 k).2.2.1 = some (tyX7 k) := by decide +kernel
abbrev cX7_init : ByteArray := prog_9_method_1_code
def yX7_init : MethodName := ⟨RX7, "<init>", "()V"⟩
abbrev cX7_put : ByteArray := prog_9_method_2_code
def yX7_put : MethodName := ⟨RX7, "put", "(I)V"⟩
abbrev cX7_rewind : ByteArray := prog_9_method_3_code
def yX7_rewind : MethodName := ⟨RX7, "rewind", "()V"⟩
abbrev cX7_advance : ByteArray := prog_9_method_4_code
def yX7_advance : MethodName := ⟨RX7, "advance", "()V"⟩
abbrev cX7_scanWord : ByteArray := prog_9_method_5_code
def yX7_scanWord : MethodName := ⟨RX7, "scanWord", "()V"⟩
abbrev cX7_scanNumber : ByteArray := prog_9_method_6_code
def yX7_scanNumber : MethodName := ⟨RX7, "scanNumber", "()V"⟩
abbrev cX7_wordKind : ByteArray := prog_9_method_7_code
def yX7_wordKind : MethodName := ⟨RX7, "wordKind", "()I"⟩
abbrev cX7_isBlank : ByteArray := prog_9_method_8_code
def yX7_isBlank : MethodName := ⟨RX7, "isBlank", "(I)Z"⟩
abbrev cX7_isLetter : ByteArray := prog_9_method_9_code
def yX7_isLetter : MethodName := ⟨RX7, "isLetter", "(I)Z"⟩
abbrev cX7_isDigit : ByteArray := prog_9_method_10_code
def yX7_isDigit : MethodName := ⟨RX7, "isDigit", "(I)Z"⟩
abbrev cX7_isSign : ByteArray := prog_9_method_11_code
def yX7_isSign : MethodName := ⟨RX7, "isSign", "(I)Z"⟩
def RX8 : String := "WebCourt$Ways"
def TX8 : u_T := fun k => match k with
  | 0 => ("WebCourt$Ways", "court", "LWebCourt$Court;", true)
  | _ => ("WebCourt$Ways", "between", "[I", true)
def tyX8 : Nat → FieldType := fun k => match k with
  | 0 => .object "WebCourt$Court"
  | _ => .array .int
abbrev wsX80 : List Cond := u_ws RX8 TX8 2
theorem nmX8 : ∀ a, a < 2 → ∀ b, b < 2 → a ≠ b → (TX8 a).2.1 ≠ (TX8 b).2.1 := by decide +kernel
theorem tyX8_ok : ∀ k, k < 2 → parseFieldDescriptor (TX8 k).2.2.1 = some (tyX8 k) := by decide +kernel
abbrev cX8_init : ByteArray := prog_10_method_1_code
def yX8_init : MethodName := ⟨RX8, "<init>", "(LWebCourt$Court;)V"⟩
abbrev cX8_hours : ByteArray := prog_10_method_2_code
def yX8_hours : MethodName := ⟨RX8, "hours", "(II)I"⟩
abbrev cX8_measure : ByteArray := prog_10_method_3_code
def yX8_measure : MethodName := ⟨RX8, "measure", "()V"⟩
abbrev cX8_shortenOver : ByteArray := prog_10_method_4_code
def yX8_shortenOver : MethodName := ⟨RX8, "shortenOver", "(I)V"⟩
abbrev cX8_walk : ByteArray := prog_10_method_5_code
def yX8_walk : MethodName := ⟨RX8, "walk", "(I[I)I"⟩
abbrev cX8_stepNearer : ByteArray := prog_10_method_6_code
def yX8_stepNearer : MethodName := ⟨RX8, "stepNearer", "(III)I"⟩
abbrev cX8_reached : ByteArray := prog_10_method_7_code
def yX8_reached : MethodName := ⟨RX8, "reached", "(I)I"⟩
abbrev cX8_knotsWithout : ByteArray := prog_10_method_8_code
def yX8_knotsWithout : MethodName := ⟨RX8, "knotsWithout", "(I)I"⟩
abbrev cX8_bridgeLine : ByteArray := prog_10_method_9_code
def yX8_bridgeLine : MethodName := ⟨RX8, "bridgeLine", "()I"⟩
def RX9 : String := "WebCourt$Web"
def TX9 : u_T := fun k => match k with
  | 0 => ("WebCourt$Web", "knotNames", "[J", true)
  | 1 => ("WebCourt$Web", "pleaNames", "[J", true)
  | 2 => ("WebCourt$Web", "caseNames", "[J", true)
  | 3 => ("WebCourt$Web", "lineFrom", "[I", true)
  | 4 => ("WebCourt$Web", "lineTo", "[I", true)
  | 5 => ("WebCourt$Web", "strong", "[I", true)
  | 6 => ("WebCourt$Web", "caseKnots", "[I", true)
  | 7 => ("WebCourt$Web", "casePleas", "[I", true)
  | 8 => ("WebCourt$Web", "law", "LWebCourt$Law;", true)
  | 9 => ("WebCourt$Web", "knots", "I", false)
  | 10 => ("WebCourt$Web", "lines", "I", false)
  | 11 => ("WebCourt$Web", "pleas", "I", false)
  | 12 => ("WebCourt$Web", "cases", "I", false)
  | 13 => ("WebCourt$Web", "sticky", "I", false)
  | 14 => ("WebCourt$Web", "bench", "I", false)
  | 15 => ("WebCourt$Web", "back", "I", false)
  | 16 => ("WebCourt$Web", "draw", "I", false)
  | _ => ("WebCourt$Web", "toldOnce", "I", false)
def tyX9 : Nat → FieldType := fun k => match k with
  | 0 => .array .long
  | 1 => .array .long
  | 2 => .array .long
  | 3 => .array .int
  | 4 => .array .int
  | 5 => .array .int
  | 6 => .array .int
  | 7 => .array .int
  | 8 => .object "WebCourt$Law"
  | 9 => .int
  | 10 => .int
  | 11 => .int
  | 12 => .int
  | 13 => .int
  | 14 => .int
  | 15 => .int
  | 16 => .int
  | _ => .int
abbrev wsX90 : List Cond := u_ws RX9 TX9 18
theorem nmX9 : ∀ a, a < 18 → ∀ b, b < 18 → a ≠ b → (TX9 a).2.1 ≠ (TX9 b).2.1 := by decide +kernel
theorem tyX9_ok : ∀ k, k < 18 → parseFieldDescriptor (TX9 k).2.2.1 = some (tyX9 k) := by decide +kernel
abbrev cX9_init : ByteArray := prog_11_method_1_code
def yX9_init : MethodName := ⟨RX9, "<init>", "()V"⟩
abbrev cX9_clear : ByteArray := prog_11_method_2_code
def yX9_clear : MethodName := ⟨RX9, "clear", "()V"⟩
abbrev cX9_hasLine : ByteArray := prog_11_method_3_code
def yX9_hasLine : MethodName := ⟨RX9, "hasLine", "(II)Z"⟩
abbrev cX9_strengthOf : ByteArray := prog_11_method_4_code
def yX9_strengthOf : MethodName := ⟨RX9, "strengthOf", "(I)I"⟩
abbrev cX9_kinOf : ByteArray := prog_11_method_5_code
def yX9_kinOf : MethodName := ⟨RX9, "kinOf", "(II)I"⟩
abbrev cX9_firstVerdict : ByteArray := prog_11_method_6_code
def yX9_firstVerdict : MethodName := ⟨RX9, "firstVerdict", "(II)I"⟩
def RX10 : String := "WebCourt"
def TX10 : u_T := fun k => match k with
  | 0 => ("WebCourt", "tape", "LWebCourt$Tape;", true)
  | 1 => ("WebCourt", "reader", "LWebCourt$Reader;", true)
  | 2 => ("WebCourt", "court", "LWebCourt$Court;", true)
  | 3 => ("WebCourt", "acts", "LWebCourt$Acts;", true)
  | 4 => ("WebCourt", "ways", "LWebCourt$Ways;", true)
  | 5 => ("WebCourt", "rounds", "LWebCourt$Rounds;", true)
  | 6 => ("WebCourt", "counsel", "LWebCourt$Counsel;", true)
  | 7 => ("WebCourt", "hearsay", "LWebCourt$Hearsay;", true)
  | 8 => ("WebCourt", "boxes", "[[I", true)
  | 9 => ("WebCourt", "lying", "[I", true)
  | 10 => ("WebCourt", "lyingCount", "I", false)
  | 11 => ("WebCourt", "boxesKept", "I", false)
  | _ => ("WebCourt", "draft", "LWebCourt$Web;", false)
def tyX10 : Nat → FieldType := fun k => match k with
  | 0 => .object "WebCourt$Tape"
  | 1 => .object "WebCourt$Reader"
  | 2 => .object "WebCourt$Court"
  | 3 => .object "WebCourt$Acts"
  | 4 => .object "WebCourt$Ways"
  | 5 => .object "WebCourt$Rounds"
  | 6 => .object "WebCourt$Counsel"
  | 7 => .object "WebCourt$Hearsay"
  | 8 => .array (.array .int)
  | 9 => .array .int
  | 10 => .int
  | 11 => .int
  | _ => .object "WebCourt$Web"
abbrev wsX100 : List Cond := u_ws RX10 TX10 13
theorem nmX10 : ∀ a, a < 13 → ∀ b, b < 13 → a ≠ b → (TX10 a).2.1 ≠ (TX10 b).2.1 := by decide +kernel
theorem tyX10_ok : ∀ k, k < 13 → parseFieldDescriptor (TX10 k).2.2.1 = some (tyX10 k) := by decide +kernel
abbrev cX10_init : ByteArray := prog_1_method_1_code
def yX10_init : MethodName := ⟨RX10, "<init>", "()V"⟩
abbrev cX10_feed : ByteArray := prog_1_method_2_code
def yX10_feed : MethodName := ⟨RX10, "feed", "(IIIII)I"⟩
abbrev cX10_end : ByteArray := prog_1_method_3_code
def yX10_end : MethodName := ⟨RX10, "end", "(I)I"⟩
abbrev cX10_web : ByteArray := prog_1_method_4_code
def yX10_web : MethodName := ⟨RX10, "web", "()I"⟩
abbrev cX10_fault : ByteArray := prog_1_method_5_code
def yX10_fault : MethodName := ⟨RX10, "fault", "(I)I"⟩
abbrev cX10_knot : ByteArray := prog_1_method_6_code
def yX10_knot : MethodName := ⟨RX10, "knot", "(II)I"⟩
abbrev cX10_plea : ByteArray := prog_1_method_7_code
def yX10_plea : MethodName := ⟨RX10, "plea", "(I)I"⟩
abbrev cX10_item : ByteArray := prog_1_method_8_code
def yX10_item : MethodName := ⟨RX10, "item", "(II)I"⟩
abbrev cX10_verdict : ByteArray := prog_1_method_9_code
def yX10_verdict : MethodName := ⟨RX10, "verdict", "(I)I"⟩
abbrev cX10_hour : ByteArray := prog_1_method_10_code
def yX10_hour : MethodName := ⟨RX10, "hour", "(I)I"⟩
abbrev cX10_hear : ByteArray := prog_1_method_11_code
def yX10_hear : MethodName := ⟨RX10, "hear", "(I)I"⟩
abbrev cX10_plead : ByteArray := prog_1_method_12_code
def yX10_plead : MethodName := ⟨RX10, "plead", "(II)I"⟩
abbrev cX10_drop : ByteArray := prog_1_method_13_code
def yX10_drop : MethodName := ⟨RX10, "drop", "(II)I"⟩
abbrev cX10_turnPlea : ByteArray := prog_1_method_14_code
def yX10_turnPlea : MethodName := ⟨RX10, "turnPlea", "(II)I"⟩
abbrev cX10_grab : ByteArray := prog_1_method_15_code
def yX10_grab : MethodName := ⟨RX10, "grab", "(I)I"⟩
abbrev cX10_spin : ByteArray := prog_1_method_16_code
def yX10_spin : MethodName := ⟨RX10, "spin", "(I)I"⟩
abbrev cX10_undo : ByteArray := prog_1_method_17_code
def yX10_undo : MethodName := ⟨RX10, "undo", "()Z"⟩
abbrev cX10_redo : ByteArray := prog_1_method_18_code
def yX10_redo : MethodName := ⟨RX10, "redo", "()Z"⟩
abbrev cX10_shortest : ByteArray := prog_1_method_19_code
def yX10_shortest : MethodName := ⟨RX10, "shortest", "(II)I"⟩
abbrev cX10_honest : ByteArray := prog_1_method_20_code
def yX10_honest : MethodName := ⟨RX10, "honest", "(II)I"⟩
abbrev cX10_fewestOf : ByteArray := prog_1_method_21_code
def yX10_fewestOf : MethodName := ⟨RX10, "fewestOf", "(III)I"⟩
abbrev cX10_way : ByteArray := prog_1_method_22_code
def yX10_way : MethodName := ⟨RX10, "way", "(I)I"⟩
abbrev cX10_round : ByteArray := prog_1_method_23_code
def yX10_round : MethodName := ⟨RX10, "round", "()I"⟩
abbrev cX10_term : ByteArray := prog_1_method_24_code
def yX10_term : MethodName := ⟨RX10, "term", "(I)I"⟩
abbrev cX10_leave : ByteArray := prog_1_method_25_code
def yX10_leave : MethodName := ⟨RX10, "leave", "(I)I"⟩
abbrev cX10_contrary : ByteArray := prog_1_method_26_code
def yX10_contrary : MethodName := ⟨RX10, "contrary", "(I)I"⟩
abbrev cX10_memberOf : ByteArray := prog_1_method_27_code
def yX10_memberOf : MethodName := ⟨RX10, "memberOf", "(II)I"⟩
abbrev cX10_hopeless : ByteArray := prog_1_method_28_code
def yX10_hopeless : MethodName := ⟨RX10, "hopeless", "()I"⟩
abbrev cX10_rivals : ByteArray := prog_1_method_29_code
def yX10_rivals : MethodName := ⟨RX10, "rivals", "(II)I"⟩
abbrev cX10_bridge : ByteArray := prog_1_method_30_code
def yX10_bridge : MethodName := ⟨RX10, "bridge", "(I)I"⟩
abbrev cX10_forbid : ByteArray := prog_1_method_31_code
def yX10_forbid : MethodName := ⟨RX10, "forbid", "(I)I"⟩
abbrev cX10_swap : ByteArray := prog_1_method_32_code
def yX10_swap : MethodName := ⟨RX10, "swap", "(I)I"⟩
abbrev cX10_advice : ByteArray := prog_1_method_33_code
def yX10_advice : MethodName := ⟨RX10, "advice", "(II)I"⟩
abbrev cX10_free : ByteArray := prog_1_method_34_code
def yX10_free : MethodName := ⟨RX10, "free", "()I"⟩
abbrev cX10_reach : ByteArray := prog_1_method_35_code
def yX10_reach : MethodName := ⟨RX10, "reach", "()I"⟩
abbrev cX10_fashion : ByteArray := prog_1_method_36_code
def yX10_fashion : MethodName := ⟨RX10, "fashion", "()I"⟩
abbrev cX10_likeliest : ByteArray := prog_1_method_37_code
def yX10_likeliest : MethodName := ⟨RX10, "likeliest", "()I"⟩
abbrev cX10_loophole : ByteArray := prog_1_method_38_code
def yX10_loophole : MethodName := ⟨RX10, "loophole", "(I)I"⟩
abbrev cX10_precedent : ByteArray := prog_1_method_39_code
def yX10_precedent : MethodName := ⟨RX10, "precedent", "(I)I"⟩
abbrev cX10_odds : ByteArray := prog_1_method_40_code
def yX10_odds : MethodName := ⟨RX10, "odds", "(II)I"⟩
abbrev cX10_commonDivisor : ByteArray := prog_1_method_41_code
def yX10_commonDivisor : MethodName := ⟨RX10, "commonDivisor", "(II)I"⟩
abbrev cX10_power : ByteArray := prog_1_method_42_code
def yX10_power : MethodName := ⟨RX10, "power", "(II)I"⟩
abbrev cX10_lies : ByteArray := prog_1_method_43_code
def yX10_lies : MethodName := ⟨RX10, "lies", "(I)I"⟩
abbrev cX10_heard : ByteArray := prog_1_method_44_code
def yX10_heard : MethodName := ⟨RX10, "heard", "(IIZ)I"⟩
abbrev cX10_untell : ByteArray := prog_1_method_45_code
def yX10_untell : MethodName := ⟨RX10, "untell", "(I)Z"⟩
abbrev cX10_later : ByteArray := prog_1_method_46_code
def yX10_later : MethodName := ⟨RX10, "later", "(I)I"⟩
abbrev cX10_fits : ByteArray := prog_1_method_47_code
def yX10_fits : MethodName := ⟨RX10, "fits", "(I)I"⟩
abbrev cX10_sure : ByteArray := prog_1_method_48_code
def yX10_sure : MethodName := ⟨RX10, "sure", "(II)I"⟩
abbrev cX10_ask : ByteArray := prog_1_method_49_code
def yX10_ask : MethodName := ⟨RX10, "ask", "(II)I"⟩
abbrev cX10_image : ByteArray := prog_1_method_50_code
def yX10_image : MethodName := ⟨RX10, "image", "(I)I"⟩
abbrev cX10_restore : ByteArray := prog_1_method_51_code
def yX10_restore : MethodName := ⟨RX10, "restore", "(I)I"⟩
abbrev cX10_about : ByteArray := prog_1_method_52_code
def yX10_about : MethodName := ⟨RX10, "about", "(I)I"⟩
abbrev cX10_aboutRest : ByteArray := prog_1_method_53_code
def yX10_aboutRest : MethodName := ⟨RX10, "aboutRest", "(I)I"⟩
abbrev cX10_copyRow : ByteArray := prog_1_method_54_code
def yX10_copyRow : MethodName := ⟨RX10, "copyRow", "([I[I)V"⟩
def RX11 : String := "WebCourtModel"
def TX11 : u_T := fun k => match k with
  | 0 => ("WebCourtModel", "tape", "[B", true)
  | 1 => ("WebCourtModel", "text", "[B", true)
  | 2 => ("WebCourtModel", "taped", "I", false)
  | 3 => ("WebCourtModel", "size", "I", false)
  | 4 => ("WebCourtModel", "faultKind", "I", false)
  | 5 => ("WebCourtModel", "faultPlace", "I", false)
  | 6 => ("WebCourtModel", "at", "I", false)
  | 7 => ("WebCourtModel", "end", "I", false)
  | 8 => ("WebCourtModel", "token", "I", false)
  | 9 => ("WebCourtModel", "number", "I", false)
  | 10 => ("WebCourtModel", "name", "J", false)
  | 11 => ("WebCourtModel", "knots", "[I", true)
  | 12 => ("WebCourtModel", "lines", "[I", true)
  | 13 => ("WebCourtModel", "pleas", "[I", true)
  | 14 => ("WebCourtModel", "cases", "[I", true)
  | 15 => ("WebCourtModel", "units", "[I", true)
  | 16 => ("WebCourtModel", "bench", "[I", true)
  | 17 => ("WebCourtModel", "back", "[I", true)
  | 18 => ("WebCourtModel", "draw", "[I", true)
  | 19 => ("WebCourtModel", "told", "[I", true)
  | 20 => ("WebCourtModel", "stickyTold", "[I", true)
  | 21 => ("WebCourtModel", "oneEnd", "[I", true)
  | 22 => ("WebCourtModel", "otherEnd", "[I", true)
  | 23 => ("WebCourtModel", "strong", "[I", true)
  | 24 => ("WebCourtModel", "knotOf", "[I", true)
  | 25 => ("WebCourtModel", "pleaTold", "[I", true)
  | 26 => ("WebCourtModel", "ruleFrom", "[I", true)
  | 27 => ("WebCourtModel", "ruleTo", "[I", true)
  | 28 => ("WebCourtModel", "kName", "[J", true)
  | 29 => ("WebCourtModel", "pName", "[J", true)
  | 30 => ("WebCourtModel", "cName", "[J", true)
  | 31 => ("WebCourtModel", "code", "[I", true)
  | 32 => ("WebCourtModel", "codeNumber", "[I", true)
  | 33 => ("WebCourtModel", "eWhat", "[I", true)
  | 34 => ("WebCourtModel", "eSign", "[I", true)
  | 35 => ("WebCourtModel", "pile", "[I", true)
  | 36 => ("WebCourtModel", "bank", "I", false)
  | 37 => ("WebCourtModel", "rb", "I", false)
  | 38 => ("WebCourtModel", "codes", "I", false)
  | 39 => ("WebCourtModel", "within", "I", false)
  | 40 => ("WebCourtModel", "piled", "I", false)
  | 41 => ("WebCourtModel", "unitsInRule", "I", false)
  | 42 => ("WebCourtModel", "askCase", "I", false)
  | 43 => ("WebCourtModel", "askPleas", "I", false)
  | 44 => ("WebCourtModel", "all", "[I", true)
  | 45 => ("WebCourtModel", "thought", "I", false)
  | 46 => ("WebCourtModel", "was", "[I", true)
  | 47 => ("WebCourtModel", "acts", "I", false)
  | 48 => ("WebCourtModel", "undone", "I", false)
  | 49 => ("WebCourtModel", "laidRow", "[I", true)
  | 50 => ("WebCourtModel", "laid", "I", false)
  | 51 => ("WebCourtModel", "verdicts", "[I", true)
  | 52 => ("WebCourtModel", "far", "[I", true)
  | 53 => ("WebCourtModel", "verdictIf", "[I", true)
  | 54 => ("WebCourtModel", "sCase", "[I", true)
  | 55 => ("WebCourtModel", "sMuch", "[I", true)
  | 56 => ("WebCourtModel", "sIs", "[I", true)
  | 57 => ("WebCourtModel", "sTold", "[I", true)
  | 58 => ("WebCourtModel", "sUntold", "[I", true)
  | 59 => ("WebCourtModel", "parts", "[I", true)
  | 60 => ("WebCourtModel", "kept", "[I", true)
  | 61 => ("WebCourtModel", "heards", "I", false)
  | 62 => ("WebCourtModel", "time", "I", false)
  | 63 => ("WebCourtModel", "boxAll", "[I", true)
  | _ => ("WebCourtModel", "isBoxed", "[Z", true)
def tyX11 : Nat → FieldType := fun k => match k with
  | 0 => .array .byte
  | 1 => .array .byte
  | 2 => .int
  | 3 => .int
  | 4 => .int
  | 5 => .int
  | 6 => .int
  | 7 => .int
  | 8 => .int
  | 9 => .int
  | 10 => .long
  | 11 => .array .int
  | 12 => .array .int
  | 13 => .array .int
  | 14 => .array .int
  | 15 => .array .int
  | 16 => .array .int
  | 17 => .array .int
  | 18 => .array .int
  | 19 => .array .int
  | 20 => .array .int
  | 21 => .array .int
  | 22 => .array .int
  | 23 => .array .int
  | 24 => .array .int
  | 25 => .array .int
  | 26 => .array .int
  | 27 => .array .int
  | 28 => .array .long
  | 29 => .array .long
  | 30 => .array .long
  | 31 => .array .int
  | 32 => .array .int
  | 33 => .array .int
  | 34 => .array .int
  | 35 => .array .int
  | 36 => .int
  | 37 => .int
  | 38 => .int
  | 39 => .int
  | 40 => .int
  | 41 => .int
  | 42 => .int
  | 43 => .int
  | 44 => .array .int
  | 45 => .int
  | 46 => .array .int
  | 47 => .int
  | 48 => .int
  | 49 => .array .int
  | 50 => .int
  | 51 => .array .int
  | 52 => .array .int
  | 53 => .array .int
  | 54 => .array .int
  | 55 => .array .int
  | 56 => .array .int
  | 57 => .array .int
  | 58 => .array .int
  | 59 => .array .int
  | 60 => .array .int
  | 61 => .int
  | 62 => .int
  | 63 => .array .int
  | _ => .array .boolean
abbrev wsX110 : List Cond := u_ws RX11 TX11 65
theorem nmX11 : ∀ a, a < 65 → ∀ b, b < 65 → a ≠ b → (TX11 a).2.1 ≠ (TX11 b).2.1 := by decide +kernel
theorem tyX11_ok : ∀ k, k < 65 → parseFieldDescriptor (TX11 k).2.2.1 = some (tyX11 k) := by decide +kernel
abbrev cX11_init : ByteArray := prog_13_method_1_code
def yX11_init : MethodName := ⟨RX11, "<init>", "()V"⟩
abbrev cX11_sign : ByteArray := prog_13_method_2_code
def yX11_sign : MethodName := ⟨RX11, "sign", "(I)I"⟩
abbrev cX11_isLetter : ByteArray := prog_13_method_3_code
def yX11_isLetter : MethodName := ⟨RX11, "isLetter", "(I)Z"⟩
abbrev cX11_isDigit : ByteArray := prog_13_method_4_code
def yX11_isDigit : MethodName := ⟨RX11, "isDigit", "(I)Z"⟩
abbrev cX11_fails : ByteArray := prog_13_method_5_code
def yX11_fails : MethodName := ⟨RX11, "fails", "(II)V"⟩
abbrev cX11_isGood : ByteArray := prog_13_method_6_code
def yX11_isGood : MethodName := ⟨RX11, "isGood", "()Z"⟩
abbrev cX11_isKept : ByteArray := prog_13_method_7_code
def yX11_isKept : MethodName := ⟨RX11, "isKept", "(J)Z"⟩
abbrev cX11_isSign : ByteArray := prog_13_method_8_code
def yX11_isSign : MethodName := ⟨RX11, "isSign", "(I)Z"⟩
abbrev cX11_goOn : ByteArray := prog_13_method_9_code
def yX11_goOn : MethodName := ⟨RX11, "goOn", "()V"⟩
abbrev cX11_isSignHere : ByteArray := prog_13_method_10_code
def yX11_isSignHere : MethodName := ⟨RX11, "isSignHere", "(I)Z"⟩
abbrev cX11_isWord : ByteArray := prog_13_method_11_code
def yX11_isWord : MethodName := ⟨RX11, "isWord", "(J)Z"⟩
abbrev cX11_misplaced : ByteArray := prog_13_method_12_code
def yX11_misplaced : MethodName := ⟨RX11, "misplaced", "()V"⟩
abbrev cX11_must : ByteArray := prog_13_method_13_code
def yX11_must : MethodName := ⟨RX11, "must", "(Z)V"⟩
abbrev cX11_numeral : ByteArray := prog_13_method_14_code
def yX11_numeral : MethodName := ⟨RX11, "numeral", "(II)I"⟩
abbrev cX11_clearBank : ByteArray := prog_13_method_15_code
def yX11_clearBank : MethodName := ⟨RX11, "clearBank", "()V"⟩
abbrev cX11_web : ByteArray := prog_13_method_16_code
def yX11_web : MethodName := ⟨RX11, "web", "()I"⟩
abbrev cX11_isFull : ByteArray := prog_13_method_17_code
def yX11_isFull : MethodName := ⟨RX11, "isFull", "()Z"⟩
abbrev cX11_once : ByteArray := prog_13_method_18_code
def yX11_once : MethodName := ⟨RX11, "once", "(II)I"⟩
abbrev cX11_readLine : ByteArray := prog_13_method_19_code
def yX11_readLine : MethodName := ⟨RX11, "readLine", "()V"⟩
abbrev cX11_here : ByteArray := prog_13_method_20_code
def yX11_here : MethodName := ⟨RX11, "here", "([JII)I"⟩
abbrev cX11_knotHere : ByteArray := prog_13_method_21_code
def yX11_knotHere : MethodName := ⟨RX11, "knotHere", "()I"⟩
abbrev cX11_pleaHere : ByteArray := prog_13_method_22_code
def yX11_pleaHere : MethodName := ⟨RX11, "pleaHere", "()I"⟩
abbrev cX11_fresh : ByteArray := prog_13_method_23_code
def yX11_fresh : MethodName := ⟨RX11, "fresh", "(I)J"⟩
abbrev cX11_known : ByteArray := prog_13_method_24_code
def yX11_known : MethodName := ⟨RX11, "known", "(I)I"⟩
abbrev cX11_isThread : ByteArray := prog_13_method_25_code
def yX11_isThread : MethodName := ⟨RX11, "isThread", "(III)Z"⟩
abbrev cX11_readThread : ByteArray := prog_13_method_26_code
def yX11_readThread : MethodName := ⟨RX11, "readThread", "()V"⟩
abbrev cX11_readCase : ByteArray := prog_13_method_27_code
def yX11_readCase : MethodName := ⟨RX11, "readCase", "()V"⟩
abbrev cX11_readRule : ByteArray := prog_13_method_28_code
def yX11_readRule : MethodName := ⟨RX11, "readRule", "()V"⟩
abbrev cX11_emit : ByteArray := prog_13_method_29_code
def yX11_emit : MethodName := ⟨RX11, "emit", "(II)V"⟩
abbrev cX11_pushE : ByteArray := prog_13_method_30_code
def yX11_pushE : MethodName := ⟨RX11, "pushE", "(II)V"⟩
abbrev cX11_e : ByteArray := prog_13_method_31_code
def yX11_e : MethodName := ⟨RX11, "e", "()V"⟩
abbrev cX11_wordHere : ByteArray := prog_13_method_32_code
def yX11_wordHere : MethodName := ⟨RX11, "wordHere", "()I"⟩
abbrev cX11_unit : ByteArray := prog_13_method_33_code
def yX11_unit : MethodName := ⟨RX11, "unit", "()Z"⟩
abbrev cX11_rankHere : ByteArray := prog_13_method_34_code
def yX11_rankHere : MethodName := ⟨RX11, "rankHere", "()I"⟩
abbrev cX11_isCompared : ByteArray := prog_13_method_35_code
def yX11_isCompared : MethodName := ⟨RX11, "isCompared", "()Z"⟩
abbrev cX11_behindUnit : ByteArray := prog_13_method_36_code
def yX11_behindUnit : MethodName := ⟨RX11, "behindUnit", "()Z"⟩
abbrev cX11_two : ByteArray := prog_13_method_37_code
def yX11_two : MethodName := ⟨RX11, "two", "(III)I"⟩
abbrev cX11_asked : ByteArray := prog_13_method_38_code
def yX11_asked : MethodName := ⟨RX11, "asked", "(II)I"⟩
abbrev cX11_comes : ByteArray := prog_13_method_39_code
def yX11_comes : MethodName := ⟨RX11, "comes", "()I"⟩
abbrev cX11_fault : ByteArray := prog_13_method_40_code
def yX11_fault : MethodName := ⟨RX11, "fault", "(I)I"⟩
abbrev cX11_isIn : ByteArray := prog_13_method_41_code
def yX11_isIn : MethodName := ⟨RX11, "isIn", "(III)Z"⟩
abbrev cX11_bit : ByteArray := prog_13_method_42_code
def yX11_bit : MethodName := ⟨RX11, "bit", "(II)Z"⟩
abbrev cX11_bitsOf : ByteArray := prog_13_method_43_code
def yX11_bitsOf : MethodName := ⟨RX11, "bitsOf", "(I)I"⟩
abbrev cX11_divisor : ByteArray := prog_13_method_44_code
def yX11_divisor : MethodName := ⟨RX11, "divisor", "(II)I"⟩
abbrev cX11_power : ByteArray := prog_13_method_45_code
def yX11_power : MethodName := ⟨RX11, "power", "(II)I"⟩
abbrev cX11_many : ByteArray := prog_13_method_46_code
def yX11_many : MethodName := ⟨RX11, "many", "()I"⟩
abbrev cX11_pleads : ByteArray := prog_13_method_47_code
def yX11_pleads : MethodName := ⟨RX11, "pleads", "()I"⟩
abbrev cX11_spots : ByteArray := prog_13_method_48_code
def yX11_spots : MethodName := ⟨RX11, "spots", "()I"⟩
abbrev cX11_isCase : ByteArray := prog_13_method_49_code
def yX11_isCase : MethodName := ⟨RX11, "isCase", "(I)Z"⟩
abbrev cX11_isPlea : ByteArray := prog_13_method_50_code
def yX11_isPlea : MethodName := ⟨RX11, "isPlea", "(I)Z"⟩
abbrev cX11_isKnot : ByteArray := prog_13_method_51_code
def yX11_isKnot : MethodName := ⟨RX11, "isKnot", "(I)Z"⟩
abbrev cX11_isHeld : ByteArray := prog_13_method_52_code
def yX11_isHeld : MethodName := ⟨RX11, "isHeld", "(I)Z"⟩
abbrev cX11_placeOf : ByteArray := prog_13_method_53_code
def yX11_placeOf : MethodName := ⟨RX11, "placeOf", "(I)I"⟩
abbrev cX11_startAnew : ByteArray := prog_13_method_54_code
def yX11_startAnew : MethodName := ⟨RX11, "startAnew", "()V"⟩
abbrev cX11_layTold : ByteArray := prog_13_method_55_code
def yX11_layTold : MethodName := ⟨RX11, "layTold", "()V"⟩
abbrev cX11_strengthOf : ByteArray := prog_13_method_56_code
def yX11_strengthOf : MethodName := ⟨RX11, "strengthOf", "(I)I"⟩
abbrev cX11_heldNow : ByteArray := prog_13_method_57_code
def yX11_heldNow : MethodName := ⟨RX11, "heldNow", "()I"⟩
abbrev cX11_heldAt : ByteArray := prog_13_method_58_code
def yX11_heldAt : MethodName := ⟨RX11, "heldAt", "(I)I"⟩
abbrev cX11_kinOf : ByteArray := prog_13_method_59_code
def yX11_kinOf : MethodName := ⟨RX11, "kinOf", "(I)I"⟩
abbrev cX11_verdictBy : ByteArray := prog_13_method_60_code
def yX11_verdictBy : MethodName := ⟨RX11, "verdictBy", "(II)I"⟩
abbrev cX11_verdictOf : ByteArray := prog_13_method_61_code
def yX11_verdictOf : MethodName := ⟨RX11, "verdictOf", "(I)I"⟩
abbrev cX11_outcome : ByteArray := prog_13_method_62_code
def yX11_outcome : MethodName := ⟨RX11, "outcome", "(I)I"⟩
abbrev cX11_freeNow : ByteArray := prog_13_method_63_code
def yX11_freeNow : MethodName := ⟨RX11, "freeNow", "()I"⟩
abbrev cX11_nextTo : ByteArray := prog_13_method_64_code
def yX11_nextTo : MethodName := ⟨RX11, "nextTo", "(IZ)I"⟩
abbrev cX11_knot : ByteArray := prog_13_method_65_code
def yX11_knot : MethodName := ⟨RX11, "knot", "(II)I"⟩
abbrev cX11_plea : ByteArray := prog_13_method_66_code
def yX11_plea : MethodName := ⟨RX11, "plea", "(I)I"⟩
abbrev cX11_item : ByteArray := prog_13_method_67_code
def yX11_item : MethodName := ⟨RX11, "item", "(II)I"⟩
abbrev cX11_verdict : ByteArray := prog_13_method_68_code
def yX11_verdict : MethodName := ⟨RX11, "verdict", "(I)I"⟩
abbrev cX11_free : ByteArray := prog_13_method_69_code
def yX11_free : MethodName := ⟨RX11, "free", "()I"⟩
abbrev cX11_likeliest : ByteArray := prog_13_method_70_code
def yX11_likeliest : MethodName := ⟨RX11, "likeliest", "()I"⟩
abbrev cX11_haveIt : ByteArray := prog_13_method_71_code
def yX11_haveIt : MethodName := ⟨RX11, "haveIt", "(I)I"⟩
abbrev cX11_fashion : ByteArray := prog_13_method_72_code
def yX11_fashion : MethodName := ⟨RX11, "fashion", "()I"⟩
abbrev cX11_keepAct : ByteArray := prog_13_method_73_code
def yX11_keepAct : MethodName := ⟨RX11, "keepAct", "()V"⟩
abbrev cX11_swapAll : ByteArray := prog_13_method_74_code
def yX11_swapAll : MethodName := ⟨RX11, "swapAll", "()V"⟩
abbrev cX11_hour : ByteArray := prog_13_method_75_code
def yX11_hour : MethodName := ⟨RX11, "hour", "(I)I"⟩
abbrev cX11_hear : ByteArray := prog_13_method_76_code
def yX11_hear : MethodName := ⟨RX11, "hear", "(I)I"⟩
abbrev cX11_plead : ByteArray := prog_13_method_77_code
def yX11_plead : MethodName := ⟨RX11, "plead", "(II)I"⟩
abbrev cX11_drop : ByteArray := prog_13_method_78_code
def yX11_drop : MethodName := ⟨RX11, "drop", "(II)I"⟩
abbrev cX11_grab : ByteArray := prog_13_method_79_code
def yX11_grab : MethodName := ⟨RX11, "grab", "(I)I"⟩
abbrev cX11_spin : ByteArray := prog_13_method_80_code
def yX11_spin : MethodName := ⟨RX11, "spin", "(I)I"⟩
abbrev cX11_undo : ByteArray := prog_13_method_81_code
def yX11_undo : MethodName := ⟨RX11, "undo", "()Z"⟩
abbrev cX11_redo : ByteArray := prog_13_method_82_code
def yX11_redo : MethodName := ⟨RX11, "redo", "()Z"⟩
abbrev cX11_lies : ByteArray := prog_13_method_83_code
def yX11_lies : MethodName := ⟨RX11, "lies", "(I)I"⟩
abbrev cX11_fewestOf : ByteArray := prog_13_method_84_code
def yX11_fewestOf : MethodName := ⟨RX11, "fewestOf", "(II)I"⟩
abbrev cX11_toldOf : ByteArray := prog_13_method_85_code
def yX11_toldOf : MethodName := ⟨RX11, "toldOf", "(II)I"⟩
abbrev cX11_allPleas : ByteArray := prog_13_method_86_code
def yX11_allPleas : MethodName := ⟨RX11, "allPleas", "()I"⟩
abbrev cX11_shortest : ByteArray := prog_13_method_87_code
def yX11_shortest : MethodName := ⟨RX11, "shortest", "(II)I"⟩
abbrev cX11_honest : ByteArray := prog_13_method_88_code
def yX11_honest : MethodName := ⟨RX11, "honest", "(II)I"⟩
abbrev cX11_hopeless : ByteArray := prog_13_method_89_code
def yX11_hopeless : MethodName := ⟨RX11, "hopeless", "()I"⟩
abbrev cX11_advice : ByteArray := prog_13_method_90_code
def yX11_advice : MethodName := ⟨RX11, "advice", "(II)I"⟩
abbrev cX11_forbid : ByteArray := prog_13_method_91_code
def yX11_forbid : MethodName := ⟨RX11, "forbid", "(I)I"⟩
abbrev cX11_freeWith : ByteArray := prog_13_method_92_code
def yX11_freeWith : MethodName := ⟨RX11, "freeWith", "(II)I"⟩
abbrev cX11_swap : ByteArray := prog_13_method_93_code
def yX11_swap : MethodName := ⟨RX11, "swap", "(I)I"⟩
abbrev cX11_contrary : ByteArray := prog_13_method_94_code
def yX11_contrary : MethodName := ⟨RX11, "contrary", "(I)I"⟩
abbrev cX11_leave : ByteArray := prog_13_method_95_code
def yX11_leave : MethodName := ⟨RX11, "leave", "(I)I"⟩
abbrev cX11_loophole : ByteArray := prog_13_method_96_code
def yX11_loophole : MethodName := ⟨RX11, "loophole", "(I)I"⟩
abbrev cX11_precedent : ByteArray := prog_13_method_97_code
def yX11_precedent : MethodName := ⟨RX11, "precedent", "(I)I"⟩
abbrev cX11_layVerdicts : ByteArray := prog_13_method_98_code
def yX11_layVerdicts : MethodName := ⟨RX11, "layVerdicts", "(II)V"⟩
abbrev cX11_isRest : ByteArray := prog_13_method_99_code
def yX11_isRest : MethodName := ⟨RX11, "isRest", "(I)Z"⟩
abbrev cX11_rivals : ByteArray := prog_13_method_100_code
def yX11_rivals : MethodName := ⟨RX11, "rivals", "(II)I"⟩
abbrev cX11_layFar : ByteArray := prog_13_method_101_code
def yX11_layFar : MethodName := ⟨RX11, "layFar", "()V"⟩
abbrev cX11_way : ByteArray := prog_13_method_102_code
def yX11_way : MethodName := ⟨RX11, "way", "(I)I"⟩
abbrev cX11_reached : ByteArray := prog_13_method_103_code
def yX11_reached : MethodName := ⟨RX11, "reached", "()I"⟩
abbrev cX11_reach : ByteArray := prog_13_method_104_code
def yX11_reach : MethodName := ⟨RX11, "reach", "()I"⟩
abbrev cX11_bridge : ByteArray := prog_13_method_105_code
def yX11_bridge : MethodName := ⟨RX11, "bridge", "(I)I"⟩
abbrev cX11_inOrder : ByteArray := prog_13_method_106_code
def yX11_inOrder : MethodName := ⟨RX11, "inOrder", "(III)I"⟩
abbrev cX11_lastHeard : ByteArray := prog_13_method_107_code
def yX11_lastHeard : MethodName := ⟨RX11, "lastHeard", "(II)I"⟩
abbrev cX11_round : ByteArray := prog_13_method_108_code
def yX11_round : MethodName := ⟨RX11, "round", "()I"⟩
abbrev cX11_term : ByteArray := prog_13_method_109_code
def yX11_term : MethodName := ⟨RX11, "term", "(I)I"⟩
abbrev cX11_odds : ByteArray := prog_13_method_110_code
def yX11_odds : MethodName := ⟨RX11, "odds", "(II)I"⟩
abbrev cX11_heard : ByteArray := prog_13_method_111_code
def yX11_heard : MethodName := ⟨RX11, "heard", "(IIZ)I"⟩
abbrev cX11_untell : ByteArray := prog_13_method_112_code
def yX11_untell : MethodName := ⟨RX11, "untell", "(I)Z"⟩
abbrev cX11_later : ByteArray := prog_13_method_113_code
def yX11_later : MethodName := ⟨RX11, "later", "(I)I"⟩
abbrev cX11_layThought : ByteArray := prog_13_method_114_code
def yX11_layThought : MethodName := ⟨RX11, "layThought", "()V"⟩
abbrev cX11_doesFit : ByteArray := prog_13_method_115_code
def yX11_doesFit : MethodName := ⟨RX11, "doesFit", "(II)Z"⟩
abbrev cX11_fits : ByteArray := prog_13_method_116_code
def yX11_fits : MethodName := ⟨RX11, "fits", "(I)I"⟩
abbrev cX11_sure : ByteArray := prog_13_method_117_code
def yX11_sure : MethodName := ⟨RX11, "sure", "(II)I"⟩
abbrev cX11_mostOf : ByteArray := prog_13_method_118_code
def yX11_mostOf : MethodName := ⟨RX11, "mostOf", "(II)I"⟩
abbrev cX11_ask : ByteArray := prog_13_method_119_code
def yX11_ask : MethodName := ⟨RX11, "ask", "(II)I"⟩
abbrev cX11_image : ByteArray := prog_13_method_120_code
def yX11_image : MethodName := ⟨RX11, "image", "(I)I"⟩
abbrev cX11_restore : ByteArray := prog_13_method_121_code
def yX11_restore : MethodName := ⟨RX11, "restore", "(I)I"⟩
abbrev cX11_about : ByteArray := prog_13_method_122_code
def yX11_about : MethodName := ⟨RX11, "about", "(I)I"⟩
abbrev cX11_feed : ByteArray := prog_13_method_123_code
def yX11_feed : MethodName := ⟨RX11, "feed", "(IIIII)I"⟩
abbrev cX11_end : ByteArray := prog_13_method_124_code
def yX11_end : MethodName := ⟨RX11, "end", "(I)I"⟩
def RJ11 : String := "java/lang/Character"
abbrev cJ11_isValidCodePoint_9a6ad : ByteArray := prog_14_method_11_code
def yJ11_isValidCodePoint_9a6ad : MethodName := ⟨RJ11, "isValidCodePoint", "(I)Z"⟩
abbrev cJ11_highSurrogate_5068e : ByteArray := prog_14_method_28_code
def yJ11_highSurrogate_5068e : MethodName := ⟨RJ11, "highSurrogate", "(I)C"⟩
abbrev cJ11_lowSurrogate_5068e : ByteArray := prog_14_method_29_code
def yJ11_lowSurrogate_5068e : MethodName := ⟨RJ11, "lowSurrogate", "(I)C"⟩
def RJ6 : String := "java/lang/Integer"
abbrev cJ6_compare_7cf53 : ByteArray := prog_15_method_40_code
def yJ6_compare_7cf53 : MethodName := ⟨RJ6, "compare", "(II)I"⟩
abbrev cJ6_bitCount_0f7a4 : ByteArray := prog_15_method_49_code
def yJ6_bitCount_0f7a4 : MethodName := ⟨RJ6, "bitCount", "(I)I"⟩
def RJ9 : String := "java/lang/Math"
abbrev cJ9_max_7cf53 : ByteArray := prog_16_method_65_code
def yJ9_max_7cf53 : MethodName := ⟨RJ9, "max", "(II)I"⟩
abbrev cJ9_min_7cf53 : ByteArray := prog_16_method_69_code
def yJ9_min_7cf53 : MethodName := ⟨RJ9, "min", "(II)I"⟩
def RJ0 : String := "java/lang/String"
abbrev cJ0_length_8abf5 : ByteArray := prog_17_method_54_code
def yJ0_length_8abf5 : MethodName := ⟨RJ0, "length", "()I"⟩
abbrev cJ0_charAt_5068e : ByteArray := prog_17_method_56_code
def yJ0_charAt_5068e : MethodName := ⟨RJ0, "charAt", "(I)C"⟩
abbrev cJ0_indexOf_0f7a4 : ByteArray := prog_17_method_79_code
def yJ0_indexOf_0f7a4 : MethodName := ⟨RJ0, "indexOf", "(I)I"⟩
abbrev cJ0_indexOf_7cf53 : ByteArray := prog_17_method_80_code
def yJ0_indexOf_7cf53 : MethodName := ⟨RJ0, "indexOf", "(II)I"⟩
abbrev cJ0_coder_7d493 : ByteArray := prog_17_method_152_code
def yJ0_coder_7d493 : MethodName := ⟨RJ0, "coder", "()B"⟩
abbrev cJ0_isLatin1_aae02 : ByteArray := prog_17_method_154_code
def yJ0_isLatin1_aae02 : MethodName := ⟨RJ0, "isLatin1", "()Z"⟩
abbrev cJ0_checkIndex_df160 : ByteArray := prog_17_method_155_code
def yJ0_checkIndex_df160 : MethodName := ⟨RJ0, "checkIndex", "(II)V"⟩
abbrev cJ0_checkBoundsBeginEnd_23922 : ByteArray := prog_17_method_158_code
def yJ0_checkBoundsBeginEnd_23922 : MethodName := ⟨RJ0, "checkBoundsBeginEnd", "(III)V"⟩
def RJ1 : String := "java/lang/StringLatin1"
abbrev cJ1_charAt_3b067 : ByteArray := prog_18_method_2_code
def yJ1_charAt_3b067 : MethodName := ⟨RJ1, "charAt", "([BI)C"⟩
abbrev cJ1_canEncode_9a6ad : ByteArray := prog_18_method_4_code
def yJ1_canEncode_9a6ad : MethodName := ⟨RJ1, "canEncode", "(I)Z"⟩
abbrev cJ1_indexOf_4cfef : ByteArray := prog_18_method_22_code
def yJ1_indexOf_4cfef : MethodName := ⟨RJ1, "indexOf", "([BIII)I"⟩
abbrev cJ1_indexOfChar_4cfef : ByteArray := prog_18_method_23_code
def yJ1_indexOfChar_4cfef : MethodName := ⟨RJ1, "indexOfChar", "([BIII)I"⟩
def RJ2 : String := "java/lang/StringUTF16"
abbrev cJ2_getChar_3b067 : ByteArray := prog_19_method_5_code
def yJ2_getChar_3b067 : MethodName := ⟨RJ2, "getChar", "([BI)C"⟩
abbrev cJ2_length_9d52b : ByteArray := prog_19_method_6_code
def yJ2_length_9d52b : MethodName := ⟨RJ2, "length", "([B)I"⟩
abbrev cJ2_indexOf_4cfef : ByteArray := prog_19_method_40_code
def yJ2_indexOf_4cfef : MethodName := ⟨RJ2, "indexOf", "([BIII)I"⟩
abbrev cJ2_indexOfChar_4cfef : ByteArray := prog_19_method_47_code
def yJ2_indexOfChar_4cfef : MethodName := ⟨RJ2, "indexOfChar", "([BIII)I"⟩
abbrev cJ2_indexOfCharUnsafe_4cfef : ByteArray := prog_19_method_48_code
def yJ2_indexOfCharUnsafe_4cfef : MethodName := ⟨RJ2, "indexOfCharUnsafe", "([BIII)I"⟩
abbrev cJ2_indexOfSupplementary_4cfef : ByteArray := prog_19_method_49_code
def yJ2_indexOfSupplementary_4cfef : MethodName := ⟨RJ2, "indexOfSupplementary", "([BIII)I"⟩
abbrev cJ2_charAt_3b067 : ByteArray := prog_19_method_83_code
def yJ2_charAt_3b067 : MethodName := ⟨RJ2, "charAt", "([BI)C"⟩
abbrev cJ2_checkIndex_2214a : ByteArray := prog_19_method_91_code
def yJ2_checkIndex_2214a : MethodName := ⟨RJ2, "checkIndex", "(I[B)V"⟩
abbrev cJ2_checkBoundsBeginEnd_d044e : ByteArray := prog_19_method_93_code
def yJ2_checkBoundsBeginEnd_d044e : MethodName := ⟨RJ2, "checkBoundsBeginEnd", "(II[B)V"⟩
def RJ3 : String := "jdk/internal/util/Preconditions"
abbrev cJ3_checkIndex_8e157 : ByteArray := prog_20_method_11_code
def yJ3_checkIndex_8e157 : MethodName := ⟨RJ3, "checkIndex", "(IILjava/util/function/BiFunction;)I"⟩
abbrev cJ3_checkFromToIndex_8c36e : ByteArray := prog_20_method_12_code
def yJ3_checkFromToIndex_8c36e : MethodName := ⟨RJ3, "checkFromToIndex", "(IIILjava/util/function/BiFunction;)I"⟩
def RL : String := "WebCourtLaw"
abbrev cL_law : ByteArray := code
def yL_law : MethodName := ⟨RL, "law", "([I)Z"⟩
abbrev vwCl : List vw_C := [(RX0, TX0, 4), (RX1, TX1, 3), (RX2, TX2, 2), (RX3, TX3, 7), (RX4, TX4, 11), (RX5, TX5, 4), (RX6, TX6, 3), (RX7, TX7, 7), (RX8, TX8, 2), (RX9, TX9, 18), (RX10, TX10, 13), (RX11, TX11, 65)]

/-! the tables' words that travel: one list for every method -/
def gtb : List Cond := lw_tbl.filter goodWord
theorem gtb_in {w : Cond} (h : w ∈ gtb) : w ∈ lw_tbl := (List.mem_filter.mp h).1
theorem gtb_mk {w : Cond} (i : Nat) (h : lw_tbl[i]? = some w) (hg : goodWord w = true) : w ∈ gtb := List.mem_filter.mpr ⟨List.mem_of_getElem? h, hg⟩
theorem gtb_good {w : Cond} (h : w ∈ gtb) : (w.onTables && w.keeps) = true ∨ ∃ ty, w = .arrayClass ty := good_of_word (List.mem_filter.mp h).2
theorem gGood {y : Cond} (h : y ∈ gtb) : GoodIn gtb (y :: gtb) := fun w hw => (List.mem_cons.mp hw).elim (fun e => by subst e; exact ⟨h, gtb_good h⟩) (fun hw => ⟨hw, gtb_good hw⟩)
theorem gV {own C : String} {idx : Nat} {y : MethodName} {cw : Cond} (h1 : Cond.methodLink own idx y ∈ gtb) (h2 : Cond.instanceMethod y ∈ gtb) (h3 : Cond.selects C y y ∈ gtb) (h4 : Cond.initialized C ∈ gtb) (h5 : cw ∈ gtb) : GoodIn gtb (wsV own idx C y (cw :: gtb)) := by
  intro w hw
  rcases List.mem_append.mp hw with hw | hw
  · rcases List.mem_cons.mp hw with e | hw
    · subst e; exact ⟨h1, gtb_good h1⟩
    · rcases List.mem_cons.mp hw with e | hw
      · subst e; exact ⟨h2, gtb_good h2⟩
      · rcases List.mem_cons.mp hw with e | hw
        · subst e; exact ⟨h3, gtb_good h3⟩
        · rcases List.mem_cons.mp hw with e | hw
          · subst e; exact ⟨h4, gtb_good h4⟩
          · cases hw
  · exact gGood h5 w hw
theorem gS {own : String} {idx : Nat} {y : MethodName} {cw : Cond} (h1 : Cond.methodLink own idx y ∈ gtb) (h2 : Cond.static y ∈ gtb) (h3 : Cond.initialized own ∈ gtb) (h5 : cw ∈ gtb) : GoodIn gtb (wsS own idx y (cw :: gtb)) := by
  intro w hw
  rcases List.mem_append.mp hw with hw | hw
  · rcases List.mem_cons.mp hw with e | hw
    · subst e; exact ⟨h1, gtb_good h1⟩
    · rcases List.mem_cons.mp hw with e | hw
      · subst e; exact ⟨h2, gtb_good h2⟩
      · rcases List.mem_cons.mp hw with e | hw
        · subst e; exact ⟨h3, gtb_good h3⟩
        · cases hw
  · exact gGood h5 w hw
theorem gtb_p {w : Cond} (i : Nat) (h : (k2_sels lw_privs)[i]? = some w) (hg : goodWord w = true) : w ∈ gtb := List.mem_filter.mpr ⟨List.mem_append_left _ (List.mem_of_getElem? h), hg⟩
theorem gtb_c1 {w : Cond} (i : Nat) (h : tables_1_1[i]? = some w) (hg : goodWord w = true) : w ∈ gtb := List.mem_filter.mpr ⟨List.mem_append_right _ (List.mem_append_left _ (List.mem_of_getElem? h)), hg⟩
theorem gtb_c2 {w : Cond} (i : Nat) (h : tables_1_2[i]? = some w) (hg : goodWord w = true) : w ∈ gtb := List.mem_filter.mpr ⟨List.mem_append_right _ (List.mem_append_right _ (List.mem_append_left _ (List.mem_of_getElem? h))), hg⟩
theorem gtb_c3 {w : Cond} (i : Nat) (h : tables_1_3[i]? = some w) (hg : goodWord w = true) : w ∈ gtb := List.mem_filter.mpr ⟨List.mem_append_right _ (List.mem_append_right _ (List.mem_append_right _ (List.mem_append_left _ (List.mem_of_getElem? h)))), hg⟩
theorem gtb_c4 {w : Cond} (i : Nat) (h : tables_1_4[i]? = some w) (hg : goodWord w = true) : w ∈ gtb := List.mem_filter.mpr ⟨List.mem_append_right _ (List.mem_append_right _ (List.mem_append_right _ (List.mem_append_right _ (List.mem_append_left _ (List.mem_of_getElem? h))))), hg⟩
theorem gtb_c5 {w : Cond} (i : Nat) (h : tables_1_5[i]? = some w) (hg : goodWord w = true) : w ∈ gtb := List.mem_filter.mpr ⟨List.mem_append_right _ (List.mem_append_right _ (List.mem_append_right _ (List.mem_append_right _ (List.mem_append_right _ (List.mem_append_left _ (List.mem_of_getElem? h)))))), hg⟩
theorem gtb_c6 {w : Cond} (i : Nat) (h : tables_1_6[i]? = some w) (hg : goodWord w = true) : w ∈ gtb := List.mem_filter.mpr ⟨List.mem_append_right _ (List.mem_append_right _ (List.mem_append_right _ (List.mem_append_right _ (List.mem_append_right _ (List.mem_append_right _ (List.mem_append_left _ (List.mem_of_getElem? h))))))), hg⟩
theorem gtb_c7 {w : Cond} (i : Nat) (h : tables_1_7[i]? = some w) (hg : goodWord w = true) : w ∈ gtb := List.mem_filter.mpr ⟨List.mem_append_right _ (List.mem_append_right _ (List.mem_append_right _ (List.mem_append_right _ (List.mem_append_right _ (List.mem_append_right _ (List.mem_append_right _ (List.mem_append_left _ (List.mem_of_getElem? h)))))))), hg⟩
theorem gtb_c8 {w : Cond} (i : Nat) (h : tables_1_8[i]? = some w) (hg : goodWord w = true) : w ∈ gtb := List.mem_filter.mpr ⟨List.mem_append_right _ (List.mem_append_right _ (List.mem_append_right _ (List.mem_append_right _ (List.mem_append_right _ (List.mem_append_right _ (List.mem_append_right _ (List.mem_append_right _ (List.mem_append_left _ (List.mem_of_getElem? h))))))))), hg⟩
theorem gtb_c9 {w : Cond} (i : Nat) (h : tables_1_9[i]? = some w) (hg : goodWord w = true) : w ∈ gtb := List.mem_filter.mpr ⟨List.mem_append_right _ (List.mem_append_right _ (List.mem_append_right _ (List.mem_append_right _ (List.mem_append_right _ (List.mem_append_right _ (List.mem_append_right _ (List.mem_append_right _ (List.mem_append_right _ (List.mem_of_getElem? h))))))))), hg⟩
end
section
/-! A state of the system: int fields, long fields, int arrays, long arrays (by the place of their cell), rows, references that change -/
abbrev St : Type := (Nat → Nat → Int32) × (Nat → Nat → Int64) × (Nat → Nat → Int32) × (Nat → Nat → Int64) × (Nat → Nat → Int32) × (Nat → Nat)
abbrev fI (u : St) : Nat → Nat → Int32 := u.1
abbrev fL (u : St) : Nat → Nat → Int64 := u.2.1
abbrev fA (u : St) : Nat → Nat → Int32 := u.2.2.1
abbrev fJ (u : St) : Nat → Nat → Int64 := u.2.2.2.1
abbrev fB (u : St) : Nat → Nat → Int32 := u.2.2.2.2.1
abbrev fR (u : St) : Nat → Nat := u.2.2.2.2.2
def sI (u : St) (c k : Nat) (v : Int32) : St := (va_up u.1 c (va_up (u.1 c) k v), u.2)
def sL (u : St) (c k : Nat) (v : Int64) : St := (u.1, va_up u.2.1 c (va_up (u.2.1 c) k v), u.2.2)
def sA (u : St) (q : Nat) (f : Nat → Int32) : St := (u.1, u.2.1, va_up u.2.2.1 q f, u.2.2.2)
def sJ (u : St) (q : Nat) (f : Nat → Int64) : St := (u.1, u.2.1, u.2.2.1, va_up u.2.2.2.1 q f, u.2.2.2.2)
def sB (u : St) (q : Nat) (f : Nat → Int32) : St := (u.1, u.2.1, u.2.2.1, u.2.2.2.1, va_up u.2.2.2.2.1 q f, u.2.2.2.2.2)
def sR (u : St) (k v : Nat) : St := (u.1, u.2.1, u.2.2.1, u.2.2.2.1, u.2.2.2.2.1, va_up u.2.2.2.2.2 k v)
def tyL (cy : Nat → ClassId) : List (ClassId × FieldType) := [(cy 0, .byte), (cy 1, .int), (cy 2, .long), (cy 3, .boolean), (cy 4, .array .int)]
def kNest : Cond := .methodLinkNest "WebCourt$Acts" 26 yX10_copyRow "WebCourt"
def Kk (D : va_G) (cy : Nat → ClassId) (U : State) : Prop := va_K D vwCl (tyL cy) U ∧ va_Nw kNest U
theorem Kk.warm {D : va_G} {cy : Nat → ClassId} {s U : State} (h : Kk D cy s) (hW : s.WarmedH U.vm) : Kk D cy U := ⟨va_K.moved hW.alike h.1, va_Nw.warmM hW h.2⟩
theorem Kk.call {D : va_G} {cy : Nat → ClassId} {U : State} {g : JFrame} {mk : MethodId} {a : Array Value} (h : Kk D cy U) : Kk D cy (U.calling g mk a) := ⟨va_K.moved (u := U) (U := U.calling g mk a) (Vm.Alike.refl U.vm) h.1, va_Nw.same rfl rfl h.2⟩
/-- the heap holds a world, apart, and nothing else that was there has changed -/
def Wo (D : va_G) (A : Nat → Prop) (w : va_W) (H0 H : Heap) (locs : List Loc) : Prop := va_P D vwCl w H ∧ va_D A w ∧ va_S A H0 H locs
/-- what stays the same while a method runs -/
def Cx (p : Program) (s : State) (m : MethodId) (args : Array Value) (c : Code) (cc : ByteArray) (nL : Nat) (own : String) (D : va_G) (cy : Nat → ClassId) (A : Nat → Prop) : Prop :=
  p.tables.exec = Jvm.exec ∧ c.code = cc ∧ c.maxLocals = nL ∧ s.vm.findClass own = some m.cls ∧ (∀ w ∈ gtb, w.before args s = true) ∧ Kk D cy s ∧ ∀ q, s.heap.size ≤ q → A q
abbrev rmo (f n : Nat) : Room := { frames := f, cells := 0, slots := 0, locals := n }
def Mi (l : Launch) (D : va_G) (cy : Nat → ClassId) (w : St → va_W) (y : MethodName) (cw : Cond) (rm : Room) (av : List Value) (u0 : St) (post : Int32 → St → Prop) : Prop :=
  ∀ sz : Nat, Met l y (cw :: gtb) rm (va_Pc av (fun U => U.heap.size = sz ∧ va_P D vwCl (w u0) U.heap ∧ Kk D cy U ∧ va_D (fun _ => True) (w u0))) (va_Qi post (fun u t => va_P D vwCl (w u) t.heap ∧ Kk D cy t ∧ va_D (va_A (w u0) sz) (w u)) (va_A (w u0) sz)) 0 0 (va_A (w u0) sz)
def Mj (l : Launch) (D : va_G) (cy : Nat → ClassId) (w : St → va_W) (y : MethodName) (cw : Cond) (rm : Room) (av : List Value) (u0 : St) (post : Int64 → St → Prop) : Prop :=
  ∀ sz : Nat, Met l y (cw :: gtb) rm (va_Pc av (fun U => U.heap.size = sz ∧ va_P D vwCl (w u0) U.heap ∧ Kk D cy U ∧ va_D (fun _ => True) (w u0))) (va_Ql post (fun u t => va_P D vwCl (w u) t.heap ∧ Kk D cy t ∧ va_D (va_A (w u0) sz) (w u)) (va_A (w u0) sz)) 0 0 (va_A (w u0) sz)
def Mv (l : Launch) (D : va_G) (cy : Nat → ClassId) (w : St → va_W) (y : MethodName) (cw : Cond) (rm : Room) (av : List Value) (u0 : St) (post : St → Prop) : Prop :=
  ∀ sz : Nat, Met l y (cw :: gtb) rm (va_Pc av (fun U => U.heap.size = sz ∧ va_P D vwCl (w u0) U.heap ∧ Kk D cy U ∧ va_D (fun _ => True) (w u0))) (va_Qv post (fun u t => va_P D vwCl (w u) t.heap ∧ Kk D cy t ∧ va_D (va_A (w u0) sz) (w u)) (va_A (w u0) sz)) 0 0 (va_A (w u0) sz)
theorem va_D.self' {w : va_W} {A : Nat → Prop} {q : Nat} {H : Heap} {locs : List Loc} {H0 : Heap} (hD : va_D A w) (hS : va_S A H0 H locs) (hA : ∀ q, H0.size ≤ q → A q) (h : va_A w H.size q) : A q := by
  rcases h with ⟨k, e, h⟩ | h
  · exact hD.2 k (q, e) h
  · exact hA q (Nat.le_trans hS.1 h)
section FR
variable {p : Program} {l : Launch} {e : Env} {R : Room} {s : State} {m : MethodId} {args : Array Value} {below : List Frame} {meth : Method} {c : Code} {H : Heap} {locs : List Loc} {cells slots : Nat} {Q : State → Prop}
variable {cc : ByteArray} {pc nL : Nat} {ls : Array Slot} {rest : List Value} {D : va_G} {cy : Nat → ClassId} {A : Nat → Prop} {own : String} {w : St → va_W} {u0 : St}
theorem Mi.of {y : MethodName} {maxL : Nat} {ty : FieldType} {rm : Room} {av : List Value} {post : Int32 → St → Prop} (hcls : y.cls = own) (hy : plainName y.cls = true) (hlen : (lg_sl av).length ≤ maxL)
    (body : ∀ (p : Program) (e : Env) (s : State) (m : MethodId) (below : List Frame) (meth : Method) (c : Code) (A : Nat → Prop) (Q : State → Prop) (ls : Array Slot),
      Cx p s m av.toArray c cc maxL own D cy A →
      (∀ (v : Int32) (u : St) (H : Heap) (locs : List Loc) (ls : Array Slot) (pc : Nat), decode cc pc = .ok (.ireturn, 1) → narrow ty (.int v) = .int v → post v u → Wo D A (w u) s.heap H locs → W p l e rm s m av.toArray below meth c H locs 0 0 Q (F0 m pc ls [.int v])) →
      Wo D A (w u0) s.heap s.heap [] → lv_has ls maxL (lv_args 0 av) → W p l e rm s m av.toArray below meth c s.heap [] 0 0 Q (F0 m 0 ls [])) : Mi l D cy w y (.code y cc maxL (some ty)) rm av u0 post := by
  intro sz
  refine Met.ofW (cc := cc) (maxL := maxL) (ret := some ty) hy rfl ?_
  intro p e s m args below meth c s₁ B hml hv
  obtain ⟨rfl, hsz, hP, hK, hD0⟩ := hv
  have hx := B.exec
  have hb := B.bytes
  have hr := B.returns
  have hts := atoms_spec (ws := .code y cc maxL (some ty) :: gtb) B.pre
  have hown : s.vm.findClass own = some m.cls := by rw [← hcls]; exact findClass_of_methodNamed B.named
  have hlocks := B.notSynchronized
  subst hsz
  have hD := hD0.self (sz := s.heap.size)
  have hl := lv_entry av (n := maxL) hlen
  rw [lg_entry_eq]
  refine body p e s m below meth c (va_A (w u0) s.heap.size) _ _ ⟨hx, hb, hml, hown, fun w hw => hts w (List.mem_cons_of_mem _ hw), hK, fun q h => Or.inr h⟩ ?_ ⟨hP, hD, va_S.rf⟩ hl
  intro v u H locs ls pc hdg hn hp hO
  exact W.zret hx hb hr hn (fun t ht hW => ⟨⟨v, u, rfl, hp, by rw [ht]; exact hO.1, hK.warm hW, hO.2.1⟩, hO.2.2.F ht⟩) hO.2.2.2.2 hdg
theorem Mj.of {y : MethodName} {maxL : Nat} {rm : Room} {av : List Value} {post : Int64 → St → Prop} (hcls : y.cls = own) (hy : plainName y.cls = true) (hlen : (lg_sl av).length ≤ maxL)
    (body : ∀ (p : Program) (e : Env) (s : State) (m : MethodId) (below : List Frame) (meth : Method) (c : Code) (A : Nat → Prop) (Q : State → Prop) (ls : Array Slot),
      Cx p s m av.toArray c cc maxL own D cy A →
      (∀ (v : Int64) (u : St) (H : Heap) (locs : List Loc) (ls : Array Slot) (pc : Nat), decode cc pc = .ok (.lreturn, 1) → post v u → Wo D A (w u) s.heap H locs → W p l e rm s m av.toArray below meth c H locs 0 0 Q (F0 m pc ls [.long v])) →
      Wo D A (w u0) s.heap s.heap [] → lv_has ls maxL (lv_args 0 av) → W p l e rm s m av.toArray below meth c s.heap [] 0 0 Q (F0 m 0 ls [])) : Mj l D cy w y (.code y cc maxL (some .long)) rm av u0 post := by
  intro sz
  refine Met.ofW (cc := cc) (maxL := maxL) (ret := some .long) hy rfl ?_
  intro p e s m args below meth c s₁ B hml hv
  obtain ⟨rfl, hsz, hP, hK, hD0⟩ := hv
  have hx := B.exec
  have hb := B.bytes
  have hr := B.returns
  have hts := atoms_spec (ws := .code y cc maxL (some .long) :: gtb) B.pre
  have hown : s.vm.findClass own = some m.cls := by rw [← hcls]; exact findClass_of_methodNamed B.named
  have hlocks := B.notSynchronized
  subst hsz
  have hD := hD0.self (sz := s.heap.size)
  have hl := lv_entry av (n := maxL) hlen
  rw [lg_entry_eq]
  refine body p e s m below meth c (va_A (w u0) s.heap.size) _ _ ⟨hx, hb, hml, hown, fun w hw => hts w (List.mem_cons_of_mem _ hw), hK, fun q h => Or.inr h⟩ ?_ ⟨hP, hD, va_S.rf⟩ hl
  intro v u H locs ls pc hdg hp hO
  exact W.lret hx hb hr (fun t ht hW => ⟨⟨v, u, rfl, hp, by rw [ht]; exact hO.1, hK.warm hW, hO.2.1⟩, hO.2.2.F ht⟩) hO.2.2.2.2 hdg
theorem Mv.of {y : MethodName} {maxL : Nat} {rm : Room} {av : List Value} {post : St → Prop} (hcls : y.cls = own) (hy : plainName y.cls = true) (hlen : (lg_sl av).length ≤ maxL)
    (body : ∀ (p : Program) (e : Env) (s : State) (m : MethodId) (below : List Frame) (meth : Method) (c : Code) (A : Nat → Prop) (Q : State → Prop) (ls : Array Slot),
      Cx p s m av.toArray c cc maxL own D cy A →
      (∀ (u : St) (H : Heap) (locs : List Loc) (ls : Array Slot) (pc : Nat), decode cc pc = .ok (.return_, 1) → post u → Wo D A (w u) s.heap H locs → W p l e rm s m av.toArray below meth c H locs 0 0 Q (F0 m pc ls [])) →
      Wo D A (w u0) s.heap s.heap [] → lv_has ls maxL (lv_args 0 av) → W p l e rm s m av.toArray below meth c s.heap [] 0 0 Q (F0 m 0 ls [])) : Mv l D cy w y (.code y cc maxL none) rm av u0 post := by
  intro sz
  refine Met.ofW (cc := cc) (maxL := maxL) (ret := none) hy rfl ?_
  intro p e s m args below meth c s₁ B hml hv
  obtain ⟨rfl, hsz, hP, hK, hD0⟩ := hv
  have hx := B.exec
  have hb := B.bytes
  have hr := B.returns
  have hts := atoms_spec (ws := .code y cc maxL none :: gtb) B.pre
  have hown : s.vm.findClass own = some m.cls := by rw [← hcls]; exact findClass_of_methodNamed B.named
  have hlocks := B.notSynchronized
  subst hsz
  have hD := hD0.self (sz := s.heap.size)
  have hl := lv_entry av (n := maxL) hlen
  rw [lg_entry_eq]
  refine body p e s m below meth c (va_A (w u0) s.heap.size) _ _ ⟨hx, hb, hml, hown, fun w hw => hts w (List.mem_cons_of_mem _ hw), hK, fun q h => Or.inr h⟩ ?_ ⟨hP, hD, va_S.rf⟩ hl
  intro u H locs ls pc hdg hp hO
  exact W.vret hx hb hr (fun t ht hW => ⟨⟨u, rfl, hp, by rw [ht]; exact hO.1, hK.warm hW, hO.2.1⟩, hO.2.2.F ht⟩) hO.2.2.2.2 hdg
/-! calls within one world -/
theorem pre_ok {av : List Value} {hp : va_P D vwCl (w u0) H} (hK : Kk D cy s) (hD : va_D A (w u0)) : ∀ U : State, U.heap = H → s.WarmedH U.vm → va_Pc av (fun U => U.heap.size = H.size ∧ va_P D vwCl (w u0) U.heap ∧ Kk D cy U ∧ va_D (fun _ => True) (w u0)) av.toArray U :=
  fun U hU hW => ⟨rfl, by rw [hU], by rw [hU]; exact hp, hK.warm hW, hD.weaken (fun _ _ _ _ => trivial)⟩
theorem pre_blind {av : List Value} {sz : Nat} : FrameBlind (va_Pc av (fun U => U.heap.size = sz ∧ va_P D vwCl (w u0) U.heap ∧ Kk D cy U ∧ va_D (fun _ => True) (w u0))) := fun a U g mk q => by
  obtain ⟨q0, q1, qP, qK, qD⟩ := q
  exact ⟨q0, q1, qP, qK.call, qD⟩
variable {y : MethodName} {bytes : ByteArray} {maxL n index : Nat} {rm : Room} {b : Nat} {As : List Value} {Cn : String}
theorem cVi {ty : FieldType} {post : Int32 → St → Prop} (C : Cx p s m args c cc nL own D cy A) (hO : Wo D A (w u0) s.heap H locs) (hM : Mi l D cy w y (.code y bytes maxL (some ty)) rm (.ref b :: As) u0 post)
    (cw : CallW R s args own Cn index y bytes maxL (some ty) (.code y bytes maxL (some ty) :: gtb) rm 0 0 n) (q0 : Nat) {ci : Nat} {q : vw_C} {fs : List Value} (hc : vwCl[ci]? = some q) (he : (w u0)[q0]? = some (b, .inr (ci, fs))) (hq : q.1 = Cn) (hn : As.length = n) (hls : ls.size = nL) (hW : (rest.map fun v => v.category).sum ≤ 8) (hdg : decode cc pc = .ok (.invokevirtual index, 3)) {st : List Value} (hst : st = As.reverse ++ .ref b :: rest) (hf : cells ≤ R.cells ∧ slots ≤ R.slots)
    (kk : ∀ (r : Int32) (u : St) (H : Heap) (locs : List Loc), post r u → Wo D A (w u) s.heap H locs → W p l e R s m args below meth c H locs cells slots Q (F0 m (pc + 3) ls (.int r :: rest))) : W p l e R s m args below meth c H locs cells slots Q (F0 m pc ls st) := by
  obtain ⟨hx, hb, hml, hown, ht, hK, hA⟩ := C
  obtain ⟨hP, hD, hS⟩ := hO
  subst hst
  have hF : ∀ q, va_A (w u0) H.size q → A q := fun q h => hD.self' hS hA h
  have hrec := va_recv hK.1 hP hc he
  rw [hq] at hrec
  refine va_calli (va_runV (As := As) (rest := rest) ⟨hx, hb, hml, hown, ht⟩ (hM H.size) cw ⟨pre_blind, hrec, pre_ok (hp := hP) hK hD⟩ rfl hn hls rfl (lv_room hW) hdg hf) hS (fun q _ h => hF q h) hF (fun r u t H1 locs1 ht1 hvm hp hB hz hk hS1 => ?_)
  obtain ⟨hP1, hK1, hD1⟩ := hB
  rw [ht1] at hP1
  exact kk r u H1 locs1 hp ⟨hP1, hD1.weaken (fun _ q _ h => hF q.1 h), hS1⟩
theorem cVj {post : Int64 → St → Prop} (C : Cx p s m args c cc nL own D cy A) (hO : Wo D A (w u0) s.heap H locs) (hM : Mj l D cy w y (.code y bytes maxL (some .long)) rm (.ref b :: As) u0 post)
    (cw : CallW R s args own Cn index y bytes maxL (some .long) (.code y bytes maxL (some .long) :: gtb) rm 0 0 n) (q0 : Nat) {ci : Nat} {q : vw_C} {fs : List Value} (hc : vwCl[ci]? = some q) (he : (w u0)[q0]? = some (b, .inr (ci, fs))) (hq : q.1 = Cn) (hn : As.length = n) (hls : ls.size = nL) (hW : (rest.map fun v => v.category).sum ≤ 8) (hdg : decode cc pc = .ok (.invokevirtual index, 3)) {st : List Value} (hst : st = As.reverse ++ .ref b :: rest) (hf : cells ≤ R.cells ∧ slots ≤ R.slots)
    (kk : ∀ (r : Int64) (u : St) (H : Heap) (locs : List Loc), post r u → Wo D A (w u) s.heap H locs → W p l e R s m args below meth c H locs cells slots Q (F0 m (pc + 3) ls (.long r :: rest))) : W p l e R s m args below meth c H locs cells slots Q (F0 m pc ls st) := by
  obtain ⟨hx, hb, hml, hown, ht, hK, hA⟩ := C
  obtain ⟨hP, hD, hS⟩ := hO
  subst hst
  have hF : ∀ q, va_A (w u0) H.size q → A q := fun q h => hD.self' hS hA h
  have hrec := va_recv hK.1 hP hc he
  rw [hq] at hrec
  refine va_calll (va_runV (As := As) (rest := rest) ⟨hx, hb, hml, hown, ht⟩ (hM H.size) cw ⟨pre_blind, hrec, pre_ok (hp := hP) hK hD⟩ rfl hn hls rfl (lv_room hW) hdg hf) hS (fun q _ h => hF q h) hF (fun r u t H1 locs1 ht1 hvm hp hB hz hk hS1 => ?_)
  obtain ⟨hP1, hK1, hD1⟩ := hB
  rw [ht1] at hP1
  exact kk r u H1 locs1 hp ⟨hP1, hD1.weaken (fun _ q _ h => hF q.1 h), hS1⟩
theorem cVv {post : St → Prop} (C : Cx p s m args c cc nL own D cy A) (hO : Wo D A (w u0) s.heap H locs) (hM : Mv l D cy w y (.code y bytes maxL none) rm (.ref b :: As) u0 post)
    (cw : CallW R s args own Cn index y bytes maxL none (.code y bytes maxL none :: gtb) rm 0 0 n) (q0 : Nat) {ci : Nat} {q : vw_C} {fs : List Value} (hc : vwCl[ci]? = some q) (he : (w u0)[q0]? = some (b, .inr (ci, fs))) (hq : q.1 = Cn) (hn : As.length = n) (hls : ls.size = nL) (hW : (rest.map fun v => v.category).sum ≤ 8) (hdg : decode cc pc = .ok (.invokevirtual index, 3)) {st : List Value} (hst : st = As.reverse ++ .ref b :: rest) (hf : cells ≤ R.cells ∧ slots ≤ R.slots)
    (kk : ∀ (u : St) (H : Heap) (locs : List Loc), post u → Wo D A (w u) s.heap H locs → W p l e R s m args below meth c H locs cells slots Q (F0 m (pc + 3) ls rest)) : W p l e R s m args below meth c H locs cells slots Q (F0 m pc ls st) := by
  obtain ⟨hx, hb, hml, hown, ht, hK, hA⟩ := C
  obtain ⟨hP, hD, hS⟩ := hO
  subst hst
  have hF : ∀ q, va_A (w u0) H.size q → A q := fun q h => hD.self' hS hA h
  have hrec := va_recv hK.1 hP hc he
  rw [hq] at hrec
  refine va_callv (va_runV (As := As) (rest := rest) ⟨hx, hb, hml, hown, ht⟩ (hM H.size) cw ⟨pre_blind, hrec, pre_ok (hp := hP) hK hD⟩ rfl hn hls rfl (lv_room hW) hdg hf) hS (fun q _ h => hF q h) hF (fun u t H1 locs1 ht1 hvm hp hB hz hk hS1 => ?_)
  obtain ⟨hP1, hK1, hD1⟩ := hB
  rw [ht1] at hP1
  exact kk u H1 locs1 hp ⟨hP1, hD1.weaken (fun _ q _ h => hF q.1 h), hS1⟩
theorem cSi {ty : FieldType} {post : Int32 → St → Prop} (C : Cx p s m args c cc nL own D cy A) (hO : Wo D A (w u0) s.heap H locs) (hM : Mi l D cy w y (.code y bytes maxL (some ty)) rm As u0 post)
    (cw : CallB R s args own index y bytes maxL (some ty) (.code y bytes maxL (some ty) :: gtb) rm 0 0 n ∧ (Cond.static y).before args s = true) (hn : As.length = n) (hls : ls.size = nL) (hW : (rest.map fun v => v.category).sum ≤ 8) (hdg : decode cc pc = .ok (.invokestatic index, 3)) {st : List Value} (hst : st = As.reverse ++ rest) (hf : cells ≤ R.cells ∧ slots ≤ R.slots)
    (kk : ∀ (r : Int32) (u : St) (H : Heap) (locs : List Loc), post r u → Wo D A (w u) s.heap H locs → W p l e R s m args below meth c H locs cells slots Q (F0 m (pc + 3) ls (.int r :: rest))) : W p l e R s m args below meth c H locs cells slots Q (F0 m pc ls st) := by
  obtain ⟨hx, hb, hml, hown, ht, hK, hA⟩ := C
  obtain ⟨hP, hD, hS⟩ := hO
  subst hst
  have hF : ∀ q, va_A (w u0) H.size q → A q := fun q h => hD.self' hS hA h
  refine va_calli (va_runS (As := As) (rest := rest) ⟨hx, hb, hml, hown, ht⟩ (hM H.size) cw ⟨pre_blind, pre_ok (hp := hP) hK hD⟩ rfl hn hls rfl (lv_room hW) hdg hf) hS (fun q _ h => hF q h) hF (fun r u t H1 locs1 ht1 hvm hp hB hz hk hS1 => ?_)
  obtain ⟨hP1, hK1, hD1⟩ := hB
  rw [ht1] at hP1
  exact kk r u H1 locs1 hp ⟨hP1, hD1.weaken (fun _ q _ h => hF q.1 h), hS1⟩
theorem cSv {post : St → Prop} (C : Cx p s m args c cc nL own D cy A) (hO : Wo D A (w u0) s.heap H locs) (hM : Mv l D cy w y (.code y bytes maxL none) rm As u0 post)
    (cw : CallB R s args own index y bytes maxL none (.code y bytes maxL none :: gtb) rm 0 0 n ∧ (Cond.static y).before args s = true) (hn : As.length = n) (hls : ls.size = nL) (hW : (rest.map fun v => v.category).sum ≤ 8) (hdg : decode cc pc = .ok (.invokestatic index, 3)) {st : List Value} (hst : st = As.reverse ++ rest) (hf : cells ≤ R.cells ∧ slots ≤ R.slots)
    (kk : ∀ (u : St) (H : Heap) (locs : List Loc), post u → Wo D A (w u) s.heap H locs → W p l e R s m args below meth c H locs cells slots Q (F0 m (pc + 3) ls rest)) : W p l e R s m args below meth c H locs cells slots Q (F0 m pc ls st) := by
  obtain ⟨hx, hb, hml, hown, ht, hK, hA⟩ := C
  obtain ⟨hP, hD, hS⟩ := hO
  subst hst
  have hF : ∀ q, va_A (w u0) H.size q → A q := fun q h => hD.self' hS hA h
  refine va_callv (va_runS (As := As) (rest := rest) ⟨hx, hb, hml, hown, ht⟩ (hM H.size) cw ⟨pre_blind, pre_ok (hp := hP) hK hD⟩ rfl hn hls rfl (lv_room hW) hdg hf) hS (fun q _ h => hF q h) hF (fun u t H1 locs1 ht1 hvm hp hB hz hk hS1 => ?_)
  obtain ⟨hP1, hK1, hD1⟩ := hB
  rw [ht1] at hP1
  exact kk u H1 locs1 hp ⟨hP1, hD1.weaken (fun _ q _ h => hF q.1 h), hS1⟩
theorem cNv {host : String} {post : St → Prop} (C : Cx p s m args c cc nL own D cy A) (hO : Wo D A (w u0) s.heap H locs) (hM : Mv l D cy w y (.code y bytes maxL none) rm As u0 post)
    (cw : va_CN R s args own index y host bytes maxL none (.code y bytes maxL none :: gtb) rm 0 0 n ∧ (Cond.static y).before args s = true ∧ True) (hn : As.length = n) (hls : ls.size = nL) (hW : (rest.map fun v => v.category).sum ≤ 8) (hdg : decode cc pc = .ok (.invokestatic index, 3)) {st : List Value} (hst : st = As.reverse ++ rest) (hf : cells ≤ R.cells ∧ slots ≤ R.slots)
    (kk : ∀ (u : St) (H : Heap) (locs : List Loc), post u → Wo D A (w u) s.heap H locs → W p l e R s m args below meth c H locs cells slots Q (F0 m (pc + 3) ls rest)) : W p l e R s m args below meth c H locs cells slots Q (F0 m pc ls st) := by
  obtain ⟨hx, hb, hml, hown, ht, hK, hA⟩ := C
  obtain ⟨hP, hD, hS⟩ := hO
  subst hst
  have hF : ∀ q, va_A (w u0) H.size q → A q := fun q h => hD.self' hS hA h
  refine va_callv (va_runSN (As := As) (rest := rest) ⟨hx, hb, hml, hown, ht⟩ (hM H.size) cw ⟨pre_blind, pre_ok (hp := hP) hK hD⟩ rfl hn hls rfl (lv_room hW) hdg hf) hS (fun q _ h => hF q h) hF (fun u t H1 locs1 ht1 hvm hp hB hz hk hS1 => ?_)
  obtain ⟨hP1, hK1, hD1⟩ := hB
  rw [ht1] at hP1
  exact kk u H1 locs1 hp ⟨hP1, hD1.weaken (fun _ q _ h => hF q.1 h), hS1⟩
end FR
end
section
/-! loads and stores over a world -/
section GA
variable {p : Program} {l : Launch} {e : Env} {R : Room} {s : State} {m : MethodId} {args : Array Value} {below : List Frame} {meth : Method} {c : Code} {H : Heap} {locs : List Loc} {cells slots : Nat} {Q : State → Prop}
variable {cc : ByteArray} {pc nL : Nat} {ls : Array Slot} {rest : List Value} {D : va_G} {cy : Nat → ClassId} {A : Nat → Prop} {own : String} {ws : va_W} {b : Nat}
theorem gF {ci k index : Nat} {T : u_T} {N : Nat} {Cn ref : String} {fs : List Value} {v : Value} (C : Cx p s m args c cc nL own D cy A) (hO : Wo D A ws s.heap H locs) (q0 : Nat) (he : ws[q0]? = some (b, .inr (ci, fs))) (hc : vwCl[ci]? = some (Cn, T, N)) (hin : ∀ w ∈ u_ws Cn T N, w ∈ gtb) (hk : k < N) (hl : Cond.fieldLink own index ref (T k).2.1 (T k).2.2.1 ∈ gtb) (href : (T k).1 = ref) (hv : fs[k]? = some v) (hdg : decode cc pc = .ok (.getfield index, 3))
    (kk : W p l e R s m args below meth c H locs cells slots Q (F0 m (pc + 3) ls (v :: rest))) : W p l e R s m args below meth c H locs cells slots Q (F0 m pc ls (.ref b :: rest)) := by
  obtain ⟨hx, hb, hml, hown, ht, hK, hA⟩ := C
  subst href
  exact va_get hx hb ht hin hown hK.1 hO.1 q0 he hc k hk (ht _ hl) (fun _ h => h) hv hdg kk
theorem pF {ci k index : Nat} {T : u_T} {N : Nat} {Cn ref : String} {fs : List Value} {v : Value} {ws' : va_W} {ty : FieldType} (C : Cx p s m args c cc nL own D cy A) (hO : Wo D A ws s.heap H locs) (q0 : Nat) (he : ws[q0]? = some (b, .inr (ci, fs))) (hc : vwCl[ci]? = some (Cn, T, N)) (hin : ∀ w ∈ u_ws Cn T N, w ∈ gtb) (hk : k < N) (hl : Cond.fieldLink own index ref (T k).2.1 (T k).2.2.1 ∈ gtb) (href : (T k).1 = ref) (ty0 : Nat → FieldType) (hty : ∀ k, k < N → parseFieldDescriptor (T k).2.2.1 = some (ty0 k)) (hnm : ∀ a, a < N → ∀ b, b < N → a ≠ b → (T a).2.1 ≠ (T b).2.1) (hfin : (T k).2.2.2 = false) (hd : parseFieldDescriptor (T k).2.2.1 = some ty) (hn : narrow ty v = v) (hfit : fits ty v = true) (hlen : k < fs.length) (hw : ws.set q0 (b, .inr (ci, fs.set k v)) = ws') (hdg : decode cc pc = .ok (.putfield index, 3))
    (kk : ∀ (H : Heap) (locs : List Loc), Wo D A ws' s.heap H locs → W p l e R s m args below meth c H locs cells slots Q (F0 m (pc + 3) ls rest)) : W p l e R s m args below meth c H locs cells slots Q (F0 m pc ls (v :: .ref b :: rest)) := by
  obtain ⟨hx, hb, hml, hown, ht, hK, hA⟩ := C
  subst href
  exact va_put hx hb ht hin ty0 hty hnm hown hK.1 hO.1 hO.2.1 hO.2.2 q0 he hc k hk (ht _ hl) (fun _ h => h) hfin hd hn hfit hlen hdg (fun H1 locs1 h1 h2 h3 => kk H1 locs1 (by rw [hw] at h1 h2; exact ⟨h1, h2, h3⟩))
theorem aI {n : Nat} {f : Nat → Int32} {i : Int32} (C : Cx p s m args c cc nL own D cy A) (hO : Wo D A ws s.heap H locs) (q0 : Nat) (ha : ws[q0]? = some (b, .inl (cy 1, n, .inl f))) (hin : vp_in i n) (hdg : decode cc pc = .ok (.iaload, 1))
    (kk : W p l e R s m args below meth c H locs cells slots Q (F0 m (pc + 1) ls (.int (f i.toNatClampNeg) :: rest))) : W p l e R s m args below meth c H locs cells slots Q (F0 m pc ls (.int i :: .ref b :: rest)) :=
  va_iald C.1 C.2.1 C.2.2.2.2.2.1.1 hO.1 q0 1 ha rfl hin hdg kk
theorem aB {n : Nat} {f : Nat → Int32} {i : Int32} (C : Cx p s m args c cc nL own D cy A) (hO : Wo D A ws s.heap H locs) (q0 : Nat) (ha : ws[q0]? = some (b, .inl (cy 0, n, .inl f))) (hin : vp_in i n) (hdg : decode cc pc = .ok (.baload, 1))
    (kk : W p l e R s m args below meth c H locs cells slots Q (F0 m (pc + 1) ls (.int (f i.toNatClampNeg) :: rest))) : W p l e R s m args below meth c H locs cells slots Q (F0 m pc ls (.int i :: .ref b :: rest)) :=
  va_bald C.1 C.2.1 C.2.2.2.2.2.1.1 hO.1 q0 0 ha rfl hin hdg kk
theorem aZ {n : Nat} {f : Nat → Int32} {i : Int32} (C : Cx p s m args c cc nL own D cy A) (hO : Wo D A ws s.heap H locs) (q0 : Nat) (ha : ws[q0]? = some (b, .inl (cy 3, n, .inl f))) (hin : vp_in i n) (hdg : decode cc pc = .ok (.baload, 1))
    (kk : W p l e R s m args below meth c H locs cells slots Q (F0 m (pc + 1) ls (.int (f i.toNatClampNeg) :: rest))) : W p l e R s m args below meth c H locs cells slots Q (F0 m pc ls (.int i :: .ref b :: rest)) :=
  va_zald C.1 C.2.1 C.2.2.2.2.2.1.1 hO.1 q0 3 ha rfl hin hdg kk
theorem aJ {n : Nat} {f : Nat → Int64} {i : Int32} (C : Cx p s m args c cc nL own D cy A) (hO : Wo D A ws s.heap H locs) (q0 : Nat) (ha : ws[q0]? = some (b, .inl (cy 2, n, .inr (.inl f)))) (hin : vp_in i n) (hdg : decode cc pc = .ok (.laload, 1))
    (kk : W p l e R s m args below meth c H locs cells slots Q (F0 m (pc + 1) ls (.long (f i.toNatClampNeg) :: rest))) : W p l e R s m args below meth c H locs cells slots Q (F0 m pc ls (.int i :: .ref b :: rest)) :=
  va_lald C.1 C.2.1 C.2.2.2.2.2.1.1 hO.1 q0 2 ha rfl hin hdg kk
theorem aII {n : Nat} {f : Nat → Option Nat} {i : Int32} (C : Cx p s m args c cc nL own D cy A) (hO : Wo D A ws s.heap H locs) (q0 : Nat) (ha : ws[q0]? = some (b, .inl (cy 4, n, .inr (.inr (.inr (.inr f)))))) (hin : vp_in i n) (hdg : decode cc pc = .ok (.aaload, 1))
    (kk : W p l e R s m args below meth c H locs cells slots Q (F0 m (pc + 1) ls (va_rf (f i.toNatClampNeg) :: rest))) : W p l e R s m args below meth c H locs cells slots Q (F0 m pc ls (.int i :: .ref b :: rest)) := by
  have hlt : i.toNatClampNeg < n := Nat.not_le.mp fun q => hin (Or.inr q)
  exact W.aald (v := va_rf (f i.toNatClampNeg)) (ty := .array .int) C.1 C.2.1 (hO.1 q0 _ ha) ((C.2.2.2.2.2.1.1.2 4 _ rfl).1 n (fun j => va_rf (f j))) rfl (fun q => by cases q) (by show ¬ (i < 0 ∨ (arrV _ _ _).slots.size ≤ _); rw [arrV_size]; exact hin) (by show (arrV _ _ _).slots[_]? = _; rw [arrV_read _ _ hlt]) rfl rfl hdg kk
theorem aIs {n : Nat} {f : Nat → Int32} {i x : Int32} {ws' : va_W} (C : Cx p s m args c cc nL own D cy A) (hO : Wo D A ws s.heap H locs) (q0 : Nat) (ha : ws[q0]? = some (b, .inl (cy 1, n, .inl f))) (hin : vp_in i n) (hw : ws.set q0 (b, .inl (cy 1, n, .inl (upd f i.toNatClampNeg x))) = ws') (hdg : decode cc pc = .ok (.iastore, 1))
    (kk : ∀ (H : Heap) (locs : List Loc), Wo D A ws' s.heap H locs → W p l e R s m args below meth c H locs cells slots Q (F0 m (pc + 1) ls rest)) : W p l e R s m args below meth c H locs cells slots Q (F0 m pc ls (.int x :: .int i :: .ref b :: rest)) :=
  va_iast C.1 C.2.1 C.2.2.2.2.2.1.1 hO.1 hO.2.1 hO.2.2 q0 1 ha rfl hin hdg (fun H1 locs1 h1 h2 h3 => kk H1 locs1 (by rw [hw] at h1 h2; exact ⟨h1, h2, h3⟩))
theorem aBs {n : Nat} {f : Nat → Int32} {i x : Int32} {ws' : va_W} (C : Cx p s m args c cc nL own D cy A) (hO : Wo D A ws s.heap H locs) (q0 : Nat) (ha : ws[q0]? = some (b, .inl (cy 0, n, .inl f))) (hin : vp_in i n) (hw : ws.set q0 (b, .inl (cy 0, n, .inl (upd f i.toNatClampNeg (vp_nar .byte x)))) = ws') (hdg : decode cc pc = .ok (.bastore, 1))
    (kk : ∀ (H : Heap) (locs : List Loc), Wo D A ws' s.heap H locs → W p l e R s m args below meth c H locs cells slots Q (F0 m (pc + 1) ls rest)) : W p l e R s m args below meth c H locs cells slots Q (F0 m pc ls (.int x :: .int i :: .ref b :: rest)) :=
  va_bast C.1 C.2.1 C.2.2.2.2.2.1.1 hO.1 hO.2.1 hO.2.2 q0 0 ha rfl hin hdg (fun H1 locs1 h1 h2 h3 => kk H1 locs1 (by rw [hw] at h1 h2; exact ⟨h1, h2, h3⟩))
theorem aZs {n : Nat} {f : Nat → Int32} {i x : Int32} {ws' : va_W} (C : Cx p s m args c cc nL own D cy A) (hO : Wo D A ws s.heap H locs) (q0 : Nat) (ha : ws[q0]? = some (b, .inl (cy 3, n, .inl f))) (hin : vp_in i n) (hw : ws.set q0 (b, .inl (cy 3, n, .inl (upd f i.toNatClampNeg (vp_nar .boolean x)))) = ws') (hdg : decode cc pc = .ok (.bastore, 1))
    (kk : ∀ (H : Heap) (locs : List Loc), Wo D A ws' s.heap H locs → W p l e R s m args below meth c H locs cells slots Q (F0 m (pc + 1) ls rest)) : W p l e R s m args below meth c H locs cells slots Q (F0 m pc ls (.int x :: .int i :: .ref b :: rest)) :=
  va_zast C.1 C.2.1 C.2.2.2.2.2.1.1 hO.1 hO.2.1 hO.2.2 q0 3 ha rfl hin hdg (fun H1 locs1 h1 h2 h3 => kk H1 locs1 (by rw [hw] at h1 h2; exact ⟨h1, h2, h3⟩))
theorem aJs {n : Nat} {f : Nat → Int64} {i : Int32} {x : Int64} {ws' : va_W} (C : Cx p s m args c cc nL own D cy A) (hO : Wo D A ws s.heap H locs) (q0 : Nat) (ha : ws[q0]? = some (b, .inl (cy 2, n, .inr (.inl f)))) (hin : vp_in i n) (hw : ws.set q0 (b, .inl (cy 2, n, .inr (.inl (vp_updL f i.toNatClampNeg x)))) = ws') (hdg : decode cc pc = .ok (.lastore, 1))
    (kk : ∀ (H : Heap) (locs : List Loc), Wo D A ws' s.heap H locs → W p l e R s m args below meth c H locs cells slots Q (F0 m (pc + 1) ls rest)) : W p l e R s m args below meth c H locs cells slots Q (F0 m pc ls (.long x :: .int i :: .ref b :: rest)) :=
  va_last C.1 C.2.1 C.2.2.2.2.2.1.1 hO.1 hO.2.1 hO.2.2 q0 2 ha rfl hin hdg (fun H1 locs1 h1 h2 h3 => kk H1 locs1 (by rw [hw] at h1 h2; exact ⟨h1, h2, h3⟩))
theorem aLen {x : vp_A} {ty : FieldType} {cA : ClassId} {v : Int32} (C : Cx p s m args c cc nL own D cy A) (hO : Wo D A ws s.heap H locs) (q0 t0 : Nat) (ha : ws[q0]? = some (b, .inl (cA, x))) (ht : (tyL cy)[t0]? = some (cA, ty)) (hv : Int32.ofNat x.1 = v) (hdg : decode cc pc = .ok (.arraylength, 1))
    (kk : W p l e R s m args below meth c H locs cells slots Q (F0 m (pc + 1) ls (.int v :: rest))) : W p l e R s m args below meth c H locs cells slots Q (F0 m pc ls (.ref b :: rest)) :=
  va_alen C.1 C.2.1 C.2.2.2.2.2.1.1 hO.1 q0 t0 ha ht hv hdg kk
/-- the value on top by another name -/
theorem tE {x y : Int32} (h : x = y) (kk : W p l e R s m args below meth c H locs cells slots Q (F0 m pc ls (.int y :: rest))) : W p l e R s m args below meth c H locs cells slots Q (F0 m pc ls (.int x :: rest)) := by rw [h]; exact kk
theorem tEv {x y : Value} (h : x = y) (kk : W p l e R s m args below meth c H locs cells slots Q (F0 m pc ls (y :: rest))) : W p l e R s m args below meth c H locs cells slots Q (F0 m pc ls (x :: rest)) := by rw [h]; exact kk
end GA
def cW (cy : Nat → ClassId) (a : Nat → Nat) (u : St) : va_W := [(a 0, .inr (10, [.ref (a 1), .ref (a 27), .ref (a 28), .ref (a 30), .ref (a 32), .ref (a 34), .ref (a 36), .ref (a 39), .ref (a 45), .ref (a 46), .int (fI u 0 10), .int (fI u 0 11), .ref (fR u 1)])), (a 1, .inr (7, [.ref (a 2), .int (fI u 1 1), .int (fI u 1 2), .int (fI u 1 3), .int (fI u 1 4), .long (fL u 1 5), .int (fI u 1 6)])), (a 2, .inl (cy 0, 1600, .inl (fA u 2))), (a 3, .inr (9, [.ref (a 4), .ref (a 5), .ref (a 6), .ref (a 7), .ref (a 8), .ref (a 9), .ref (a 10), .ref (a 11), .ref (a 12), .int (fI u 3 9), .int (fI u 3 10), .int (fI u 3 11), .int (fI u 3 12), .int (fI u 3 13), .int (fI u 3 14), .int (fI u 3 15), .int (fI u 3 16), .int (fI u 3 17)])), (a 4, .inl (cy 2, 8, .inr (.inl (fJ u 4)))), (a 5, .inl (cy 2, 8, .inr (.inl (fJ u 5)))), (a 6, .inl (cy 2, 6, .inr (.inl (fJ u 6)))), (a 7, .inl (cy 1, 14, .inl (fA u 7))), (a 8, .inl (cy 1, 14, .inl (fA u 8))), (a 9, .inl (cy 1, 8, .inl (fA u 9))), (a 10, .inl (cy 1, 6, .inl (fA u 10))), (a 11, .inl (cy 1, 6, .inl (fA u 11))), (a 12, .inr (4, [.ref (a 13), .ref (a 14), .int (fI u 12 2), .int (fI u 12 3), .int (fI u 12 4), .int (fI u 12 5), .int (fI u 12 6), .int (fI u 12 7), .int (fI u 12 8), .int (fI u 12 9), .int (fI u 12 10)])), (a 13, .inl (cy 1, 300, .inl (fA u 13))), (a 14, .inl (cy 1, 31, .inl (fA u 14))), (a 15, .inr (9, [.ref (a 16), .ref (a 17), .ref (a 18), .ref (a 19), .ref (a 20), .ref (a 21), .ref (a 22), .ref (a 23), .ref (a 24), .int (fI u 15 9), .int (fI u 15 10), .int (fI u 15 11), .int (fI u 15 12), .int (fI u 15 13), .int (fI u 15 14), .int (fI u 15 15), .int (fI u 15 16), .int (fI u 15 17)])), (a 16, .inl (cy 2, 8, .inr (.inl (fJ u 16)))), (a 17, .inl (cy 2, 8, .inr (.inl (fJ u 17)))), (a 18, .inl (cy 2, 6, .inr (.inl (fJ u 18)))), (a 19, .inl (cy 1, 14, .inl (fA u 19))), (a 20, .inl (cy 1, 14, .inl (fA u 20))), (a 21, .inl (cy 1, 8, .inl (fA u 21))), (a 22, .inl (cy 1, 6, .inl (fA u 22))), (a 23, .inl (cy 1, 6, .inl (fA u 23))), (a 24, .inr (4, [.ref (a 25), .ref (a 26), .int (fI u 24 2), .int (fI u 24 3), .int (fI u 24 4), .int (fI u 24 5), .int (fI u 24 6), .int (fI u 24 7), .int (fI u 24 8), .int (fI u 24 9), .int (fI u 24 10)])), (a 25, .inl (cy 1, 300, .inl (fA u 25))), (a 26, .inl (cy 1, 31, .inl (fA u 26))), (a 27, .inr (5, [.ref (a 1), .ref (fR u 2), .int (fI u 27 2), .int (fI u 27 3)])), (a 28, .inr (2, [.ref (a 29), .ref (fR u 0)])), (a 29, .inl (cy 1, 29, .inl (fA u 29))), (a 30, .inr (0, [.ref (a 31), .int (fI u 30 1), .int (fI u 30 2), .int (fI u 30 3)])), (a 31, .inl (cy 4, 41, .inr (.inr (.inr (.inr (fun i => if i < 41 then some (a (47 + i)) else none)))))), (a 32, .inr (8, [.ref (a 28), .ref (a 33)])), (a 33, .inl (cy 1, 64, .inl (fA u 33))), (a 34, .inr (6, [.ref (a 28), .ref (a 32), .ref (a 35)])), (a 35, .inl (cy 1, 384, .inl (fA u 35))), (a 36, .inr (1, [.ref (a 28), .ref (a 37), .ref (a 38)])), (a 37, .inl (cy 1, 8, .inl (fA u 37))), (a 38, .inl (cy 1, 8, .inl (fA u 38))), (a 39, .inr (3, [.ref (a 40), .ref (a 41), .ref (a 42), .ref (a 43), .ref (a 44), .int (fI u 39 5), .int (fI u 39 6)])), (a 40, .inl (cy 1, 30, .inl (fA u 40))), (a 41, .inl (cy 1, 30, .inl (fA u 41))), (a 42, .inl (cy 3, 30, .inl (fA u 42))), (a 43, .inl (cy 1, 30, .inl (fA u 43))), (a 44, .inl (cy 1, 30, .inl (fA u 44))), (a 45, .inl (cy 4, 3, .inr (.inr (.inr (.inr (fun i => if i < 3 then some (a (88 + i)) else none)))))), (a 46, .inl (cy 1, 8, .inl (fA u 46)))] ++ (List.range 44).map (fun i => (a (47 + i), .inl (cy 1, 29, .inl (fB u i))))
section
variable {cy : Nat → ClassId} {a : Nat → Nat} {u : St}
theorem cW_0 : (cW cy a u)[0]? = some (a 0, .inr (10, [.ref (a 1), .ref (a 27), .ref (a 28), .ref (a 30), .ref (a 32), .ref (a 34), .ref (a 36), .ref (a 39), .ref (a 45), .ref (a 46), .int (fI u 0 10), .int (fI u 0 11), .ref (fR u 1)])) := rfl
theorem cW_s0_10 {v : Int32} : (cW cy a u).set 0 (a 0, .inr (10, ([.ref (a 1), .ref (a 27), .ref (a 28), .ref (a 30), .ref (a 32), .ref (a 34), .ref (a 36), .ref (a 39), .ref (a 45), .ref (a 46), .int (fI u 0 10), .int (fI u 0 11), .ref (fR u 1)] : List Value).set 10 (.int v))) = cW cy a (sI u 0 10 v) := rfl
theorem cW_s0_11 {v : Int32} : (cW cy a u).set 0 (a 0, .inr (10, ([.ref (a 1), .ref (a 27), .ref (a 28), .ref (a 30), .ref (a 32), .ref (a 34), .ref (a 36), .ref (a 39), .ref (a 45), .ref (a 46), .int (fI u 0 10), .int (fI u 0 11), .ref (fR u 1)] : List Value).set 11 (.int v))) = cW cy a (sI u 0 11 v) := rfl
theorem cW_s0_12 {v : Nat} : (cW cy a u).set 0 (a 0, .inr (10, ([.ref (a 1), .ref (a 27), .ref (a 28), .ref (a 30), .ref (a 32), .ref (a 34), .ref (a 36), .ref (a 39), .ref (a 45), .ref (a 46), .int (fI u 0 10), .int (fI u 0 11), .ref (fR u 1)] : List Value).set 12 (.ref v))) = cW cy a (sR u 1 v) := rfl
theorem cW_1 : (cW cy a u)[1]? = some (a 1, .inr (7, [.ref (a 2), .int (fI u 1 1), .int (fI u 1 2), .int (fI u 1 3), .int (fI u 1 4), .long (fL u 1 5), .int (fI u 1 6)])) := rfl
theorem cW_s1_1 {v : Int32} : (cW cy a u).set 1 (a 1, .inr (7, ([.ref (a 2), .int (fI u 1 1), .int (fI u 1 2), .int (fI u 1 3), .int (fI u 1 4), .long (fL u 1 5), .int (fI u 1 6)] : List Value).set 1 (.int v))) = cW cy a (sI u 1 1 v) := rfl
theorem cW_s1_2 {v : Int32} : (cW cy a u).set 1 (a 1, .inr (7, ([.ref (a 2), .int (fI u 1 1), .int (fI u 1 2), .int (fI u 1 3), .int (fI u 1 4), .long (fL u 1 5), .int (fI u 1 6)] : List Value).set 2 (.int v))) = cW cy a (sI u 1 2 v) := rfl
theorem cW_s1_3 {v : Int32} : (cW cy a u).set 1 (a 1, .inr (7, ([.ref (a 2), .int (fI u 1 1), .int (fI u 1 2), .int (fI u 1 3), .int (fI u 1 4), .long (fL u 1 5), .int (fI u 1 6)] : List Value).set 3 (.int v))) = cW cy a (sI u 1 3 v) := rfl
theorem cW_s1_4 {v : Int32} : (cW cy a u).set 1 (a 1, .inr (7, ([.ref (a 2), .int (fI u 1 1), .int (fI u 1 2), .int (fI u 1 3), .int (fI u 1 4), .long (fL u 1 5), .int (fI u 1 6)] : List Value).set 4 (.int v))) = cW cy a (sI u 1 4 v) := rfl
theorem cW_s1_5 {v : Int64} : (cW cy a u).set 1 (a 1, .inr (7, ([.ref (a 2), .int (fI u 1 1), .int (fI u 1 2), .int (fI u 1 3), .int (fI u 1 4), .long (fL u 1 5), .int (fI u 1 6)] : List Value).set 5 (.long v))) = cW cy a (sL u 1 5 v) := rfl
theorem cW_s1_6 {v : Int32} : (cW cy a u).set 1 (a 1, .inr (7, ([.ref (a 2), .int (fI u 1 1), .int (fI u 1 2), .int (fI u 1 3), .int (fI u 1 4), .long (fL u 1 5), .int (fI u 1 6)] : List Value).set 6 (.int v))) = cW cy a (sI u 1 6 v) := rfl
theorem cW_2 : (cW cy a u)[2]? = some (a 2, .inl (cy 0, 1600, .inl (fA u 2))) := rfl
theorem cW_s2 {f : Nat → Int32} : (cW cy a u).set 2 (a 2, .inl (cy 0, 1600, .inl f)) = cW cy a (sA u 2 f) := rfl
theorem cW_3 : (cW cy a u)[3]? = some (a 3, .inr (9, [.ref (a 4), .ref (a 5), .ref (a 6), .ref (a 7), .ref (a 8), .ref (a 9), .ref (a 10), .ref (a 11), .ref (a 12), .int (fI u 3 9), .int (fI u 3 10), .int (fI u 3 11), .int (fI u 3 12), .int (fI u 3 13), .int (fI u 3 14), .int (fI u 3 15), .int (fI u 3 16), .int (fI u 3 17)])) := rfl
theorem cW_s3_9 {v : Int32} : (cW cy a u).set 3 (a 3, .inr (9, ([.ref (a 4), .ref (a 5), .ref (a 6), .ref (a 7), .ref (a 8), .ref (a 9), .ref (a 10), .ref (a 11), .ref (a 12), .int (fI u 3 9), .int (fI u 3 10), .int (fI u 3 11), .int (fI u 3 12), .int (fI u 3 13), .int (fI u 3 14), .int (fI u 3 15), .int (fI u 3 16), .int (fI u 3 17)] : List Value).set 9 (.int v))) = cW cy a (sI u 3 9 v) := rfl
theorem cW_s3_10 {v : Int32} : (cW cy a u).set 3 (a 3, .inr (9, ([.ref (a 4), .ref (a 5), .ref (a 6), .ref (a 7), .ref (a 8), .ref (a 9), .ref (a 10), .ref (a 11), .ref (a 12), .int (fI u 3 9), .int (fI u 3 10), .int (fI u 3 11), .int (fI u 3 12), .int (fI u 3 13), .int (fI u 3 14), .int (fI u 3 15), .int (fI u 3 16), .int (fI u 3 17)] : List Value).set 10 (.int v))) = cW cy a (sI u 3 10 v) := rfl
theorem cW_s3_11 {v : Int32} : (cW cy a u).set 3 (a 3, .inr (9, ([.ref (a 4), .ref (a 5), .ref (a 6), .ref (a 7), .ref (a 8), .ref (a 9), .ref (a 10), .ref (a 11), .ref (a 12), .int (fI u 3 9), .int (fI u 3 10), .int (fI u 3 11), .int (fI u 3 12), .int (fI u 3 13), .int (fI u 3 14), .int (fI u 3 15), .int (fI u 3 16), .int (fI u 3 17)] : List Value).set 11 (.int v))) = cW cy a (sI u 3 11 v) := rfl
theorem cW_s3_12 {v : Int32} : (cW cy a u).set 3 (a 3, .inr (9, ([.ref (a 4), .ref (a 5), .ref (a 6), .ref (a 7), .ref (a 8), .ref (a 9), .ref (a 10), .ref (a 11), .ref (a 12), .int (fI u 3 9), .int (fI u 3 10), .int (fI u 3 11), .int (fI u 3 12), .int (fI u 3 13), .int (fI u 3 14), .int (fI u 3 15), .int (fI u 3 16), .int (fI u 3 17)] : List Value).set 12 (.int v))) = cW cy a (sI u 3 12 v) := rfl
theorem cW_s3_13 {v : Int32} : (cW cy a u).set 3 (a 3, .inr (9, ([.ref (a 4), .ref (a 5), .ref (a 6), .ref (a 7), .ref (a 8), .ref (a 9), .ref (a 10), .ref (a 11), .ref (a 12), .int (fI u 3 9), .int (fI u 3 10), .int (fI u 3 11), .int (fI u 3 12), .int (fI u 3 13), .int (fI u 3 14), .int (fI u 3 15), .int (fI u 3 16), .int (fI u 3 17)] : List Value).set 13 (.int v))) = cW cy a (sI u 3 13 v) := rfl
theorem cW_s3_14 {v : Int32} : (cW cy a u).set 3 (a 3, .inr (9, ([.ref (a 4), .ref (a 5), .ref (a 6), .ref (a 7), .ref (a 8), .ref (a 9), .ref (a 10), .ref (a 11), .ref (a 12), .int (fI u 3 9), .int (fI u 3 10), .int (fI u 3 11), .int (fI u 3 12), .int (fI u 3 13), .int (fI u 3 14), .int (fI u 3 15), .int (fI u 3 16), .int (fI u 3 17)] : List Value).set 14 (.int v))) = cW cy a (sI u 3 14 v) := rfl
theorem cW_s3_15 {v : Int32} : (cW cy a u).set 3 (a 3, .inr (9, ([.ref (a 4), .ref (a 5), .ref (a 6), .ref (a 7), .ref (a 8), .ref (a 9), .ref (a 10), .ref (a 11), .ref (a 12), .int (fI u 3 9), .int (fI u 3 10), .int (fI u 3 11), .int (fI u 3 12), .int (fI u 3 13), .int (fI u 3 14), .int (fI u 3 15), .int (fI u 3 16), .int (fI u 3 17)] : List Value).set 15 (.int v))) = cW cy a (sI u 3 15 v) := rfl
theorem cW_s3_16 {v : Int32} : (cW cy a u).set 3 (a 3, .inr (9, ([.ref (a 4), .ref (a 5), .ref (a 6), .ref (a 7), .ref (a 8), .ref (a 9), .ref (a 10), .ref (a 11), .ref (a 12), .int (fI u 3 9), .int (fI u 3 10), .int (fI u 3 11), .int (fI u 3 12), .int (fI u 3 13), .int (fI u 3 14), .int (fI u 3 15), .int (fI u 3 16), .int (fI u 3 17)] : List Value).set 16 (.int v))) = cW cy a (sI u 3 16 v) := rfl
theorem cW_s3_17 {v : Int32} : (cW cy a u).set 3 (a 3, .inr (9, ([.ref (a 4), .ref (a 5), .ref (a 6), .ref (a 7), .ref (a 8), .ref (a 9), .ref (a 10), .ref (a 11), .ref (a 12), .int (fI u 3 9), .int (fI u 3 10), .int (fI u 3 11), .int (fI u 3 12), .int (fI u 3 13), .int (fI u 3 14), .int (fI u 3 15), .int (fI u 3 16), .int (fI u 3 17)] : List Value).set 17 (.int v))) = cW cy a (sI u 3 17 v) := rfl
theorem cW_4 : (cW cy a u)[4]? = some (a 4, .inl (cy 2, 8, .inr (.inl (fJ u 4)))) := rfl
theorem cW_s4 {f : Nat → Int64} : (cW cy a u).set 4 (a 4, .inl (cy 2, 8, .inr (.inl f))) = cW cy a (sJ u 4 f) := rfl
theorem cW_5 : (cW cy a u)[5]? = some (a 5, .inl (cy 2, 8, .inr (.inl (fJ u 5)))) := rfl
theorem cW_s5 {f : Nat → Int64} : (cW cy a u).set 5 (a 5, .inl (cy 2, 8, .inr (.inl f))) = cW cy a (sJ u 5 f) := rfl
theorem cW_6 : (cW cy a u)[6]? = some (a 6, .inl (cy 2, 6, .inr (.inl (fJ u 6)))) := rfl
theorem cW_s6 {f : Nat → Int64} : (cW cy a u).set 6 (a 6, .inl (cy 2, 6, .inr (.inl f))) = cW cy a (sJ u 6 f) := rfl
theorem cW_7 : (cW cy a u)[7]? = some (a 7, .inl (cy 1, 14, .inl (fA u 7))) := rfl
theorem cW_s7 {f : Nat → Int32} : (cW cy a u).set 7 (a 7, .inl (cy 1, 14, .inl f)) = cW cy a (sA u 7 f) := rfl
theorem cW_8 : (cW cy a u)[8]? = some (a 8, .inl (cy 1, 14, .inl (fA u 8))) := rfl
theorem cW_s8 {f : Nat → Int32} : (cW cy a u).set 8 (a 8, .inl (cy 1, 14, .inl f)) = cW cy a (sA u 8 f) := rfl
theorem cW_9 : (cW cy a u)[9]? = some (a 9, .inl (cy 1, 8, .inl (fA u 9))) := rfl
theorem cW_s9 {f : Nat → Int32} : (cW cy a u).set 9 (a 9, .inl (cy 1, 8, .inl f)) = cW cy a (sA u 9 f) := rfl
theorem cW_10 : (cW cy a u)[10]? = some (a 10, .inl (cy 1, 6, .inl (fA u 10))) := rfl
theorem cW_s10 {f : Nat → Int32} : (cW cy a u).set 10 (a 10, .inl (cy 1, 6, .inl f)) = cW cy a (sA u 10 f) := rfl
theorem cW_11 : (cW cy a u)[11]? = some (a 11, .inl (cy 1, 6, .inl (fA u 11))) := rfl
theorem cW_s11 {f : Nat → Int32} : (cW cy a u).set 11 (a 11, .inl (cy 1, 6, .inl f)) = cW cy a (sA u 11 f) := rfl
theorem cW_12 : (cW cy a u)[12]? = some (a 12, .inr (4, [.ref (a 13), .ref (a 14), .int (fI u 12 2), .int (fI u 12 3), .int (fI u 12 4), .int (fI u 12 5), .int (fI u 12 6), .int (fI u 12 7), .int (fI u 12 8), .int (fI u 12 9), .int (fI u 12 10)])) := rfl
theorem cW_s12_2 {v : Int32} : (cW cy a u).set 12 (a 12, .inr (4, ([.ref (a 13), .ref (a 14), .int (fI u 12 2), .int (fI u 12 3), .int (fI u 12 4), .int (fI u 12 5), .int (fI u 12 6), .int (fI u 12 7), .int (fI u 12 8), .int (fI u 12 9), .int (fI u 12 10)] : List Value).set 2 (.int v))) = cW cy a (sI u 12 2 v) := rfl
theorem cW_s12_3 {v : Int32} : (cW cy a u).set 12 (a 12, .inr (4, ([.ref (a 13), .ref (a 14), .int (fI u 12 2), .int (fI u 12 3), .int (fI u 12 4), .int (fI u 12 5), .int (fI u 12 6), .int (fI u 12 7), .int (fI u 12 8), .int (fI u 12 9), .int (fI u 12 10)] : List Value).set 3 (.int v))) = cW cy a (sI u 12 3 v) := rfl
theorem cW_s12_4 {v : Int32} : (cW cy a u).set 12 (a 12, .inr (4, ([.ref (a 13), .ref (a 14), .int (fI u 12 2), .int (fI u 12 3), .int (fI u 12 4), .int (fI u 12 5), .int (fI u 12 6), .int (fI u 12 7), .int (fI u 12 8), .int (fI u 12 9), .int (fI u 12 10)] : List Value).set 4 (.int v))) = cW cy a (sI u 12 4 v) := rfl
theorem cW_s12_5 {v : Int32} : (cW cy a u).set 12 (a 12, .inr (4, ([.ref (a 13), .ref (a 14), .int (fI u 12 2), .int (fI u 12 3), .int (fI u 12 4), .int (fI u 12 5), .int (fI u 12 6), .int (fI u 12 7), .int (fI u 12 8), .int (fI u 12 9), .int (fI u 12 10)] : List Value).set 5 (.int v))) = cW cy a (sI u 12 5 v) := rfl
theorem cW_s12_6 {v : Int32} : (cW cy a u).set 12 (a 12, .inr (4, ([.ref (a 13), .ref (a 14), .int (fI u 12 2), .int (fI u 12 3), .int (fI u 12 4), .int (fI u 12 5), .int (fI u 12 6), .int (fI u 12 7), .int (fI u 12 8), .int (fI u 12 9), .int (fI u 12 10)] : List Value).set 6 (.int v))) = cW cy a (sI u 12 6 v) := rfl
theorem cW_s12_7 {v : Int32} : (cW cy a u).set 12 (a 12, .inr (4, ([.ref (a 13), .ref (a 14), .int (fI u 12 2), .int (fI u 12 3), .int (fI u 12 4), .int (fI u 12 5), .int (fI u 12 6), .int (fI u 12 7), .int (fI u 12 8), .int (fI u 12 9), .int (fI u 12 10)] : List Value).set 7 (.int v))) = cW cy a (sI u 12 7 v) := rfl
theorem cW_s12_8 {v : Int32} : (cW cy a u).set 12 (a 12, .inr (4, ([.ref (a 13), .ref (a 14), .int (fI u 12 2), .int (fI u 12 3), .int (fI u 12 4), .int (fI u 12 5), .int (fI u 12 6), .int (fI u 12 7), .int (fI u 12 8), .int (fI u 12 9), .int (fI u 12 10)] : List Value).set 8 (.int v))) = cW cy a (sI u 12 8 v) := rfl
theorem cW_s12_9 {v : Int32} : (cW cy a u).set 12 (a 12, .inr (4, ([.ref (a 13), .ref (a 14), .int (fI u 12 2), .int (fI u 12 3), .int (fI u 12 4), .int (fI u 12 5), .int (fI u 12 6), .int (fI u 12 7), .int (fI u 12 8), .int (fI u 12 9), .int (fI u 12 10)] : List Value).set 9 (.int v))) = cW cy a (sI u 12 9 v) := rfl
theorem cW_s12_10 {v : Int32} : (cW cy a u).set 12 (a 12, .inr (4, ([.ref (a 13), .ref (a 14), .int (fI u 12 2), .int (fI u 12 3), .int (fI u 12 4), .int (fI u 12 5), .int (fI u 12 6), .int (fI u 12 7), .int (fI u 12 8), .int (fI u 12 9), .int (fI u 12 10)] : List Value).set 10 (.int v))) = cW cy a (sI u 12 10 v) := rfl
theorem cW_13 : (cW cy a u)[13]? = some (a 13, .inl (cy 1, 300, .inl (fA u 13))) := rfl
theorem cW_s13 {f : Nat → Int32} : (cW cy a u).set 13 (a 13, .inl (cy 1, 300, .inl f)) = cW cy a (sA u 13 f) := rfl
theorem cW_14 : (cW cy a u)[14]? = some (a 14, .inl (cy 1, 31, .inl (fA u 14))) := rfl
theorem cW_s14 {f : Nat → Int32} : (cW cy a u).set 14 (a 14, .inl (cy 1, 31, .inl f)) = cW cy a (sA u 14 f) := rfl
theorem cW_15 : (cW cy a u)[15]? = some (a 15, .inr (9, [.ref (a 16), .ref (a 17), .ref (a 18), .ref (a 19), .ref (a 20), .ref (a 21), .ref (a 22), .ref (a 23), .ref (a 24), .int (fI u 15 9), .int (fI u 15 10), .int (fI u 15 11), .int (fI u 15 12), .int (fI u 15 13), .int (fI u 15 14), .int (fI u 15 15), .int (fI u 15 16), .int (fI u 15 17)])) := rfl
theorem cW_s15_9 {v : Int32} : (cW cy a u).set 15 (a 15, .inr (9, ([.ref (a 16), .ref (a 17), .ref (a 18), .ref (a 19), .ref (a 20), .ref (a 21), .ref (a 22), .ref (a 23), .ref (a 24), .int (fI u 15 9), .int (fI u 15 10), .int (fI u 15 11), .int (fI u 15 12), .int (fI u 15 13), .int (fI u 15 14), .int (fI u 15 15), .int (fI u 15 16), .int (fI u 15 17)] : List Value).set 9 (.int v))) = cW cy a (sI u 15 9 v) := rfl
theorem cW_s15_10 {v : Int32} : (cW cy a u).set 15 (a 15, .inr (9, ([.ref (a 16), .ref (a 17), .ref (a 18), .ref (a 19), .ref (a 20), .ref (a 21), .ref (a 22), .ref (a 23), .ref (a 24), .int (fI u 15 9), .int (fI u 15 10), .int (fI u 15 11), .int (fI u 15 12), .int (fI u 15 13), .int (fI u 15 14), .int (fI u 15 15), .int (fI u 15 16), .int (fI u 15 17)] : List Value).set 10 (.int v))) = cW cy a (sI u 15 10 v) := rfl
theorem cW_s15_11 {v : Int32} : (cW cy a u).set 15 (a 15, .inr (9, ([.ref (a 16), .ref (a 17), .ref (a 18), .ref (a 19), .ref (a 20), .ref (a 21), .ref (a 22), .ref (a 23), .ref (a 24), .int (fI u 15 9), .int (fI u 15 10), .int (fI u 15 11), .int (fI u 15 12), .int (fI u 15 13), .int (fI u 15 14), .int (fI u 15 15), .int (fI u 15 16), .int (fI u 15 17)] : List Value).set 11 (.int v))) = cW cy a (sI u 15 11 v) := rfl
theorem cW_s15_12 {v : Int32} : (cW cy a u).set 15 (a 15, .inr (9, ([.ref (a 16), .ref (a 17), .ref (a 18), .ref (a 19), .ref (a 20), .ref (a 21), .ref (a 22), .ref (a 23), .ref (a 24), .int (fI u 15 9), .int (fI u 15 10), .int (fI u 15 11), .int (fI u 15 12), .int (fI u 15 13), .int (fI u 15 14), .int (fI u 15 15), .int (fI u 15 16), .int (fI u 15 17)] : List Value).set 12 (.int v))) = cW cy a (sI u 15 12 v) := rfl
theorem cW_s15_13 {v : Int32} : (cW cy a u).set 15 (a 15, .inr (9, ([.ref (a 16), .ref (a 17), .ref (a 18), .ref (a 19), .ref (a 20), .ref (a 21), .ref (a 22), .ref (a 23), .ref (a 24), .int (fI u 15 9), .int (fI u 15 10), .int (fI u 15 11), .int (fI u 15 12), .int (fI u 15 13), .int (fI u 15 14), .int (fI u 15 15), .int (fI u 15 16), .int (fI u 15 17)] : List Value).set 13 (.int v))) = cW cy a (sI u 15 13 v) := rfl
theorem cW_s15_14 {v : Int32} : (cW cy a u).set 15 (a 15, .inr (9, ([.ref (a 16), .ref (a 17), .ref (a 18), .ref (a 19), .ref (a 20), .ref (a 21), .ref (a 22), .ref (a 23), .ref (a 24), .int (fI u 15 9), .int (fI u 15 10), .int (fI u 15 11), .int (fI u 15 12), .int (fI u 15 13), .int (fI u 15 14), .int (fI u 15 15), .int (fI u 15 16), .int (fI u 15 17)] : List Value).set 14 (.int v))) = cW cy a (sI u 15 14 v) := rfl
theorem cW_s15_15 {v : Int32} : (cW cy a u).set 15 (a 15, .inr (9, ([.ref (a 16), .ref (a 17), .ref (a 18), .ref (a 19), .ref (a 20), .ref (a 21), .ref (a 22), .ref (a 23), .ref (a 24), .int (fI u 15 9), .int (fI u 15 10), .int (fI u 15 11), .int (fI u 15 12), .int (fI u 15 13), .int (fI u 15 14), .int (fI u 15 15), .int (fI u 15 16), .int (fI u 15 17)] : List Value).set 15 (.int v))) = cW cy a (sI u 15 15 v) := rfl
theorem cW_s15_16 {v : Int32} : (cW cy a u).set 15 (a 15, .inr (9, ([.ref (a 16), .ref (a 17), .ref (a 18), .ref (a 19), .ref (a 20), .ref (a 21), .ref (a 22), .ref (a 23), .ref (a 24), .int (fI u 15 9), .int (fI u 15 10), .int (fI u 15 11), .int (fI u 15 12), .int (fI u 15 13), .int (fI u 15 14), .int (fI u 15 15), .int (fI u 15 16), .int (fI u 15 17)] : List Value).set 16 (.int v))) = cW cy a (sI u 15 16 v) := rfl
theorem cW_s15_17 {v : Int32} : (cW cy a u).set 15 (a 15, .inr (9, ([.ref (a 16), .ref (a 17), .ref (a 18), .ref (a 19), .ref (a 20), .ref (a 21), .ref (a 22), .ref (a 23), .ref (a 24), .int (fI u 15 9), .int (fI u 15 10), .int (fI u 15 11), .int (fI u 15 12), .int (fI u 15 13), .int (fI u 15 14), .int (fI u 15 15), .int (fI u 15 16), .int (fI u 15 17)] : List Value).set 17 (.int v))) = cW cy a (sI u 15 17 v) := rfl
theorem cW_16 : (cW cy a u)[16]? = some (a 16, .inl (cy 2, 8, .inr (.inl (fJ u 16)))) := rfl
theorem cW_s16 {f : Nat → Int64} : (cW cy a u).set 16 (a 16, .inl (cy 2, 8, .inr (.inl f))) = cW cy a (sJ u 16 f) := rfl
theorem cW_17 : (cW cy a u)[17]? = some (a 17, .inl (cy 2, 8, .inr (.inl (fJ u 17)))) := rfl
theorem cW_s17 {f : Nat → Int64} : (cW cy a u).set 17 (a 17, .inl (cy 2, 8, .inr (.inl f))) = cW cy a (sJ u 17 f) := rfl
theorem cW_18 : (cW cy a u)[18]? = some (a 18, .inl (cy 2, 6, .inr (.inl (fJ u 18)))) := rfl
theorem cW_s18 {f : Nat → Int64} : (cW cy a u).set 18 (a 18, .inl (cy 2, 6, .inr (.inl f))) = cW cy a (sJ u 18 f) := rfl
theorem cW_19 : (cW cy a u)[19]? = some (a 19, .inl (cy 1, 14, .inl (fA u 19))) := rfl
theorem cW_s19 {f : Nat → Int32} : (cW cy a u).set 19 (a 19, .inl (cy 1, 14, .inl f)) = cW cy a (sA u 19 f) := rfl
theorem cW_20 : (cW cy a u)[20]? = some (a 20, .inl (cy 1, 14, .inl (fA u 20))) := rfl
theorem cW_s20 {f : Nat → Int32} : (cW cy a u).set 20 (a 20, .inl (cy 1, 14, .inl f)) = cW cy a (sA u 20 f) := rfl
theorem cW_21 : (cW cy a u)[21]? = some (a 21, .inl (cy 1, 8, .inl (fA u 21))) := rfl
theorem cW_s21 {f : Nat → Int32} : (cW cy a u).set 21 (a 21, .inl (cy 1, 8, .inl f)) = cW cy a (sA u 21 f) := rfl
theorem cW_22 : (cW cy a u)[22]? = some (a 22, .inl (cy 1, 6, .inl (fA u 22))) := rfl
theorem cW_s22 {f : Nat → Int32} : (cW cy a u).set 22 (a 22, .inl (cy 1, 6, .inl f)) = cW cy a (sA u 22 f) := rfl
theorem cW_23 : (cW cy a u)[23]? = some (a 23, .inl (cy 1, 6, .inl (fA u 23))) := rfl
theorem cW_s23 {f : Nat → Int32} : (cW cy a u).set 23 (a 23, .inl (cy 1, 6, .inl f)) = cW cy a (sA u 23 f) := rfl
theorem cW_24 : (cW cy a u)[24]? = some (a 24, .inr (4, [.ref (a 25), .ref (a 26), .int (fI u 24 2), .int (fI u 24 3), .int (fI u 24 4), .int (fI u 24 5), .int (fI u 24 6), .int (fI u 24 7), .int (fI u 24 8), .int (fI u 24 9), .int (fI u 24 10)])) := rfl
theorem cW_s24_2 {v : Int32} : (cW cy a u).set 24 (a 24, .inr (4, ([.ref (a 25), .ref (a 26), .int (fI u 24 2), .int (fI u 24 3), .int (fI u 24 4), .int (fI u 24 5), .int (fI u 24 6), .int (fI u 24 7), .int (fI u 24 8), .int (fI u 24 9), .int (fI u 24 10)] : List Value).set 2 (.int v))) = cW cy a (sI u 24 2 v) := rfl
theorem cW_s24_3 {v : Int32} : (cW cy a u).set 24 (a 24, .inr (4, ([.ref (a 25), .ref (a 26), .int (fI u 24 2), .int (fI u 24 3), .int (fI u 24 4), .int (fI u 24 5), .int (fI u 24 6), .int (fI u 24 7), .int (fI u 24 8), .int (fI u 24 9), .int (fI u 24 10)] : List Value).set 3 (.int v))) = cW cy a (sI u 24 3 v) := rfl
theorem cW_s24_4 {v : Int32} : (cW cy a u).set 24 (a 24, .inr (4, ([.ref (a 25), .ref (a 26), .int (fI u 24 2), .int (fI u 24 3), .int (fI u 24 4), .int (fI u 24 5), .int (fI u 24 6), .int (fI u 24 7), .int (fI u 24 8), .int (fI u 24 9), .int (fI u 24 10)] : List Value).set 4 (.int v))) = cW cy a (sI u 24 4 v) := rfl
theorem cW_s24_5 {v : Int32} : (cW cy a u).set 24 (a 24, .inr (4, ([.ref (a 25), .ref (a 26), .int (fI u 24 2), .int (fI u 24 3), .int (fI u 24 4), .int (fI u 24 5), .int (fI u 24 6), .int (fI u 24 7), .int (fI u 24 8), .int (fI u 24 9), .int (fI u 24 10)] : List Value).set 5 (.int v))) = cW cy a (sI u 24 5 v) := rfl
theorem cW_s24_6 {v : Int32} : (cW cy a u).set 24 (a 24, .inr (4, ([.ref (a 25), .ref (a 26), .int (fI u 24 2), .int (fI u 24 3), .int (fI u 24 4), .int (fI u 24 5), .int (fI u 24 6), .int (fI u 24 7), .int (fI u 24 8), .int (fI u 24 9), .int (fI u 24 10)] : List Value).set 6 (.int v))) = cW cy a (sI u 24 6 v) := rfl
theorem cW_s24_7 {v : Int32} : (cW cy a u).set 24 (a 24, .inr (4, ([.ref (a 25), .ref (a 26), .int (fI u 24 2), .int (fI u 24 3), .int (fI u 24 4), .int (fI u 24 5), .int (fI u 24 6), .int (fI u 24 7), .int (fI u 24 8), .int (fI u 24 9), .int (fI u 24 10)] : List Value).set 7 (.int v))) = cW cy a (sI u 24 7 v) := rfl
theorem cW_s24_8 {v : Int32} : (cW cy a u).set 24 (a 24, .inr (4, ([.ref (a 25), .ref (a 26), .int (fI u 24 2), .int (fI u 24 3), .int (fI u 24 4), .int (fI u 24 5), .int (fI u 24 6), .int (fI u 24 7), .int (fI u 24 8), .int (fI u 24 9), .int (fI u 24 10)] : List Value).set 8 (.int v))) = cW cy a (sI u 24 8 v) := rfl
theorem cW_s24_9 {v : Int32} : (cW cy a u).set 24 (a 24, .inr (4, ([.ref (a 25), .ref (a 26), .int (fI u 24 2), .int (fI u 24 3), .int (fI u 24 4), .int (fI u 24 5), .int (fI u 24 6), .int (fI u 24 7), .int (fI u 24 8), .int (fI u 24 9), .int (fI u 24 10)] : List Value).set 9 (.int v))) = cW cy a (sI u 24 9 v) := rfl
theorem cW_s24_10 {v : Int32} : (cW cy a u).set 24 (a 24, .inr (4, ([.ref (a 25), .ref (a 26), .int (fI u 24 2), .int (fI u 24 3), .int (fI u 24 4), .int (fI u 24 5), .int (fI u 24 6), .int (fI u 24 7), .int (fI u 24 8), .int (fI u 24 9), .int (fI u 24 10)] : List Value).set 10 (.int v))) = cW cy a (sI u 24 10 v) := rfl
theorem cW_25 : (cW cy a u)[25]? = some (a 25, .inl (cy 1, 300, .inl (fA u 25))) := rfl
theorem cW_s25 {f : Nat → Int32} : (cW cy a u).set 25 (a 25, .inl (cy 1, 300, .inl f)) = cW cy a (sA u 25 f) := rfl
theorem cW_26 : (cW cy a u)[26]? = some (a 26, .inl (cy 1, 31, .inl (fA u 26))) := rfl
theorem cW_s26 {f : Nat → Int32} : (cW cy a u).set 26 (a 26, .inl (cy 1, 31, .inl f)) = cW cy a (sA u 26 f) := rfl
theorem cW_27 : (cW cy a u)[27]? = some (a 27, .inr (5, [.ref (a 1), .ref (fR u 2), .int (fI u 27 2), .int (fI u 27 3)])) := rfl
theorem cW_s27_1 {v : Nat} : (cW cy a u).set 27 (a 27, .inr (5, ([.ref (a 1), .ref (fR u 2), .int (fI u 27 2), .int (fI u 27 3)] : List Value).set 1 (.ref v))) = cW cy a (sR u 2 v) := rfl
theorem cW_s27_2 {v : Int32} : (cW cy a u).set 27 (a 27, .inr (5, ([.ref (a 1), .ref (fR u 2), .int (fI u 27 2), .int (fI u 27 3)] : List Value).set 2 (.int v))) = cW cy a (sI u 27 2 v) := rfl
theorem cW_s27_3 {v : Int32} : (cW cy a u).set 27 (a 27, .inr (5, ([.ref (a 1), .ref (fR u 2), .int (fI u 27 2), .int (fI u 27 3)] : List Value).set 3 (.int v))) = cW cy a (sI u 27 3 v) := rfl
theorem cW_28 : (cW cy a u)[28]? = some (a 28, .inr (2, [.ref (a 29), .ref (fR u 0)])) := rfl
theorem cW_s28_1 {v : Nat} : (cW cy a u).set 28 (a 28, .inr (2, ([.ref (a 29), .ref (fR u 0)] : List Value).set 1 (.ref v))) = cW cy a (sR u 0 v) := rfl
theorem cW_29 : (cW cy a u)[29]? = some (a 29, .inl (cy 1, 29, .inl (fA u 29))) := rfl
theorem cW_s29 {f : Nat → Int32} : (cW cy a u).set 29 (a 29, .inl (cy 1, 29, .inl f)) = cW cy a (sA u 29 f) := rfl
theorem cW_30 : (cW cy a u)[30]? = some (a 30, .inr (0, [.ref (a 31), .int (fI u 30 1), .int (fI u 30 2), .int (fI u 30 3)])) := rfl
theorem cW_s30_1 {v : Int32} : (cW cy a u).set 30 (a 30, .inr (0, ([.ref (a 31), .int (fI u 30 1), .int (fI u 30 2), .int (fI u 30 3)] : List Value).set 1 (.int v))) = cW cy a (sI u 30 1 v) := rfl
theorem cW_s30_2 {v : Int32} : (cW cy a u).set 30 (a 30, .inr (0, ([.ref (a 31), .int (fI u 30 1), .int (fI u 30 2), .int (fI u 30 3)] : List Value).set 2 (.int v))) = cW cy a (sI u 30 2 v) := rfl
theorem cW_s30_3 {v : Int32} : (cW cy a u).set 30 (a 30, .inr (0, ([.ref (a 31), .int (fI u 30 1), .int (fI u 30 2), .int (fI u 30 3)] : List Value).set 3 (.int v))) = cW cy a (sI u 30 3 v) := rfl
theorem cW_31 : (cW cy a u)[31]? = some (a 31, .inl (cy 4, 41, .inr (.inr (.inr (.inr (fun i => if i < 41 then some (a (47 + i)) else none)))))) := rfl
theorem cW_32 : (cW cy a u)[32]? = some (a 32, .inr (8, [.ref (a 28), .ref (a 33)])) := rfl
theorem cW_33 : (cW cy a u)[33]? = some (a 33, .inl (cy 1, 64, .inl (fA u 33))) := rfl
theorem cW_s33 {f : Nat → Int32} : (cW cy a u).set 33 (a 33, .inl (cy 1, 64, .inl f)) = cW cy a (sA u 33 f) := rfl
theorem cW_34 : (cW cy a u)[34]? = some (a 34, .inr (6, [.ref (a 28), .ref (a 32), .ref (a 35)])) := rfl
theorem cW_35 : (cW cy a u)[35]? = some (a 35, .inl (cy 1, 384, .inl (fA u 35))) := rfl
theorem cW_s35 {f : Nat → Int32} : (cW cy a u).set 35 (a 35, .inl (cy 1, 384, .inl f)) = cW cy a (sA u 35 f) := rfl
theorem cW_36 : (cW cy a u)[36]? = some (a 36, .inr (1, [.ref (a 28), .ref (a 37), .ref (a 38)])) := rfl
theorem cW_37 : (cW cy a u)[37]? = some (a 37, .inl (cy 1, 8, .inl (fA u 37))) := rfl
theorem cW_s37 {f : Nat → Int32} : (cW cy a u).set 37 (a 37, .inl (cy 1, 8, .inl f)) = cW cy a (sA u 37 f) := rfl
theorem cW_38 : (cW cy a u)[38]? = some (a 38, .inl (cy 1, 8, .inl (fA u 38))) := rfl
theorem cW_s38 {f : Nat → Int32} : (cW cy a u).set 38 (a 38, .inl (cy 1, 8, .inl f)) = cW cy a (sA u 38 f) := rfl
theorem cW_39 : (cW cy a u)[39]? = some (a 39, .inr (3, [.ref (a 40), .ref (a 41), .ref (a 42), .ref (a 43), .ref (a 44), .int (fI u 39 5), .int (fI u 39 6)])) := rfl
theorem cW_s39_5 {v : Int32} : (cW cy a u).set 39 (a 39, .inr (3, ([.ref (a 40), .ref (a 41), .ref (a 42), .ref (a 43), .ref (a 44), .int (fI u 39 5), .int (fI u 39 6)] : List Value).set 5 (.int v))) = cW cy a (sI u 39 5 v) := rfl
theorem cW_s39_6 {v : Int32} : (cW cy a u).set 39 (a 39, .inr (3, ([.ref (a 40), .ref (a 41), .ref (a 42), .ref (a 43), .ref (a 44), .int (fI u 39 5), .int (fI u 39 6)] : List Value).set 6 (.int v))) = cW cy a (sI u 39 6 v) := rfl
theorem cW_40 : (cW cy a u)[40]? = some (a 40, .inl (cy 1, 30, .inl (fA u 40))) := rfl
theorem cW_s40 {f : Nat → Int32} : (cW cy a u).set 40 (a 40, .inl (cy 1, 30, .inl f)) = cW cy a (sA u 40 f) := rfl
theorem cW_41 : (cW cy a u)[41]? = some (a 41, .inl (cy 1, 30, .inl (fA u 41))) := rfl
theorem cW_s41 {f : Nat → Int32} : (cW cy a u).set 41 (a 41, .inl (cy 1, 30, .inl f)) = cW cy a (sA u 41 f) := rfl
theorem cW_42 : (cW cy a u)[42]? = some (a 42, .inl (cy 3, 30, .inl (fA u 42))) := rfl
theorem cW_s42 {f : Nat → Int32} : (cW cy a u).set 42 (a 42, .inl (cy 3, 30, .inl f)) = cW cy a (sA u 42 f) := rfl
theorem cW_43 : (cW cy a u)[43]? = some (a 43, .inl (cy 1, 30, .inl (fA u 43))) := rfl
theorem cW_s43 {f : Nat → Int32} : (cW cy a u).set 43 (a 43, .inl (cy 1, 30, .inl f)) = cW cy a (sA u 43 f) := rfl
theorem cW_44 : (cW cy a u)[44]? = some (a 44, .inl (cy 1, 30, .inl (fA u 44))) := rfl
theorem cW_s44 {f : Nat → Int32} : (cW cy a u).set 44 (a 44, .inl (cy 1, 30, .inl f)) = cW cy a (sA u 44 f) := rfl
theorem cW_45 : (cW cy a u)[45]? = some (a 45, .inl (cy 4, 3, .inr (.inr (.inr (.inr (fun i => if i < 3 then some (a (88 + i)) else none)))))) := rfl
theorem cW_46 : (cW cy a u)[46]? = some (a 46, .inl (cy 1, 8, .inl (fA u 46))) := rfl
theorem cW_s46 {f : Nat → Int32} : (cW cy a u).set 46 (a 46, .inl (cy 1, 8, .inl f)) = cW cy a (sA u 46 f) := rfl
theorem cW_row {k : Nat} (h : k < 44) : (cW cy a u)[47 + k]? = some (a (47 + k), .inl (cy 1, 29, .inl (fB u k))) := by
  unfold cW
  rw [List.getElem?_append_right (by show 47 ≤ 47 + k; omega)]
  show ((List.range 44).map _)[47 + k - 47]? = _
  rw [show 47 + k - 47 = k by omega, List.getElem?_map, List.getElem?_range h]
  rfl
theorem cW_srow {k : Nat} (h : k < 44) {f : Nat → Int32} : (cW cy a u).set (47 + k) (a (47 + k), .inl (cy 1, 29, .inl f)) = cW cy a (sB u k f) := by
  unfold cW
  rw [List.set_append_right _ _ (by show 47 ≤ 47 + k; omega)]
  show _ ++ ((List.range 44).map _).set (47 + k - 47) _ = _
  rw [show 47 + k - 47 = k by omega]
  show _ ++ _ = _ ++ _
  refine congr (congrArg _ rfl) ?_
  apply List.ext_getElem?
  intro j
  by_cases hj : j = k
  · subst hj
    rw [List.getElem?_set_self (by rw [List.length_map, List.length_range]; exact h), List.getElem?_map, List.getElem?_range h]
    show _ = some (_, Sum.inl (_, _, Sum.inl (va_up _ _ _ _)))
    rw [va_up_self]
  · rw [List.getElem?_set_ne (fun q => hj q.symm), List.getElem?_map, List.getElem?_map]
    by_cases hl : j < 44
    · rw [List.getElem?_range hl]
      show some _ = some (_, Sum.inl (_, _, Sum.inl (va_up _ _ _ _)))
      rw [va_up_ne _ _ hj]
    · rw [List.getElem?_eq_none (by rw [List.length_range]; omega)]
      rfl
end
def mW (cy : Nat → ClassId) (a : Nat → Nat) (u : St) : va_W := [(a 0, .inr (11, [.ref (a 1), .ref (a 2), .int (fI u 0 2), .int (fI u 0 3), .int (fI u 0 4), .int (fI u 0 5), .int (fI u 0 6), .int (fI u 0 7), .int (fI u 0 8), .int (fI u 0 9), .long (fL u 0 10), .ref (a 3), .ref (a 4), .ref (a 5), .ref (a 6), .ref (a 7), .ref (a 8), .ref (a 9), .ref (a 10), .ref (a 11), .ref (a 12), .ref (a 13), .ref (a 14), .ref (a 15), .ref (a 16), .ref (a 17), .ref (a 18), .ref (a 19), .ref (a 20), .ref (a 21), .ref (a 22), .ref (a 23), .ref (a 24), .ref (a 25), .ref (a 26), .ref (a 27), .int (fI u 0 36), .int (fI u 0 37), .int (fI u 0 38), .int (fI u 0 39), .int (fI u 0 40), .int (fI u 0 41), .int (fI u 0 42), .int (fI u 0 43), .ref (a 28), .int (fI u 0 45), .ref (a 29), .int (fI u 0 47), .int (fI u 0 48), .ref (a 30), .int (fI u 0 50), .ref (a 31), .ref (a 32), .ref (a 33), .ref (a 34), .ref (a 35), .ref (a 36), .ref (a 37), .ref (a 38), .ref (a 39), .ref (a 40), .int (fI u 0 61), .int (fI u 0 62), .ref (a 41), .ref (a 42)])), (a 1, .inl (cy 0, 1620, .inl (fA u 1))), (a 2, .inl (cy 0, 1600, .inl (fA u 2))), (a 3, .inl (cy 1, 2, .inl (fA u 3))), (a 4, .inl (cy 1, 2, .inl (fA u 4))), (a 5, .inl (cy 1, 2, .inl (fA u 5))), (a 6, .inl (cy 1, 2, .inl (fA u 6))), (a 7, .inl (cy 1, 2, .inl (fA u 7))), (a 8, .inl (cy 1, 2, .inl (fA u 8))), (a 9, .inl (cy 1, 2, .inl (fA u 9))), (a 10, .inl (cy 1, 2, .inl (fA u 10))), (a 11, .inl (cy 1, 2, .inl (fA u 11))), (a 12, .inl (cy 1, 2, .inl (fA u 12))), (a 13, .inl (cy 1, 28, .inl (fA u 13))), (a 14, .inl (cy 1, 28, .inl (fA u 14))), (a 15, .inl (cy 1, 16, .inl (fA u 15))), (a 16, .inl (cy 1, 12, .inl (fA u 16))), (a 17, .inl (cy 1, 12, .inl (fA u 17))), (a 18, .inl (cy 1, 2, .inl (fA u 18))), (a 19, .inl (cy 1, 2, .inl (fA u 19))), (a 20, .inl (cy 2, 16, .inr (.inl (fJ u 20)))), (a 21, .inl (cy 2, 16, .inr (.inl (fJ u 21)))), (a 22, .inl (cy 2, 12, .inr (.inl (fJ u 22)))), (a 23, .inl (cy 1, 1120, .inl (fA u 23))), (a 24, .inl (cy 1, 1120, .inl (fA u 24))), (a 25, .inl (cy 1, 90, .inl (fA u 25))), (a 26, .inl (cy 1, 90, .inl (fA u 26))), (a 27, .inl (cy 1, 60, .inl (fA u 27))), (a 28, .inl (cy 1, 29, .inl (fA u 28))), (a 29, .inl (cy 1, 1189, .inl (fA u 29))), (a 30, .inl (cy 1, 8, .inl (fA u 30))), (a 31, .inl (cy 1, 128, .inl (fA u 31))), (a 32, .inl (cy 1, 64, .inl (fA u 32))), (a 33, .inl (cy 1, 186, .inl (fA u 33))), (a 34, .inl (cy 1, 30, .inl (fA u 34))), (a 35, .inl (cy 1, 30, .inl (fA u 35))), (a 36, .inl (cy 1, 30, .inl (fA u 36))), (a 37, .inl (cy 1, 30, .inl (fA u 37))), (a 38, .inl (cy 1, 30, .inl (fA u 38))), (a 39, .inl (cy 1, 3, .inl (fA u 39))), (a 40, .inl (cy 1, 29, .inl (fA u 40))), (a 41, .inl (cy 1, 87, .inl (fA u 41))), (a 42, .inl (cy 3, 3, .inl (fA u 42)))]
section
variable {cy : Nat → ClassId} {a : Nat → Nat} {u : St}
theorem mW_0 : (mW cy a u)[0]? = some (a 0, .inr (11, [.ref (a 1), .ref (a 2), .int (fI u 0 2), .int (fI u 0 3), .int (fI u 0 4), .int (fI u 0 5), .int (fI u 0 6), .int (fI u 0 7), .int (fI u 0 8), .int (fI u 0 9), .long (fL u 0 10), .ref (a 3), .ref (a 4), .ref (a 5), .ref (a 6), .ref (a 7), .ref (a 8), .ref (a 9), .ref (a 10), .ref (a 11), .ref (a 12), .ref (a 13), .ref (a 14), .ref (a 15), .ref (a 16), .ref (a 17), .ref (a 18), .ref (a 19), .ref (a 20), .ref (a 21), .ref (a 22), .ref (a 23), .ref (a 24), .ref (a 25), .ref (a 26), .ref (a 27), .int (fI u 0 36), .int (fI u 0 37), .int (fI u 0 38), .int (fI u 0 39), .int (fI u 0 40), .int (fI u 0 41), .int (fI u 0 42), .int (fI u 0 43), .ref (a 28), .int (fI u 0 45), .ref (a 29), .int (fI u 0 47), .int (fI u 0 48), .ref (a 30), .int (fI u 0 50), .ref (a 31), .ref (a 32), .ref (a 33), .ref (a 34), .ref (a 35), .ref (a 36), .ref (a 37), .ref (a 38), .ref (a 39), .ref (a 40), .int (fI u 0 61), .int (fI u 0 62), .ref (a 41), .ref (a 42)])) := rfl
theorem mW_s0_2 {v : Int32} : (mW cy a u).set 0 (a 0, .inr (11, ([.ref (a 1), .ref (a 2), .int (fI u 0 2), .int (fI u 0 3), .int (fI u 0 4), .int (fI u 0 5), .int (fI u 0 6), .int (fI u 0 7), .int (fI u 0 8), .int (fI u 0 9), .long (fL u 0 10), .ref (a 3), .ref (a 4), .ref (a 5), .ref (a 6), .ref (a 7), .ref (a 8), .ref (a 9), .ref (a 10), .ref (a 11), .ref (a 12), .ref (a 13), .ref (a 14), .ref (a 15), .ref (a 16), .ref (a 17), .ref (a 18), .ref (a 19), .ref (a 20), .ref (a 21), .ref (a 22), .ref (a 23), .ref (a 24), .ref (a 25), .ref (a 26), .ref (a 27), .int (fI u 0 36), .int (fI u 0 37), .int (fI u 0 38), .int (fI u 0 39), .int (fI u 0 40), .int (fI u 0 41), .int (fI u 0 42), .int (fI u 0 43), .ref (a 28), .int (fI u 0 45), .ref (a 29), .int (fI u 0 47), .int (fI u 0 48), .ref (a 30), .int (fI u 0 50), .ref (a 31), .ref (a 32), .ref (a 33), .ref (a 34), .ref (a 35), .ref (a 36), .ref (a 37), .ref (a 38), .ref (a 39), .ref (a 40), .int (fI u 0 61), .int (fI u 0 62), .ref (a 41), .ref (a 42)] : List Value).set 2 (.int v))) = mW cy a (sI u 0 2 v) := rfl
theorem mW_s0_3 {v : Int32} : (mW cy a u).set 0 (a 0, .inr (11, ([.ref (a 1), .ref (a 2), .int (fI u 0 2), .int (fI u 0 3), .int (fI u 0 4), .int (fI u 0 5), .int (fI u 0 6), .int (fI u 0 7), .int (fI u 0 8), .int (fI u 0 9), .long (fL u 0 10), .ref (a 3), .ref (a 4), .ref (a 5), .ref (a 6), .ref (a 7), .ref (a 8), .ref (a 9), .ref (a 10), .ref (a 11), .ref (a 12), .ref (a 13), .ref (a 14), .ref (a 15), .ref (a 16), .ref (a 17), .ref (a 18), .ref (a 19), .ref (a 20), .ref (a 21), .ref (a 22), .ref (a 23), .ref (a 24), .ref (a 25), .ref (a 26), .ref (a 27), .int (fI u 0 36), .int (fI u 0 37), .int (fI u 0 38), .int (fI u 0 39), .int (fI u 0 40), .int (fI u 0 41), .int (fI u 0 42), .int (fI u 0 43), .ref (a 28), .int (fI u 0 45), .ref (a 29), .int (fI u 0 47), .int (fI u 0 48), .ref (a 30), .int (fI u 0 50), .ref (a 31), .ref (a 32), .ref (a 33), .ref (a 34), .ref (a 35), .ref (a 36), .ref (a 37), .ref (a 38), .ref (a 39), .ref (a 40), .int (fI u 0 61), .int (fI u 0 62), .ref (a 41), .ref (a 42)] : List Value).set 3 (.int v))) = mW cy a (sI u 0 3 v) := rfl
theorem mW_s0_4 {v : Int32} : (mW cy a u).set 0 (a 0, .inr (11, ([.ref (a 1), .ref (a 2), .int (fI u 0 2), .int (fI u 0 3), .int (fI u 0 4), .int (fI u 0 5), .int (fI u 0 6), .int (fI u 0 7), .int (fI u 0 8), .int (fI u 0 9), .long (fL u 0 10), .ref (a 3), .ref (a 4), .ref (a 5), .ref (a 6), .ref (a 7), .ref (a 8), .ref (a 9), .ref (a 10), .ref (a 11), .ref (a 12), .ref (a 13), .ref (a 14), .ref (a 15), .ref (a 16), .ref (a 17), .ref (a 18), .ref (a 19), .ref (a 20), .ref (a 21), .ref (a 22), .ref (a 23), .ref (a 24), .ref (a 25), .ref (a 26), .ref (a 27), .int (fI u 0 36), .int (fI u 0 37), .int (fI u 0 38), .int (fI u 0 39), .int (fI u 0 40), .int (fI u 0 41), .int (fI u 0 42), .int (fI u 0 43), .ref (a 28), .int (fI u 0 45), .ref (a 29), .int (fI u 0 47), .int (fI u 0 48), .ref (a 30), .int (fI u 0 50), .ref (a 31), .ref (a 32), .ref (a 33), .ref (a 34), .ref (a 35), .ref (a 36), .ref (a 37), .ref (a 38), .ref (a 39), .ref (a 40), .int (fI u 0 61), .int (fI u 0 62), .ref (a 41), .ref (a 42)] : List Value).set 4 (.int v))) = mW cy a (sI u 0 4 v) := rfl
theorem mW_s0_5 {v : Int32} : (mW cy a u).set 0 (a 0, .inr (11, ([.ref (a 1), .ref (a 2), .int (fI u 0 2), .int (fI u 0 3), .int (fI u 0 4), .int (fI u 0 5), .int (fI u 0 6), .int (fI u 0 7), .int (fI u 0 8), .int (fI u 0 9), .long (fL u 0 10), .ref (a 3), .ref (a 4), .ref (a 5), .ref (a 6), .ref (a 7), .ref (a 8), .ref (a 9), .ref (a 10), .ref (a 11), .ref (a 12), .ref (a 13), .ref (a 14), .ref (a 15), .ref (a 16), .ref (a 17), .ref (a 18), .ref (a 19), .ref (a 20), .ref (a 21), .ref (a 22), .ref (a 23), .ref (a 24), .ref (a 25), .ref (a 26), .ref (a 27), .int (fI u 0 36), .int (fI u 0 37), .int (fI u 0 38), .int (fI u 0 39), .int (fI u 0 40), .int (fI u 0 41), .int (fI u 0 42), .int (fI u 0 43), .ref (a 28), .int (fI u 0 45), .ref (a 29), .int (fI u 0 47), .int (fI u 0 48), .ref (a 30), .int (fI u 0 50), .ref (a 31), .ref (a 32), .ref (a 33), .ref (a 34), .ref (a 35), .ref (a 36), .ref (a 37), .ref (a 38), .ref (a 39), .ref (a 40), .int (fI u 0 61), .int (fI u 0 62), .ref (a 41), .ref (a 42)] : List Value).set 5 (.int v))) = mW cy a (sI u 0 5 v) := rfl
theorem mW_s0_6 {v : Int32} : (mW cy a u).set 0 (a 0, .inr (11, ([.ref (a 1), .ref (a 2), .int (fI u 0 2), .int (fI u 0 3), .int (fI u 0 4), .int (fI u 0 5), .int (fI u 0 6), .int (fI u 0 7), .int (fI u 0 8), .int (fI u 0 9), .long (fL u 0 10), .ref (a 3), .ref (a 4), .ref (a 5), .ref (a 6), .ref (a 7), .ref (a 8), .ref (a 9), .ref (a 10), .ref (a 11), .ref (a 12), .ref (a 13), .ref (a 14), .ref (a 15), .ref (a 16), .ref (a 17), .ref (a 18), .ref (a 19), .ref (a 20), .ref (a 21), .ref (a 22), .ref (a 23), .ref (a 24), .ref (a 25), .ref (a 26), .ref (a 27), .int (fI u 0 36), .int (fI u 0 37), .int (fI u 0 38), .int (fI u 0 39), .int (fI u 0 40), .int (fI u 0 41), .int (fI u 0 42), .int (fI u 0 43), .ref (a 28), .int (fI u 0 45), .ref (a 29), .int (fI u 0 47), .int (fI u 0 48), .ref (a 30), .int (fI u 0 50), .ref (a 31), .ref (a 32), .ref (a 33), .ref (a 34), .ref (a 35), .ref (a 36), .ref (a 37), .ref (a 38), .ref (a 39), .ref (a 40), .int (fI u 0 61), .int (fI u 0 62), .ref (a 41), .ref (a 42)] : List Value).set 6 (.int v))) = mW cy a (sI u 0 6 v) := rfl
theorem mW_s0_7 {v : Int32} : (mW cy a u).set 0 (a 0, .inr (11, ([.ref (a 1), .ref (a 2), .int (fI u 0 2), .int (fI u 0 3), .int (fI u 0 4), .int (fI u 0 5), .int (fI u 0 6), .int (fI u 0 7), .int (fI u 0 8), .int (fI u 0 9), .long (fL u 0 10), .ref (a 3), .ref (a 4), .ref (a 5), .ref (a 6), .ref (a 7), .ref (a 8), .ref (a 9), .ref (a 10), .ref (a 11), .ref (a 12), .ref (a 13), .ref (a 14), .ref (a 15), .ref (a 16), .ref (a 17), .ref (a 18), .ref (a 19), .ref (a 20), .ref (a 21), .ref (a 22), .ref (a 23), .ref (a 24), .ref (a 25), .ref (a 26), .ref (a 27), .int (fI u 0 36), .int (fI u 0 37), .int (fI u 0 38), .int (fI u 0 39), .int (fI u 0 40), .int (fI u 0 41), .int (fI u 0 42), .int (fI u 0 43), .ref (a 28), .int (fI u 0 45), .ref (a 29), .int (fI u 0 47), .int (fI u 0 48), .ref (a 30), .int (fI u 0 50), .ref (a 31), .ref (a 32), .ref (a 33), .ref (a 34), .ref (a 35), .ref (a 36), .ref (a 37), .ref (a 38), .ref (a 39), .ref (a 40), .int (fI u 0 61), .int (fI u 0 62), .ref (a 41), .ref (a 42)] : List Value).set 7 (.int v))) = mW cy a (sI u 0 7 v) := rfl
theorem mW_s0_8 {v : Int32} : (mW cy a u).set 0 (a 0, .inr (11, ([.ref (a 1), .ref (a 2), .int (fI u 0 2), .int (fI u 0 3), .int (fI u 0 4), .int (fI u 0 5), .int (fI u 0 6), .int (fI u 0 7), .int (fI u 0 8), .int (fI u 0 9), .long (fL u 0 10), .ref (a 3), .ref (a 4), .ref (a 5), .ref (a 6), .ref (a 7), .ref (a 8), .ref (a 9), .ref (a 10), .ref (a 11), .ref (a 12), .ref (a 13), .ref (a 14), .ref (a 15), .ref (a 16), .ref (a 17), .ref (a 18), .ref (a 19), .ref (a 20), .ref (a 21), .ref (a 22), .ref (a 23), .ref (a 24), .ref (a 25), .ref (a 26), .ref (a 27), .int (fI u 0 36), .int (fI u 0 37), .int (fI u 0 38), .int (fI u 0 39), .int (fI u 0 40), .int (fI u 0 41), .int (fI u 0 42), .int (fI u 0 43), .ref (a 28), .int (fI u 0 45), .ref (a 29), .int (fI u 0 47), .int (fI u 0 48), .ref (a 30), .int (fI u 0 50), .ref (a 31), .ref (a 32), .ref (a 33), .ref (a 34), .ref (a 35), .ref (a 36), .ref (a 37), .ref (a 38), .ref (a 39), .ref (a 40), .int (fI u 0 61), .int (fI u 0 62), .ref (a 41), .ref (a 42)] : List Value).set 8 (.int v))) = mW cy a (sI u 0 8 v) := rfl
theorem mW_s0_9 {v : Int32} : (mW cy a u).set 0 (a 0, .inr (11, ([.ref (a 1), .ref (a 2), .int (fI u 0 2), .int (fI u 0 3), .int (fI u 0 4), .int (fI u 0 5), .int (fI u 0 6), .int (fI u 0 7), .int (fI u 0 8), .int (fI u 0 9), .long (fL u 0 10), .ref (a 3), .ref (a 4), .ref (a 5), .ref (a 6), .ref (a 7), .ref (a 8), .ref (a 9), .ref (a 10), .ref (a 11), .ref (a 12), .ref (a 13), .ref (a 14), .ref (a 15), .ref (a 16), .ref (a 17), .ref (a 18), .ref (a 19), .ref (a 20), .ref (a 21), .ref (a 22), .ref (a 23), .ref (a 24), .ref (a 25), .ref (a 26), .ref (a 27), .int (fI u 0 36), .int (fI u 0 37), .int (fI u 0 38), .int (fI u 0 39), .int (fI u 0 40), .int (fI u 0 41), .int (fI u 0 42), .int (fI u 0 43), .ref (a 28), .int (fI u 0 45), .ref (a 29), .int (fI u 0 47), .int (fI u 0 48), .ref (a 30), .int (fI u 0 50), .ref (a 31), .ref (a 32), .ref (a 33), .ref (a 34), .ref (a 35), .ref (a 36), .ref (a 37), .ref (a 38), .ref (a 39), .ref (a 40), .int (fI u 0 61), .int (fI u 0 62), .ref (a 41), .ref (a 42)] : List Value).set 9 (.int v))) = mW cy a (sI u 0 9 v) := rfl
theorem mW_s0_10 {v : Int64} : (mW cy a u).set 0 (a 0, .inr (11, ([.ref (a 1), .ref (a 2), .int (fI u 0 2), .int (fI u 0 3), .int (fI u 0 4), .int (fI u 0 5), .int (fI u 0 6), .int (fI u 0 7), .int (fI u 0 8), .int (fI u 0 9), .long (fL u 0 10), .ref (a 3), .ref (a 4), .ref (a 5), .ref (a 6), .ref (a 7), .ref (a 8), .ref (a 9), .ref (a 10), .ref (a 11), .ref (a 12), .ref (a 13), .ref (a 14), .ref (a 15), .ref (a 16), .ref (a 17), .ref (a 18), .ref (a 19), .ref (a 20), .ref (a 21), .ref (a 22), .ref (a 23), .ref (a 24), .ref (a 25), .ref (a 26), .ref (a 27), .int (fI u 0 36), .int (fI u 0 37), .int (fI u 0 38), .int (fI u 0 39), .int (fI u 0 40), .int (fI u 0 41), .int (fI u 0 42), .int (fI u 0 43), .ref (a 28), .int (fI u 0 45), .ref (a 29), .int (fI u 0 47), .int (fI u 0 48), .ref (a 30), .int (fI u 0 50), .ref (a 31), .ref (a 32), .ref (a 33), .ref (a 34), .ref (a 35), .ref (a 36), .ref (a 37), .ref (a 38), .ref (a 39), .ref (a 40), .int (fI u 0 61), .int (fI u 0 62), .ref (a 41), .ref (a 42)] : List Value).set 10 (.long v))) = mW cy a (sL u 0 10 v) := rfl
theorem mW_s0_36 {v : Int32} : (mW cy a u).set 0 (a 0, .inr (11, ([.ref (a 1), .ref (a 2), .int (fI u 0 2), .int (fI u 0 3), .int (fI u 0 4), .int (fI u 0 5), .int (fI u 0 6), .int (fI u 0 7), .int (fI u 0 8), .int (fI u 0 9), .long (fL u 0 10), .ref (a 3), .ref (a 4), .ref (a 5), .ref (a 6), .ref (a 7), .ref (a 8), .ref (a 9), .ref (a 10), .ref (a 11), .ref (a 12), .ref (a 13), .ref (a 14), .ref (a 15), .ref (a 16), .ref (a 17), .ref (a 18), .ref (a 19), .ref (a 20), .ref (a 21), .ref (a 22), .ref (a 23), .ref (a 24), .ref (a 25), .ref (a 26), .ref (a 27), .int (fI u 0 36), .int (fI u 0 37), .int (fI u 0 38), .int (fI u 0 39), .int (fI u 0 40), .int (fI u 0 41), .int (fI u 0 42), .int (fI u 0 43), .ref (a 28), .int (fI u 0 45), .ref (a 29), .int (fI u 0 47), .int (fI u 0 48), .ref (a 30), .int (fI u 0 50), .ref (a 31), .ref (a 32), .ref (a 33), .ref (a 34), .ref (a 35), .ref (a 36), .ref (a 37), .ref (a 38), .ref (a 39), .ref (a 40), .int (fI u 0 61), .int (fI u 0 62), .ref (a 41), .ref (a 42)] : List Value).set 36 (.int v))) = mW cy a (sI u 0 36 v) := rfl
theorem mW_s0_37 {v : Int32} : (mW cy a u).set 0 (a 0, .inr (11, ([.ref (a 1), .ref (a 2), .int (fI u 0 2), .int (fI u 0 3), .int (fI u 0 4), .int (fI u 0 5), .int (fI u 0 6), .int (fI u 0 7), .int (fI u 0 8), .int (fI u 0 9), .long (fL u 0 10), .ref (a 3), .ref (a 4), .ref (a 5), .ref (a 6), .ref (a 7), .ref (a 8), .ref (a 9), .ref (a 10), .ref (a 11), .ref (a 12), .ref (a 13), .ref (a 14), .ref (a 15), .ref (a 16), .ref (a 17), .ref (a 18), .ref (a 19), .ref (a 20), .ref (a 21), .ref (a 22), .ref (a 23), .ref (a 24), .ref (a 25), .ref (a 26), .ref (a 27), .int (fI u 0 36), .int (fI u 0 37), .int (fI u 0 38), .int (fI u 0 39), .int (fI u 0 40), .int (fI u 0 41), .int (fI u 0 42), .int (fI u 0 43), .ref (a 28), .int (fI u 0 45), .ref (a 29), .int (fI u 0 47), .int (fI u 0 48), .ref (a 30), .int (fI u 0 50), .ref (a 31), .ref (a 32), .ref (a 33), .ref (a 34), .ref (a 35), .ref (a 36), .ref (a 37), .ref (a 38), .ref (a 39), .ref (a 40), .int (fI u 0 61), .int (fI u 0 62), .ref (a 41), .ref (a 42)] : List Value).set 37 (.int v))) = mW cy a (sI u 0 37 v) := rfl
theorem mW_s0_38 {v : Int32} : (mW cy a u).set 0 (a 0, .inr (11, ([.ref (a 1), .ref (a 2), .int (fI u 0 2), .int (fI u 0 3), .int (fI u 0 4), .int (fI u 0 5), .int (fI u 0 6), .int (fI u 0 7), .int (fI u 0 8), .int (fI u 0 9), .long (fL u 0 10), .ref (a 3), .ref (a 4), .ref (a 5), .ref (a 6), .ref (a 7), .ref (a 8), .ref (a 9), .ref (a 10), .ref (a 11), .ref (a 12), .ref (a 13), .ref (a 14), .ref (a 15), .ref (a 16), .ref (a 17), .ref (a 18), .ref (a 19), .ref (a 20), .ref (a 21), .ref (a 22), .ref (a 23), .ref (a 24), .ref (a 25), .ref (a 26), .ref (a 27), .int (fI u 0 36), .int (fI u 0 37), .int (fI u 0 38), .int (fI u 0 39), .int (fI u 0 40), .int (fI u 0 41), .int (fI u 0 42), .int (fI u 0 43), .ref (a 28), .int (fI u 0 45), .ref (a 29), .int (fI u 0 47), .int (fI u 0 48), .ref (a 30), .int (fI u 0 50), .ref (a 31), .ref (a 32), .ref (a 33), .ref (a 34), .ref (a 35), .ref (a 36), .ref (a 37), .ref (a 38), .ref (a 39), .ref (a 40), .int (fI u 0 61), .int (fI u 0 62), .ref (a 41), .ref (a 42)] : List Value).set 38 (.int v))) = mW cy a (sI u 0 38 v) := rfl
theorem mW_s0_39 {v : Int32} : (mW cy a u).set 0 (a 0, .inr (11, ([.ref (a 1), .ref (a 2), .int (fI u 0 2), .int (fI u 0 3), .int (fI u 0 4), .int (fI u 0 5), .int (fI u 0 6), .int (fI u 0 7), .int (fI u 0 8), .int (fI u 0 9), .long (fL u 0 10), .ref (a 3), .ref (a 4), .ref (a 5), .ref (a 6), .ref (a 7), .ref (a 8), .ref (a 9), .ref (a 10), .ref (a 11), .ref (a 12), .ref (a 13), .ref (a 14), .ref (a 15), .ref (a 16), .ref (a 17), .ref (a 18), .ref (a 19), .ref (a 20), .ref (a 21), .ref (a 22), .ref (a 23), .ref (a 24), .ref (a 25), .ref (a 26), .ref (a 27), .int (fI u 0 36), .int (fI u 0 37), .int (fI u 0 38), .int (fI u 0 39), .int (fI u 0 40), .int (fI u 0 41), .int (fI u 0 42), .int (fI u 0 43), .ref (a 28), .int (fI u 0 45), .ref (a 29), .int (fI u 0 47), .int (fI u 0 48), .ref (a 30), .int (fI u 0 50), .ref (a 31), .ref (a 32), .ref (a 33), .ref (a 34), .ref (a 35), .ref (a 36), .ref (a 37), .ref (a 38), .ref (a 39), .ref (a 40), .int (fI u 0 61), .int (fI u 0 62), .ref (a 41), .ref (a 42)] : List Value).set 39 (.int v))) = mW cy a (sI u 0 39 v) := rfl
theorem mW_s0_40 {v : Int32} : (mW cy a u).set 0 (a 0, .inr (11, ([.ref (a 1), .ref (a 2), .int (fI u 0 2), .int (fI u 0 3), .int (fI u 0 4), .int (fI u 0 5), .int (fI u 0 6), .int (fI u 0 7), .int (fI u 0 8), .int (fI u 0 9), .long (fL u 0 10), .ref (a 3), .ref (a 4), .ref (a 5), .ref (a 6), .ref (a 7), .ref (a 8), .ref (a 9), .ref (a 10), .ref (a 11), .ref (a 12), .ref (a 13), .ref (a 14), .ref (a 15), .ref (a 16), .ref (a 17), .ref (a 18), .ref (a 19), .ref (a 20), .ref (a 21), .ref (a 22), .ref (a 23), .ref (a 24), .ref (a 25), .ref (a 26), .ref (a 27), .int (fI u 0 36), .int (fI u 0 37), .int (fI u 0 38), .int (fI u 0 39), .int (fI u 0 40), .int (fI u 0 41), .int (fI u 0 42), .int (fI u 0 43), .ref (a 28), .int (fI u 0 45), .ref (a 29), .int (fI u 0 47), .int (fI u 0 48), .ref (a 30), .int (fI u 0 50), .ref (a 31), .ref (a 32), .ref (a 33), .ref (a 34), .ref (a 35), .ref (a 36), .ref (a 37), .ref (a 38), .ref (a 39), .ref (a 40), .int (fI u 0 61), .int (fI u 0 62), .ref (a 41), .ref (a 42)] : List Value).set 40 (.int v))) = mW cy a (sI u 0 40 v) := rfl
theorem mW_s0_41 {v : Int32} : (mW cy a u).set 0 (a 0, .inr (11, ([.ref (a 1), .ref (a 2), .int (fI u 0 2), .int (fI u 0 3), .int (fI u 0 4), .int (fI u 0 5), .int (fI u 0 6), .int (fI u 0 7), .int (fI u 0 8), .int (fI u 0 9), .long (fL u 0 10), .ref (a 3), .ref (a 4), .ref (a 5), .ref (a 6), .ref (a 7), .ref (a 8), .ref (a 9), .ref (a 10), .ref (a 11), .ref (a 12), .ref (a 13), .ref (a 14), .ref (a 15), .ref (a 16), .ref (a 17), .ref (a 18), .ref (a 19), .ref (a 20), .ref (a 21), .ref (a 22), .ref (a 23), .ref (a 24), .ref (a 25), .ref (a 26), .ref (a 27), .int (fI u 0 36), .int (fI u 0 37), .int (fI u 0 38), .int (fI u 0 39), .int (fI u 0 40), .int (fI u 0 41), .int (fI u 0 42), .int (fI u 0 43), .ref (a 28), .int (fI u 0 45), .ref (a 29), .int (fI u 0 47), .int (fI u 0 48), .ref (a 30), .int (fI u 0 50), .ref (a 31), .ref (a 32), .ref (a 33), .ref (a 34), .ref (a 35), .ref (a 36), .ref (a 37), .ref (a 38), .ref (a 39), .ref (a 40), .int (fI u 0 61), .int (fI u 0 62), .ref (a 41), .ref (a 42)] : List Value).set 41 (.int v))) = mW cy a (sI u 0 41 v) := rfl
theorem mW_s0_42 {v : Int32} : (mW cy a u).set 0 (a 0, .inr (11, ([.ref (a 1), .ref (a 2), .int (fI u 0 2), .int (fI u 0 3), .int (fI u 0 4), .int (fI u 0 5), .int (fI u 0 6), .int (fI u 0 7), .int (fI u 0 8), .int (fI u 0 9), .long (fL u 0 10), .ref (a 3), .ref (a 4), .ref (a 5), .ref (a 6), .ref (a 7), .ref (a 8), .ref (a 9), .ref (a 10), .ref (a 11), .ref (a 12), .ref (a 13), .ref (a 14), .ref (a 15), .ref (a 16), .ref (a 17), .ref (a 18), .ref (a 19), .ref (a 20), .ref (a 21), .ref (a 22), .ref (a 23), .ref (a 24), .ref (a 25), .ref (a 26), .ref (a 27), .int (fI u 0 36), .int (fI u 0 37), .int (fI u 0 38), .int (fI u 0 39), .int (fI u 0 40), .int (fI u 0 41), .int (fI u 0 42), .int (fI u 0 43), .ref (a 28), .int (fI u 0 45), .ref (a 29), .int (fI u 0 47), .int (fI u 0 48), .ref (a 30), .int (fI u 0 50), .ref (a 31), .ref (a 32), .ref (a 33), .ref (a 34), .ref (a 35), .ref (a 36), .ref (a 37), .ref (a 38), .ref (a 39), .ref (a 40), .int (fI u 0 61), .int (fI u 0 62), .ref (a 41), .ref (a 42)] : List Value).set 42 (.int v))) = mW cy a (sI u 0 42 v) := rfl
theorem mW_s0_43 {v : Int32} : (mW cy a u).set 0 (a 0, .inr (11, ([.ref (a 1), .ref (a 2), .int (fI u 0 2), .int (fI u 0 3), .int (fI u 0 4), .int (fI u 0 5), .int (fI u 0 6), .int (fI u 0 7), .int (fI u 0 8), .int (fI u 0 9), .long (fL u 0 10), .ref (a 3), .ref (a 4), .ref (a 5), .ref (a 6), .ref (a 7), .ref (a 8), .ref (a 9), .ref (a 10), .ref (a 11), .ref (a 12), .ref (a 13), .ref (a 14), .ref (a 15), .ref (a 16), .ref (a 17), .ref (a 18), .ref (a 19), .ref (a 20), .ref (a 21), .ref (a 22), .ref (a 23), .ref (a 24), .ref (a 25), .ref (a 26), .ref (a 27), .int (fI u 0 36), .int (fI u 0 37), .int (fI u 0 38), .int (fI u 0 39), .int (fI u 0 40), .int (fI u 0 41), .int (fI u 0 42), .int (fI u 0 43), .ref (a 28), .int (fI u 0 45), .ref (a 29), .int (fI u 0 47), .int (fI u 0 48), .ref (a 30), .int (fI u 0 50), .ref (a 31), .ref (a 32), .ref (a 33), .ref (a 34), .ref (a 35), .ref (a 36), .ref (a 37), .ref (a 38), .ref (a 39), .ref (a 40), .int (fI u 0 61), .int (fI u 0 62), .ref (a 41), .ref (a 42)] : List Value).set 43 (.int v))) = mW cy a (sI u 0 43 v) := rfl
theorem mW_s0_45 {v : Int32} : (mW cy a u).set 0 (a 0, .inr (11, ([.ref (a 1), .ref (a 2), .int (fI u 0 2), .int (fI u 0 3), .int (fI u 0 4), .int (fI u 0 5), .int (fI u 0 6), .int (fI u 0 7), .int (fI u 0 8), .int (fI u 0 9), .long (fL u 0 10), .ref (a 3), .ref (a 4), .ref (a 5), .ref (a 6), .ref (a 7), .ref (a 8), .ref (a 9), .ref (a 10), .ref (a 11), .ref (a 12), .ref (a 13), .ref (a 14), .ref (a 15), .ref (a 16), .ref (a 17), .ref (a 18), .ref (a 19), .ref (a 20), .ref (a 21), .ref (a 22), .ref (a 23), .ref (a 24), .ref (a 25), .ref (a 26), .ref (a 27), .int (fI u 0 36), .int (fI u 0 37), .int (fI u 0 38), .int (fI u 0 39), .int (fI u 0 40), .int (fI u 0 41), .int (fI u 0 42), .int (fI u 0 43), .ref (a 28), .int (fI u 0 45), .ref (a 29), .int (fI u 0 47), .int (fI u 0 48), .ref (a 30), .int (fI u 0 50), .ref (a 31), .ref (a 32), .ref (a 33), .ref (a 34), .ref (a 35), .ref (a 36), .ref (a 37), .ref (a 38), .ref (a 39), .ref (a 40), .int (fI u 0 61), .int (fI u 0 62), .ref (a 41), .ref (a 42)] : List Value).set 45 (.int v))) = mW cy a (sI u 0 45 v) := rfl
theorem mW_s0_47 {v : Int32} : (mW cy a u).set 0 (a 0, .inr (11, ([.ref (a 1), .ref (a 2), .int (fI u 0 2), .int (fI u 0 3), .int (fI u 0 4), .int (fI u 0 5), .int (fI u 0 6), .int (fI u 0 7), .int (fI u 0 8), .int (fI u 0 9), .long (fL u 0 10), .ref (a 3), .ref (a 4), .ref (a 5), .ref (a 6), .ref (a 7), .ref (a 8), .ref (a 9), .ref (a 10), .ref (a 11), .ref (a 12), .ref (a 13), .ref (a 14), .ref (a 15), .ref (a 16), .ref (a 17), .ref (a 18), .ref (a 19), .ref (a 20), .ref (a 21), .ref (a 22), .ref (a 23), .ref (a 24), .ref (a 25), .ref (a 26), .ref (a 27), .int (fI u 0 36), .int (fI u 0 37), .int (fI u 0 38), .int (fI u 0 39), .int (fI u 0 40), .int (fI u 0 41), .int (fI u 0 42), .int (fI u 0 43), .ref (a 28), .int (fI u 0 45), .ref (a 29), .int (fI u 0 47), .int (fI u 0 48), .ref (a 30), .int (fI u 0 50), .ref (a 31), .ref (a 32), .ref (a 33), .ref (a 34), .ref (a 35), .ref (a 36), .ref (a 37), .ref (a 38), .ref (a 39), .ref (a 40), .int (fI u 0 61), .int (fI u 0 62), .ref (a 41), .ref (a 42)] : List Value).set 47 (.int v))) = mW cy a (sI u 0 47 v) := rfl
theorem mW_s0_48 {v : Int32} : (mW cy a u).set 0 (a 0, .inr (11, ([.ref (a 1), .ref (a 2), .int (fI u 0 2), .int (fI u 0 3), .int (fI u 0 4), .int (fI u 0 5), .int (fI u 0 6), .int (fI u 0 7), .int (fI u 0 8), .int (fI u 0 9), .long (fL u 0 10), .ref (a 3), .ref (a 4), .ref (a 5), .ref (a 6), .ref (a 7), .ref (a 8), .ref (a 9), .ref (a 10), .ref (a 11), .ref (a 12), .ref (a 13), .ref (a 14), .ref (a 15), .ref (a 16), .ref (a 17), .ref (a 18), .ref (a 19), .ref (a 20), .ref (a 21), .ref (a 22), .ref (a 23), .ref (a 24), .ref (a 25), .ref (a 26), .ref (a 27), .int (fI u 0 36), .int (fI u 0 37), .int (fI u 0 38), .int (fI u 0 39), .int (fI u 0 40), .int (fI u 0 41), .int (fI u 0 42), .int (fI u 0 43), .ref (a 28), .int (fI u 0 45), .ref (a 29), .int (fI u 0 47), .int (fI u 0 48), .ref (a 30), .int (fI u 0 50), .ref (a 31), .ref (a 32), .ref (a 33), .ref (a 34), .ref (a 35), .ref (a 36), .ref (a 37), .ref (a 38), .ref (a 39), .ref (a 40), .int (fI u 0 61), .int (fI u 0 62), .ref (a 41), .ref (a 42)] : List Value).set 48 (.int v))) = mW cy a (sI u 0 48 v) := rfl
theorem mW_s0_50 {v : Int32} : (mW cy a u).set 0 (a 0, .inr (11, ([.ref (a 1), .ref (a 2), .int (fI u 0 2), .int (fI u 0 3), .int (fI u 0 4), .int (fI u 0 5), .int (fI u 0 6), .int (fI u 0 7), .int (fI u 0 8), .int (fI u 0 9), .long (fL u 0 10), .ref (a 3), .ref (a 4), .ref (a 5), .ref (a 6), .ref (a 7), .ref (a 8), .ref (a 9), .ref (a 10), .ref (a 11), .ref (a 12), .ref (a 13), .ref (a 14), .ref (a 15), .ref (a 16), .ref (a 17), .ref (a 18), .ref (a 19), .ref (a 20), .ref (a 21), .ref (a 22), .ref (a 23), .ref (a 24), .ref (a 25), .ref (a 26), .ref (a 27), .int (fI u 0 36), .int (fI u 0 37), .int (fI u 0 38), .int (fI u 0 39), .int (fI u 0 40), .int (fI u 0 41), .int (fI u 0 42), .int (fI u 0 43), .ref (a 28), .int (fI u 0 45), .ref (a 29), .int (fI u 0 47), .int (fI u 0 48), .ref (a 30), .int (fI u 0 50), .ref (a 31), .ref (a 32), .ref (a 33), .ref (a 34), .ref (a 35), .ref (a 36), .ref (a 37), .ref (a 38), .ref (a 39), .ref (a 40), .int (fI u 0 61), .int (fI u 0 62), .ref (a 41), .ref (a 42)] : List Value).set 50 (.int v))) = mW cy a (sI u 0 50 v) := rfl
theorem mW_s0_61 {v : Int32} : (mW cy a u).set 0 (a 0, .inr (11, ([.ref (a 1), .ref (a 2), .int (fI u 0 2), .int (fI u 0 3), .int (fI u 0 4), .int (fI u 0 5), .int (fI u 0 6), .int (fI u 0 7), .int (fI u 0 8), .int (fI u 0 9), .long (fL u 0 10), .ref (a 3), .ref (a 4), .ref (a 5), .ref (a 6), .ref (a 7), .ref (a 8), .ref (a 9), .ref (a 10), .ref (a 11), .ref (a 12), .ref (a 13), .ref (a 14), .ref (a 15), .ref (a 16), .ref (a 17), .ref (a 18), .ref (a 19), .ref (a 20), .ref (a 21), .ref (a 22), .ref (a 23), .ref (a 24), .ref (a 25), .ref (a 26), .ref (a 27), .int (fI u 0 36), .int (fI u 0 37), .int (fI u 0 38), .int (fI u 0 39), .int (fI u 0 40), .int (fI u 0 41), .int (fI u 0 42), .int (fI u 0 43), .ref (a 28), .int (fI u 0 45), .ref (a 29), .int (fI u 0 47), .int (fI u 0 48), .ref (a 30), .int (fI u 0 50), .ref (a 31), .ref (a 32), .ref (a 33), .ref (a 34), .ref (a 35), .ref (a 36), .ref (a 37), .ref (a 38), .ref (a 39), .ref (a 40), .int (fI u 0 61), .int (fI u 0 62), .ref (a 41), .ref (a 42)] : List Value).set 61 (.int v))) = mW cy a (sI u 0 61 v) := rfl
theorem mW_s0_62 {v : Int32} : (mW cy a u).set 0 (a 0, .inr (11, ([.ref (a 1), .ref (a 2), .int (fI u 0 2), .int (fI u 0 3), .int (fI u 0 4), .int (fI u 0 5), .int (fI u 0 6), .int (fI u 0 7), .int (fI u 0 8), .int (fI u 0 9), .long (fL u 0 10), .ref (a 3), .ref (a 4), .ref (a 5), .ref (a 6), .ref (a 7), .ref (a 8), .ref (a 9), .ref (a 10), .ref (a 11), .ref (a 12), .ref (a 13), .ref (a 14), .ref (a 15), .ref (a 16), .ref (a 17), .ref (a 18), .ref (a 19), .ref (a 20), .ref (a 21), .ref (a 22), .ref (a 23), .ref (a 24), .ref (a 25), .ref (a 26), .ref (a 27), .int (fI u 0 36), .int (fI u 0 37), .int (fI u 0 38), .int (fI u 0 39), .int (fI u 0 40), .int (fI u 0 41), .int (fI u 0 42), .int (fI u 0 43), .ref (a 28), .int (fI u 0 45), .ref (a 29), .int (fI u 0 47), .int (fI u 0 48), .ref (a 30), .int (fI u 0 50), .ref (a 31), .ref (a 32), .ref (a 33), .ref (a 34), .ref (a 35), .ref (a 36), .ref (a 37), .ref (a 38), .ref (a 39), .ref (a 40), .int (fI u 0 61), .int (fI u 0 62), .ref (a 41), .ref (a 42)] : List Value).set 62 (.int v))) = mW cy a (sI u 0 62 v) := rfl
theorem mW_1 : (mW cy a u)[1]? = some (a 1, .inl (cy 0, 1620, .inl (fA u 1))) := rfl
theorem mW_s1 {f : Nat → Int32} : (mW cy a u).set 1 (a 1, .inl (cy 0, 1620, .inl f)) = mW cy a (sA u 1 f) := rfl
theorem mW_2 : (mW cy a u)[2]? = some (a 2, .inl (cy 0, 1600, .inl (fA u 2))) := rfl
theorem mW_s2 {f : Nat → Int32} : (mW cy a u).set 2 (a 2, .inl (cy 0, 1600, .inl f)) = mW cy a (sA u 2 f) := rfl
theorem mW_3 : (mW cy a u)[3]? = some (a 3, .inl (cy 1, 2, .inl (fA u 3))) := rfl
theorem mW_s3 {f : Nat → Int32} : (mW cy a u).set 3 (a 3, .inl (cy 1, 2, .inl f)) = mW cy a (sA u 3 f) := rfl
theorem mW_4 : (mW cy a u)[4]? = some (a 4, .inl (cy 1, 2, .inl (fA u 4))) := rfl
theorem mW_s4 {f : Nat → Int32} : (mW cy a u).set 4 (a 4, .inl (cy 1, 2, .inl f)) = mW cy a (sA u 4 f) := rfl
theorem mW_5 : (mW cy a u)[5]? = some (a 5, .inl (cy 1, 2, .inl (fA u 5))) := rfl
theorem mW_s5 {f : Nat → Int32} : (mW cy a u).set 5 (a 5, .inl (cy 1, 2, .inl f)) = mW cy a (sA u 5 f) := rfl
theorem mW_6 : (mW cy a u)[6]? = some (a 6, .inl (cy 1, 2, .inl (fA u 6))) := rfl
theorem mW_s6 {f : Nat → Int32} : (mW cy a u).set 6 (a 6, .inl (cy 1, 2, .inl f)) = mW cy a (sA u 6 f) := rfl
theorem mW_7 : (mW cy a u)[7]? = some (a 7, .inl (cy 1, 2, .inl (fA u 7))) := rfl
theorem mW_s7 {f : Nat → Int32} : (mW cy a u).set 7 (a 7, .inl (cy 1, 2, .inl f)) = mW cy a (sA u 7 f) := rfl
theorem mW_8 : (mW cy a u)[8]? = some (a 8, .inl (cy 1, 2, .inl (fA u 8))) := rfl
theorem mW_s8 {f : Nat → Int32} : (mW cy a u).set 8 (a 8, .inl (cy 1, 2, .inl f)) = mW cy a (sA u 8 f) := rfl
theorem mW_9 : (mW cy a u)[9]? = some (a 9, .inl (cy 1, 2, .inl (fA u 9))) := rfl
theorem mW_s9 {f : Nat → Int32} : (mW cy a u).set 9 (a 9, .inl (cy 1, 2, .inl f)) = mW cy a (sA u 9 f) := rfl
theorem mW_10 : (mW cy a u)[10]? = some (a 10, .inl (cy 1, 2, .inl (fA u 10))) := rfl
theorem mW_s10 {f : Nat → Int32} : (mW cy a u).set 10 (a 10, .inl (cy 1, 2, .inl f)) = mW cy a (sA u 10 f) := rfl
theorem mW_11 : (mW cy a u)[11]? = some (a 11, .inl (cy 1, 2, .inl (fA u 11))) := rfl
theorem mW_s11 {f : Nat → Int32} : (mW cy a u).set 11 (a 11, .inl (cy 1, 2, .inl f)) = mW cy a (sA u 11 f) := rfl
theorem mW_12 : (mW cy a u)[12]? = some (a 12, .inl (cy 1, 2, .inl (fA u 12))) := rfl
theorem mW_s12 {f : Nat → Int32} : (mW cy a u).set 12 (a 12, .inl (cy 1, 2, .inl f)) = mW cy a (sA u 12 f) := rfl
theorem mW_13 : (mW cy a u)[13]? = some (a 13, .inl (cy 1, 28, .inl (fA u 13))) := rfl
theorem mW_s13 {f : Nat → Int32} : (mW cy a u).set 13 (a 13, .inl (cy 1, 28, .inl f)) = mW cy a (sA u 13 f) := rfl
theorem mW_14 : (mW cy a u)[14]? = some (a 14, .inl (cy 1, 28, .inl (fA u 14))) := rfl
theorem mW_s14 {f : Nat → Int32} : (mW cy a u).set 14 (a 14, .inl (cy 1, 28, .inl f)) = mW cy a (sA u 14 f) := rfl
theorem mW_15 : (mW cy a u)[15]? = some (a 15, .inl (cy 1, 16, .inl (fA u 15))) := rfl
theorem mW_s15 {f : Nat → Int32} : (mW cy a u).set 15 (a 15, .inl (cy 1, 16, .inl f)) = mW cy a (sA u 15 f) := rfl
theorem mW_16 : (mW cy a u)[16]? = some (a 16, .inl (cy 1, 12, .inl (fA u 16))) := rfl
theorem mW_s16 {f : Nat → Int32} : (mW cy a u).set 16 (a 16, .inl (cy 1, 12, .inl f)) = mW cy a (sA u 16 f) := rfl
theorem mW_17 : (mW cy a u)[17]? = some (a 17, .inl (cy 1, 12, .inl (fA u 17))) := rfl
theorem mW_s17 {f : Nat → Int32} : (mW cy a u).set 17 (a 17, .inl (cy 1, 12, .inl f)) = mW cy a (sA u 17 f) := rfl
theorem mW_18 : (mW cy a u)[18]? = some (a 18, .inl (cy 1, 2, .inl (fA u 18))) := rfl
theorem mW_s18 {f : Nat → Int32} : (mW cy a u).set 18 (a 18, .inl (cy 1, 2, .inl f)) = mW cy a (sA u 18 f) := rfl
theorem mW_19 : (mW cy a u)[19]? = some (a 19, .inl (cy 1, 2, .inl (fA u 19))) := rfl
theorem mW_s19 {f : Nat → Int32} : (mW cy a u).set 19 (a 19, .inl (cy 1, 2, .inl f)) = mW cy a (sA u 19 f) := rfl
theorem mW_20 : (mW cy a u)[20]? = some (a 20, .inl (cy 2, 16, .inr (.inl (fJ u 20)))) := rfl
theorem mW_s20 {f : Nat → Int64} : (mW cy a u).set 20 (a 20, .inl (cy 2, 16, .inr (.inl f))) = mW cy a (sJ u 20 f) := rfl
theorem mW_21 : (mW cy a u)[21]? = some (a 21, .inl (cy 2, 16, .inr (.inl (fJ u 21)))) := rfl
theorem mW_s21 {f : Nat → Int64} : (mW cy a u).set 21 (a 21, .inl (cy 2, 16, .inr (.inl f))) = mW cy a (sJ u 21 f) := rfl
theorem mW_22 : (mW cy a u)[22]? = some (a 22, .inl (cy 2, 12, .inr (.inl (fJ u 22)))) := rfl
theorem mW_s22 {f : Nat → Int64} : (mW cy a u).set 22 (a 22, .inl (cy 2, 12, .inr (.inl f))) = mW cy a (sJ u 22 f) := rfl
theorem mW_23 : (mW cy a u)[23]? = some (a 23, .inl (cy 1, 1120, .inl (fA u 23))) := rfl
theorem mW_s23 {f : Nat → Int32} : (mW cy a u).set 23 (a 23, .inl (cy 1, 1120, .inl f)) = mW cy a (sA u 23 f) := rfl
theorem mW_24 : (mW cy a u)[24]? = some (a 24, .inl (cy 1, 1120, .inl (fA u 24))) := rfl
theorem mW_s24 {f : Nat → Int32} : (mW cy a u).set 24 (a 24, .inl (cy 1, 1120, .inl f)) = mW cy a (sA u 24 f) := rfl
theorem mW_25 : (mW cy a u)[25]? = some (a 25, .inl (cy 1, 90, .inl (fA u 25))) := rfl
theorem mW_s25 {f : Nat → Int32} : (mW cy a u).set 25 (a 25, .inl (cy 1, 90, .inl f)) = mW cy a (sA u 25 f) := rfl
theorem mW_26 : (mW cy a u)[26]? = some (a 26, .inl (cy 1, 90, .inl (fA u 26))) := rfl
theorem mW_s26 {f : Nat → Int32} : (mW cy a u).set 26 (a 26, .inl (cy 1, 90, .inl f)) = mW cy a (sA u 26 f) := rfl
theorem mW_27 : (mW cy a u)[27]? = some (a 27, .inl (cy 1, 60, .inl (fA u 27))) := rfl
theorem mW_s27 {f : Nat → Int32} : (mW cy a u).set 27 (a 27, .inl (cy 1, 60, .inl f)) = mW cy a (sA u 27 f) := rfl
theorem mW_28 : (mW cy a u)[28]? = some (a 28, .inl (cy 1, 29, .inl (fA u 28))) := rfl
theorem mW_s28 {f : Nat → Int32} : (mW cy a u).set 28 (a 28, .inl (cy 1, 29, .inl f)) = mW cy a (sA u 28 f) := rfl
theorem mW_29 : (mW cy a u)[29]? = some (a 29, .inl (cy 1, 1189, .inl (fA u 29))) := rfl
theorem mW_s29 {f : Nat → Int32} : (mW cy a u).set 29 (a 29, .inl (cy 1, 1189, .inl f)) = mW cy a (sA u 29 f) := rfl
theorem mW_30 : (mW cy a u)[30]? = some (a 30, .inl (cy 1, 8, .inl (fA u 30))) := rfl
theorem mW_s30 {f : Nat → Int32} : (mW cy a u).set 30 (a 30, .inl (cy 1, 8, .inl f)) = mW cy a (sA u 30 f) := rfl
theorem mW_31 : (mW cy a u)[31]? = some (a 31, .inl (cy 1, 128, .inl (fA u 31))) := rfl
theorem mW_s31 {f : Nat → Int32} : (mW cy a u).set 31 (a 31, .inl (cy 1, 128, .inl f)) = mW cy a (sA u 31 f) := rfl
theorem mW_32 : (mW cy a u)[32]? = some (a 32, .inl (cy 1, 64, .inl (fA u 32))) := rfl
theorem mW_s32 {f : Nat → Int32} : (mW cy a u).set 32 (a 32, .inl (cy 1, 64, .inl f)) = mW cy a (sA u 32 f) := rfl
theorem mW_33 : (mW cy a u)[33]? = some (a 33, .inl (cy 1, 186, .inl (fA u 33))) := rfl
theorem mW_s33 {f : Nat → Int32} : (mW cy a u).set 33 (a 33, .inl (cy 1, 186, .inl f)) = mW cy a (sA u 33 f) := rfl
theorem mW_34 : (mW cy a u)[34]? = some (a 34, .inl (cy 1, 30, .inl (fA u 34))) := rfl
theorem mW_s34 {f : Nat → Int32} : (mW cy a u).set 34 (a 34, .inl (cy 1, 30, .inl f)) = mW cy a (sA u 34 f) := rfl
theorem mW_35 : (mW cy a u)[35]? = some (a 35, .inl (cy 1, 30, .inl (fA u 35))) := rfl
theorem mW_s35 {f : Nat → Int32} : (mW cy a u).set 35 (a 35, .inl (cy 1, 30, .inl f)) = mW cy a (sA u 35 f) := rfl
theorem mW_36 : (mW cy a u)[36]? = some (a 36, .inl (cy 1, 30, .inl (fA u 36))) := rfl
theorem mW_s36 {f : Nat → Int32} : (mW cy a u).set 36 (a 36, .inl (cy 1, 30, .inl f)) = mW cy a (sA u 36 f) := rfl
theorem mW_37 : (mW cy a u)[37]? = some (a 37, .inl (cy 1, 30, .inl (fA u 37))) := rfl
theorem mW_s37 {f : Nat → Int32} : (mW cy a u).set 37 (a 37, .inl (cy 1, 30, .inl f)) = mW cy a (sA u 37 f) := rfl
theorem mW_38 : (mW cy a u)[38]? = some (a 38, .inl (cy 1, 30, .inl (fA u 38))) := rfl
theorem mW_s38 {f : Nat → Int32} : (mW cy a u).set 38 (a 38, .inl (cy 1, 30, .inl f)) = mW cy a (sA u 38 f) := rfl
theorem mW_39 : (mW cy a u)[39]? = some (a 39, .inl (cy 1, 3, .inl (fA u 39))) := rfl
theorem mW_s39 {f : Nat → Int32} : (mW cy a u).set 39 (a 39, .inl (cy 1, 3, .inl f)) = mW cy a (sA u 39 f) := rfl
theorem mW_40 : (mW cy a u)[40]? = some (a 40, .inl (cy 1, 29, .inl (fA u 40))) := rfl
theorem mW_s40 {f : Nat → Int32} : (mW cy a u).set 40 (a 40, .inl (cy 1, 29, .inl f)) = mW cy a (sA u 40 f) := rfl
theorem mW_41 : (mW cy a u)[41]? = some (a 41, .inl (cy 1, 87, .inl (fA u 41))) := rfl
theorem mW_s41 {f : Nat → Int32} : (mW cy a u).set 41 (a 41, .inl (cy 1, 87, .inl f)) = mW cy a (sA u 41 f) := rfl
theorem mW_42 : (mW cy a u)[42]? = some (a 42, .inl (cy 3, 3, .inl (fA u 42))) := rfl
theorem mW_s42 {f : Nat → Int32} : (mW cy a u).set 42 (a 42, .inl (cy 3, 3, .inl f)) = mW cy a (sA u 42 f) := rfl
end
end
section
/-! ints by their numbers; branches told by numbers -/
theorem i32_lt {x y : Int32} : x < y ↔ x.toInt < y.toInt := Int32.lt_iff_toInt_lt
theorem i32_le {x y : Int32} : x ≤ y ↔ x.toInt ≤ y.toInt := Int32.le_iff_toInt_le
theorem i32_eq {x y : Int32} : x = y ↔ x.toInt = y.toInt := Int32.toInt_inj.symm
theorem i32_b (x : Int32) : -2147483648 ≤ x.toInt ∧ x.toInt ≤ 2147483647 := by
  have h1 := Int32.le_toInt x
  have h2 := Int32.toInt_lt x
  constructor <;> omega
theorem i_add {x y : Int32} {X Y : Int} (hx : x.toInt = X) (hy : y.toInt = Y) (h : -2147483648 ≤ X + Y ∧ X + Y ≤ 2147483647) : (x + y).toInt = X + Y := by
  rw [Int32.toInt_add, hx, hy]
  exact Int.bmod_eq_of_le (by omega) (by omega)
theorem i_sub {x y : Int32} {X Y : Int} (hx : x.toInt = X) (hy : y.toInt = Y) (h : -2147483648 ≤ X - Y ∧ X - Y ≤ 2147483647) : (x - y).toInt = X - Y := by
  rw [Int32.toInt_sub, hx, hy]
  exact Int.bmod_eq_of_le (by omega) (by omega)
theorem i_mul {x y : Int32} {X Y : Int} (hx : x.toInt = X) (hy : y.toInt = Y) (h : -2147483648 ≤ X * Y ∧ X * Y ≤ 2147483647) : (x * y).toInt = X * Y := by
  rw [Int32.toInt_mul, hx, hy]
  exact Int.bmod_eq_of_le (by omega) (by omega)
theorem i_in {x : Int32} {X : Int} {n : Nat} (hx : x.toInt = X) (h0 : 0 ≤ X) (h1 : X < (n : Int)) : vp_in x n := by
  have h2 : x.toNatClampNeg = X.toNat := by show x.toInt.toNat = _; rw [hx]
  intro h
  rcases h with h | h
  · rw [i32_lt, hx] at h
    have : (0 : Int32).toInt = 0 := rfl
    omega
  · rw [h2] at h
    omega
theorem i_clt {x : Int32} {X : Int} {n : Nat} (hx : x.toInt = X) (h0 : 0 ≤ X) (h1 : X < (n : Int)) : x.toNatClampNeg < n := by
  have h2 : x.toNatClampNeg = X.toNat := by show x.toInt.toNat = _; rw [hx]
  rw [h2]
  omega
theorem i_shr0 (y : Int32) : (0 : Int32) >>> y = 0 := by simp
theorem i_shl0 (y : Int32) : (0 : Int32) <<< y = 0 := by simp
theorem i_and0 (x : Int32) : x &&& 0 = 0 := by simp
theorem i_and0l (x : Int32) : 0 &&& x = 0 := by simp
theorem i_ne0 {x : Int32} {X : Int} (hx : x.toInt = X) (h : X ≠ 0) : ¬ x = 0 := fun e => h (by rw [← hx, e]; rfl)
section BR
variable {p : Program} {l : Launch} {e : Env} {R : Room} {s : State} {m : MethodId} {args : Array Value} {below : List Frame} {meth : Method} {c : Code} {H : Heap} {locs : List Loc} {cells slots : Nat} {Q : State → Prop}
variable {cc : ByteArray} {pc : Nat} {ls : Array Slot} {rest : List Value}

theorem bs_eq {x : Int32} {X : Int} {off : Int} {tgt : Nat} (hx : p.tables.exec = Jvm.exec) (hb : c.code = cc) (hdg : decode cc pc = .ok (.ifCond .eq off, 3)) (ht : (pc : Int) + off = (tgt : Int)) (hX : x.toInt = X) (kt : X = 0 → W p l e R s m args below meth c H locs cells slots Q (F0 m tgt ls rest)) (kf : ¬ X = 0 → W p l e R s m args below meth c H locs cells slots Q (F0 m (pc + 3) ls rest)) : W p l e R s m args below meth c H locs cells slots Q (F0 m pc ls (.int x :: rest)) :=
  lv_if_eq hx hb hdg ht (fun h => kt (by have z : (0 : Int32).toInt = 0 := rfl; have h2 := h; simp only [i32_eq, hX, z] at h2; omega)) (fun h => kf (by have z : (0 : Int32).toInt = 0 := rfl; have h2 := h; simp only [i32_eq, hX, z] at h2; omega))
theorem bt_eq {x : Int32} {X : Int} {off : Int} {tgt : Nat} (hx : p.tables.exec = Jvm.exec) (hb : c.code = cc) (hdg : decode cc pc = .ok (.ifCond .eq off, 3)) (ht : (pc : Int) + off = (tgt : Int)) (hX : x.toInt = X) (hc : X = 0) (kt : W p l e R s m args below meth c H locs cells slots Q (F0 m tgt ls rest)) : W p l e R s m args below meth c H locs cells slots Q (F0 m pc ls (.int x :: rest)) :=
  bs_eq hx hb hdg ht hX (fun _ => kt) (fun h => absurd hc (by omega))
theorem bn_eq {x : Int32} {X : Int} {off : Int} (hx : p.tables.exec = Jvm.exec) (hb : c.code = cc) (hdg : decode cc pc = .ok (.ifCond .eq off, 3)) (hX : x.toInt = X) (hc : ¬ X = 0) (kf : W p l e R s m args below meth c H locs cells slots Q (F0 m (pc + 3) ls rest)) {tgt : Nat} (ht : (pc : Int) + off = (tgt : Int)) : W p l e R s m args below meth c H locs cells slots Q (F0 m pc ls (.int x :: rest)) :=
  bs_eq hx hb hdg ht hX (fun h => absurd hc (by omega)) (fun _ => kf)
theorem cs_eq {x y : Int32} {X Y : Int} {off : Int} {tgt : Nat} (hx : p.tables.exec = Jvm.exec) (hb : c.code = cc) (hdg : decode cc pc = .ok (.if_icmp .eq off, 3)) (ht : (pc : Int) + off = (tgt : Int)) (hX : x.toInt = X) (hY : y.toInt = Y) (kt : X = Y → W p l e R s m args below meth c H locs cells slots Q (F0 m tgt ls rest)) (kf : ¬ X = Y → W p l e R s m args below meth c H locs cells slots Q (F0 m (pc + 3) ls rest)) : W p l e R s m args below meth c H locs cells slots Q (F0 m pc ls (.int y :: .int x :: rest)) :=
  lv_icmp_eq hx hb hdg ht (fun h => kt (by have h2 := h; simp only [i32_eq, hX, hY] at h2; omega)) (fun h => kf (by have h2 := h; simp only [i32_eq, hX, hY] at h2; omega))
theorem ct_eq {x y : Int32} {X Y : Int} {off : Int} {tgt : Nat} (hx : p.tables.exec = Jvm.exec) (hb : c.code = cc) (hdg : decode cc pc = .ok (.if_icmp .eq off, 3)) (ht : (pc : Int) + off = (tgt : Int)) (hX : x.toInt = X) (hY : y.toInt = Y) (hc : X = Y) (kt : W p l e R s m args below meth c H locs cells slots Q (F0 m tgt ls rest)) : W p l e R s m args below meth c H locs cells slots Q (F0 m pc ls (.int y :: .int x :: rest)) :=
  cs_eq hx hb hdg ht hX hY (fun _ => kt) (fun h => absurd hc (by omega))
theorem cn_eq {x y : Int32} {X Y : Int} {off : Int} (hx : p.tables.exec = Jvm.exec) (hb : c.code = cc) (hdg : decode cc pc = .ok (.if_icmp .eq off, 3)) (hX : x.toInt = X) (hY : y.toInt = Y) (hc : ¬ X = Y) (kf : W p l e R s m args below meth c H locs cells slots Q (F0 m (pc + 3) ls rest)) {tgt : Nat} (ht : (pc : Int) + off = (tgt : Int)) : W p l e R s m args below meth c H locs cells slots Q (F0 m pc ls (.int y :: .int x :: rest)) :=
  cs_eq hx hb hdg ht hX hY (fun h => absurd hc (by omega)) (fun _ => kf)
theorem bs_ne {x : Int32} {X : Int} {off : Int} {tgt : Nat} (hx : p.tables.exec = Jvm.exec) (hb : c.code = cc) (hdg : decode cc pc = .ok (.ifCond .ne off, 3)) (ht : (pc : Int) + off = (tgt : Int)) (hX : x.toInt = X) (kt : ¬ X = 0 → W p l e R s m args below meth c H locs cells slots Q (F0 m tgt ls rest)) (kf : X = 0 → W p l e R s m args below meth c H locs cells slots Q (F0 m (pc + 3) ls rest)) : W p l e R s m args below meth c H locs cells slots Q (F0 m pc ls (.int x :: rest)) :=
  lv_if_ne hx hb hdg ht (fun h => kt (by have z : (0 : Int32).toInt = 0 := rfl; have h2 := h; simp only [i32_eq, hX, z] at h2; omega)) (fun h => kf (by have z : (0 : Int32).toInt = 0 := rfl; have h2 := h; simp only [i32_eq, hX, z] at h2; omega))
theorem bt_ne {x : Int32} {X : Int} {off : Int} {tgt : Nat} (hx : p.tables.exec = Jvm.exec) (hb : c.code = cc) (hdg : decode cc pc = .ok (.ifCond .ne off, 3)) (ht : (pc : Int) + off = (tgt : Int)) (hX : x.toInt = X) (hc : ¬ X = 0) (kt : W p l e R s m args below meth c H locs cells slots Q (F0 m tgt ls rest)) : W p l e R s m args below meth c H locs cells slots Q (F0 m pc ls (.int x :: rest)) :=
  bs_ne hx hb hdg ht hX (fun _ => kt) (fun h => absurd hc (by omega))
theorem bn_ne {x : Int32} {X : Int} {off : Int} (hx : p.tables.exec = Jvm.exec) (hb : c.code = cc) (hdg : decode cc pc = .ok (.ifCond .ne off, 3)) (hX : x.toInt = X) (hc : X = 0) (kf : W p l e R s m args below meth c H locs cells slots Q (F0 m (pc + 3) ls rest)) {tgt : Nat} (ht : (pc : Int) + off = (tgt : Int)) : W p l e R s m args below meth c H locs cells slots Q (F0 m pc ls (.int x :: rest)) :=
  bs_ne hx hb hdg ht hX (fun h => absurd hc (by omega)) (fun _ => kf)
theorem cs_ne {x y : Int32} {X Y : Int} {off : Int} {tgt : Nat} (hx : p.tables.exec = Jvm.exec) (hb : c.code = cc) (hdg : decode cc pc = .ok (.if_icmp .ne off, 3)) (ht : (pc : Int) + off = (tgt : Int)) (hX : x.toInt = X) (hY : y.toInt = Y) (kt : ¬ X = Y → W p l e R s m args below meth c H locs cells slots Q (F0 m tgt ls rest)) (kf : X = Y → W p l e R s m args below meth c H locs cells slots Q (F0 m (pc + 3) ls rest)) : W p l e R s m args below meth c H locs cells slots Q (F0 m pc ls (.int y :: .int x :: rest)) :=
  lv_icmp_ne hx hb hdg ht (fun h => kt (by have h2 := h; simp only [i32_eq, hX, hY] at h2; omega)) (fun h => kf (by have h2 := h; simp only [i32_eq, hX, hY] at h2; omega))
theorem ct_ne {x y : Int32} {X Y : Int} {off : Int} {tgt : Nat} (hx : p.tables.exec = Jvm.exec) (hb : c.code = cc) (hdg : decode cc pc = .ok (.if_icmp .ne off, 3)) (ht : (pc : Int) + off = (tgt : Int)) (hX : x.toInt = X) (hY : y.toInt = Y) (hc : ¬ X = Y) (kt : W p l e R s m args below meth c H locs cells slots Q (F0 m tgt ls rest)) : W p l e R s m args below meth c H locs cells slots Q (F0 m pc ls (.int y :: .int x :: rest)) :=
  cs_ne hx hb hdg ht hX hY (fun _ => kt) (fun h => absurd hc (by omega))
theorem cn_ne {x y : Int32} {X Y : Int} {off : Int} (hx : p.tables.exec = Jvm.exec) (hb : c.code = cc) (hdg : decode cc pc = .ok (.if_icmp .ne off, 3)) (hX : x.toInt = X) (hY : y.toInt = Y) (hc : X = Y) (kf : W p l e R s m args below meth c H locs cells slots Q (F0 m (pc + 3) ls rest)) {tgt : Nat} (ht : (pc : Int) + off = (tgt : Int)) : W p l e R s m args below meth c H locs cells slots Q (F0 m pc ls (.int y :: .int x :: rest)) :=
  cs_ne hx hb hdg ht hX hY (fun h => absurd hc (by omega)) (fun _ => kf)
theorem bs_lt {x : Int32} {X : Int} {off : Int} {tgt : Nat} (hx : p.tables.exec = Jvm.exec) (hb : c.code = cc) (hdg : decode cc pc = .ok (.ifCond .lt off, 3)) (ht : (pc : Int) + off = (tgt : Int)) (hX : x.toInt = X) (kt : X < 0 → W p l e R s m args below meth c H locs cells slots Q (F0 m tgt ls rest)) (kf : 0 ≤ X → W p l e R s m args below meth c H locs cells slots Q (F0 m (pc + 3) ls rest)) : W p l e R s m args below meth c H locs cells slots Q (F0 m pc ls (.int x :: rest)) :=
  lv_if_lt hx hb hdg ht (fun h => kt (by have z : (0 : Int32).toInt = 0 := rfl; have h2 := h; simp only [i32_lt, hX, z] at h2; omega)) (fun h => kf (by have z : (0 : Int32).toInt = 0 := rfl; have h2 := h; simp only [i32_lt, hX, z] at h2; omega))
theorem bt_lt {x : Int32} {X : Int} {off : Int} {tgt : Nat} (hx : p.tables.exec = Jvm.exec) (hb : c.code = cc) (hdg : decode cc pc = .ok (.ifCond .lt off, 3)) (ht : (pc : Int) + off = (tgt : Int)) (hX : x.toInt = X) (hc : X < 0) (kt : W p l e R s m args below meth c H locs cells slots Q (F0 m tgt ls rest)) : W p l e R s m args below meth c H locs cells slots Q (F0 m pc ls (.int x :: rest)) :=
  bs_lt hx hb hdg ht hX (fun _ => kt) (fun h => absurd hc (by omega))
theorem bn_lt {x : Int32} {X : Int} {off : Int} (hx : p.tables.exec = Jvm.exec) (hb : c.code = cc) (hdg : decode cc pc = .ok (.ifCond .lt off, 3)) (hX : x.toInt = X) (hc : 0 ≤ X) (kf : W p l e R s m args below meth c H locs cells slots Q (F0 m (pc + 3) ls rest)) {tgt : Nat} (ht : (pc : Int) + off = (tgt : Int)) : W p l e R s m args below meth c H locs cells slots Q (F0 m pc ls (.int x :: rest)) :=
  bs_lt hx hb hdg ht hX (fun h => absurd hc (by omega)) (fun _ => kf)
theorem cs_lt {x y : Int32} {X Y : Int} {off : Int} {tgt : Nat} (hx : p.tables.exec = Jvm.exec) (hb : c.code = cc) (hdg : decode cc pc = .ok (.if_icmp .lt off, 3)) (ht : (pc : Int) + off = (tgt : Int)) (hX : x.toInt = X) (hY : y.toInt = Y) (kt : X < Y → W p l e R s m args below meth c H locs cells slots Q (F0 m tgt ls rest)) (kf : Y ≤ X → W p l e R s m args below meth c H locs cells slots Q (F0 m (pc + 3) ls rest)) : W p l e R s m args below meth c H locs cells slots Q (F0 m pc ls (.int y :: .int x :: rest)) :=
  lv_icmp_lt hx hb hdg ht (fun h => kt (by have h2 := h; simp only [i32_lt, hX, hY] at h2; omega)) (fun h => kf (by have h2 := h; simp only [i32_lt, hX, hY] at h2; omega))
theorem ct_lt {x y : Int32} {X Y : Int} {off : Int} {tgt : Nat} (hx : p.tables.exec = Jvm.exec) (hb : c.code = cc) (hdg : decode cc pc = .ok (.if_icmp .lt off, 3)) (ht : (pc : Int) + off = (tgt : Int)) (hX : x.toInt = X) (hY : y.toInt = Y) (hc : X < Y) (kt : W p l e R s m args below meth c H locs cells slots Q (F0 m tgt ls rest)) : W p l e R s m args below meth c H locs cells slots Q (F0 m pc ls (.int y :: .int x :: rest)) :=
  cs_lt hx hb hdg ht hX hY (fun _ => kt) (fun h => absurd hc (by omega))
theorem cn_lt {x y : Int32} {X Y : Int} {off : Int} (hx : p.tables.exec = Jvm.exec) (hb : c.code = cc) (hdg : decode cc pc = .ok (.if_icmp .lt off, 3)) (hX : x.toInt = X) (hY : y.toInt = Y) (hc : Y ≤ X) (kf : W p l e R s m args below meth c H locs cells slots Q (F0 m (pc + 3) ls rest)) {tgt : Nat} (ht : (pc : Int) + off = (tgt : Int)) : W p l e R s m args below meth c H locs cells slots Q (F0 m pc ls (.int y :: .int x :: rest)) :=
  cs_lt hx hb hdg ht hX hY (fun h => absurd hc (by omega)) (fun _ => kf)
theorem bs_ge {x : Int32} {X : Int} {off : Int} {tgt : Nat} (hx : p.tables.exec = Jvm.exec) (hb : c.code = cc) (hdg : decode cc pc = .ok (.ifCond .ge off, 3)) (ht : (pc : Int) + off = (tgt : Int)) (hX : x.toInt = X) (kt : 0 ≤ X → W p l e R s m args below meth c H locs cells slots Q (F0 m tgt ls rest)) (kf : X < 0 → W p l e R s m args below meth c H locs cells slots Q (F0 m (pc + 3) ls rest)) : W p l e R s m args below meth c H locs cells slots Q (F0 m pc ls (.int x :: rest)) :=
  lv_if_ge hx hb hdg ht (fun h => kt (by have z : (0 : Int32).toInt = 0 := rfl; have h2 := h; simp only [i32_le, hX, z] at h2; omega)) (fun h => kf (by have z : (0 : Int32).toInt = 0 := rfl; have h2 := h; simp only [i32_le, hX, z] at h2; omega))
theorem bt_ge {x : Int32} {X : Int} {off : Int} {tgt : Nat} (hx : p.tables.exec = Jvm.exec) (hb : c.code = cc) (hdg : decode cc pc = .ok (.ifCond .ge off, 3)) (ht : (pc : Int) + off = (tgt : Int)) (hX : x.toInt = X) (hc : 0 ≤ X) (kt : W p l e R s m args below meth c H locs cells slots Q (F0 m tgt ls rest)) : W p l e R s m args below meth c H locs cells slots Q (F0 m pc ls (.int x :: rest)) :=
  bs_ge hx hb hdg ht hX (fun _ => kt) (fun h => absurd hc (by omega))
theorem bn_ge {x : Int32} {X : Int} {off : Int} (hx : p.tables.exec = Jvm.exec) (hb : c.code = cc) (hdg : decode cc pc = .ok (.ifCond .ge off, 3)) (hX : x.toInt = X) (hc : X < 0) (kf : W p l e R s m args below meth c H locs cells slots Q (F0 m (pc + 3) ls rest)) {tgt : Nat} (ht : (pc : Int) + off = (tgt : Int)) : W p l e R s m args below meth c H locs cells slots Q (F0 m pc ls (.int x :: rest)) :=
  bs_ge hx hb hdg ht hX (fun h => absurd hc (by omega)) (fun _ => kf)
theorem cs_ge {x y : Int32} {X Y : Int} {off : Int} {tgt : Nat} (hx : p.tables.exec = Jvm.exec) (hb : c.code = cc) (hdg : decode cc pc = .ok (.if_icmp .ge off, 3)) (ht : (pc : Int) + off = (tgt : Int)) (hX : x.toInt = X) (hY : y.toInt = Y) (kt : Y ≤ X → W p l e R s m args below meth c H locs cells slots Q (F0 m tgt ls rest)) (kf : X < Y → W p l e R s m args below meth c H locs cells slots Q (F0 m (pc + 3) ls rest)) : W p l e R s m args below meth c H locs cells slots Q (F0 m pc ls (.int y :: .int x :: rest)) :=
  lv_icmp_ge hx hb hdg ht (fun h => kt (by have h2 := h; simp only [i32_le, hX, hY] at h2; omega)) (fun h => kf (by have h2 := h; simp only [i32_le, hX, hY] at h2; omega))
theorem ct_ge {x y : Int32} {X Y : Int} {off : Int} {tgt : Nat} (hx : p.tables.exec = Jvm.exec) (hb : c.code = cc) (hdg : decode cc pc = .ok (.if_icmp .ge off, 3)) (ht : (pc : Int) + off = (tgt : Int)) (hX : x.toInt = X) (hY : y.toInt = Y) (hc : Y ≤ X) (kt : W p l e R s m args below meth c H locs cells slots Q (F0 m tgt ls rest)) : W p l e R s m args below meth c H locs cells slots Q (F0 m pc ls (.int y :: .int x :: rest)) :=
  cs_ge hx hb hdg ht hX hY (fun _ => kt) (fun h => absurd hc (by omega))
theorem cn_ge {x y : Int32} {X Y : Int} {off : Int} (hx : p.tables.exec = Jvm.exec) (hb : c.code = cc) (hdg : decode cc pc = .ok (.if_icmp .ge off, 3)) (hX : x.toInt = X) (hY : y.toInt = Y) (hc : X < Y) (kf : W p l e R s m args below meth c H locs cells slots Q (F0 m (pc + 3) ls rest)) {tgt : Nat} (ht : (pc : Int) + off = (tgt : Int)) : W p l e R s m args below meth c H locs cells slots Q (F0 m pc ls (.int y :: .int x :: rest)) :=
  cs_ge hx hb hdg ht hX hY (fun h => absurd hc (by omega)) (fun _ => kf)
theorem bs_gt {x : Int32} {X : Int} {off : Int} {tgt : Nat} (hx : p.tables.exec = Jvm.exec) (hb : c.code = cc) (hdg : decode cc pc = .ok (.ifCond .gt off, 3)) (ht : (pc : Int) + off = (tgt : Int)) (hX : x.toInt = X) (kt : 0 < X → W p l e R s m args below meth c H locs cells slots Q (F0 m tgt ls rest)) (kf : X ≤ 0 → W p l e R s m args below meth c H locs cells slots Q (F0 m (pc + 3) ls rest)) : W p l e R s m args below meth c H locs cells slots Q (F0 m pc ls (.int x :: rest)) :=
  lv_if_gt hx hb hdg ht (fun h => kt (by have z : (0 : Int32).toInt = 0 := rfl; have h2 := h; simp only [i32_lt, hX, z] at h2; omega)) (fun h => kf (by have z : (0 : Int32).toInt = 0 := rfl; have h2 := h; simp only [i32_lt, hX, z] at h2; omega))
theorem bt_gt {x : Int32} {X : Int} {off : Int} {tgt : Nat} (hx : p.tables.exec = Jvm.exec) (hb : c.code = cc) (hdg : decode cc pc = .ok (.ifCond .gt off, 3)) (ht : (pc : Int) + off = (tgt : Int)) (hX : x.toInt = X) (hc : 0 < X) (kt : W p l e R s m args below meth c H locs cells slots Q (F0 m tgt ls rest)) : W p l e R s m args below meth c H locs cells slots Q (F0 m pc ls (.int x :: rest)) :=
  bs_gt hx hb hdg ht hX (fun _ => kt) (fun h => absurd hc (by omega))
theorem bn_gt {x : Int32} {X : Int} {off : Int} (hx : p.tables.exec = Jvm.exec) (hb : c.code = cc) (hdg : decode cc pc = .ok (.ifCond .gt off, 3)) (hX : x.toInt = X) (hc : X ≤ 0) (kf : W p l e R s m args below meth c H locs cells slots Q (F0 m (pc + 3) ls rest)) {tgt : Nat} (ht : (pc : Int) + off = (tgt : Int)) : W p l e R s m args below meth c H locs cells slots Q (F0 m pc ls (.int x :: rest)) :=
  bs_gt hx hb hdg ht hX (fun h => absurd hc (by omega)) (fun _ => kf)
theorem cs_gt {x y : Int32} {X Y : Int} {off : Int} {tgt : Nat} (hx : p.tables.exec = Jvm.exec) (hb : c.code = cc) (hdg : decode cc pc = .ok (.if_icmp .gt off, 3)) (ht : (pc : Int) + off = (tgt : Int)) (hX : x.toInt = X) (hY : y.toInt = Y) (kt : Y < X → W p l e R s m args below meth c H locs cells slots Q (F0 m tgt ls rest)) (kf : X ≤ Y → W p l e R s m args below meth c H locs cells slots Q (F0 m (pc + 3) ls rest)) : W p l e R s m args below meth c H locs cells slots Q (F0 m pc ls (.int y :: .int x :: rest)) :=
  lv_icmp_gt hx hb hdg ht (fun h => kt (by have h2 := h; simp only [i32_lt, hX, hY] at h2; omega)) (fun h => kf (by have h2 := h; simp only [i32_lt, hX, hY] at h2; omega))
theorem ct_gt {x y : Int32} {X Y : Int} {off : Int} {tgt : Nat} (hx : p.tables.exec = Jvm.exec) (hb : c.code = cc) (hdg : decode cc pc = .ok (.if_icmp .gt off, 3)) (ht : (pc : Int) + off = (tgt : Int)) (hX : x.toInt = X) (hY : y.toInt = Y) (hc : Y < X) (kt : W p l e R s m args below meth c H locs cells slots Q (F0 m tgt ls rest)) : W p l e R s m args below meth c H locs cells slots Q (F0 m pc ls (.int y :: .int x :: rest)) :=
  cs_gt hx hb hdg ht hX hY (fun _ => kt) (fun h => absurd hc (by omega))
theorem cn_gt {x y : Int32} {X Y : Int} {off : Int} (hx : p.tables.exec = Jvm.exec) (hb : c.code = cc) (hdg : decode cc pc = .ok (.if_icmp .gt off, 3)) (hX : x.toInt = X) (hY : y.toInt = Y) (hc : X ≤ Y) (kf : W p l e R s m args below meth c H locs cells slots Q (F0 m (pc + 3) ls rest)) {tgt : Nat} (ht : (pc : Int) + off = (tgt : Int)) : W p l e R s m args below meth c H locs cells slots Q (F0 m pc ls (.int y :: .int x :: rest)) :=
  cs_gt hx hb hdg ht hX hY (fun h => absurd hc (by omega)) (fun _ => kf)
theorem bs_le {x : Int32} {X : Int} {off : Int} {tgt : Nat} (hx : p.tables.exec = Jvm.exec) (hb : c.code = cc) (hdg : decode cc pc = .ok (.ifCond .le off, 3)) (ht : (pc : Int) + off = (tgt : Int)) (hX : x.toInt = X) (kt : X ≤ 0 → W p l e R s m args below meth c H locs cells slots Q (F0 m tgt ls rest)) (kf : 0 < X → W p l e R s m args below meth c H locs cells slots Q (F0 m (pc + 3) ls rest)) : W p l e R s m args below meth c H locs cells slots Q (F0 m pc ls (.int x :: rest)) :=
  lv_if_le hx hb hdg ht (fun h => kt (by have z : (0 : Int32).toInt = 0 := rfl; have h2 := h; simp only [i32_le, hX, z] at h2; omega)) (fun h => kf (by have z : (0 : Int32).toInt = 0 := rfl; have h2 := h; simp only [i32_le, hX, z] at h2; omega))
theorem bt_le {x : Int32} {X : Int} {off : Int} {tgt : Nat} (hx : p.tables.exec = Jvm.exec) (hb : c.code = cc) (hdg : decode cc pc = .ok (.ifCond .le off, 3)) (ht : (pc : Int) + off = (tgt : Int)) (hX : x.toInt = X) (hc : X ≤ 0) (kt : W p l e R s m args below meth c H locs cells slots Q (F0 m tgt ls rest)) : W p l e R s m args below meth c H locs cells slots Q (F0 m pc ls (.int x :: rest)) :=
  bs_le hx hb hdg ht hX (fun _ => kt) (fun h => absurd hc (by omega))
theorem bn_le {x : Int32} {X : Int} {off : Int} (hx : p.tables.exec = Jvm.exec) (hb : c.code = cc) (hdg : decode cc pc = .ok (.ifCond .le off, 3)) (hX : x.toInt = X) (hc : 0 < X) (kf : W p l e R s m args below meth c H locs cells slots Q (F0 m (pc + 3) ls rest)) {tgt : Nat} (ht : (pc : Int) + off = (tgt : Int)) : W p l e R s m args below meth c H locs cells slots Q (F0 m pc ls (.int x :: rest)) :=
  bs_le hx hb hdg ht hX (fun h => absurd hc (by omega)) (fun _ => kf)
theorem cs_le {x y : Int32} {X Y : Int} {off : Int} {tgt : Nat} (hx : p.tables.exec = Jvm.exec) (hb : c.code = cc) (hdg : decode cc pc = .ok (.if_icmp .le off, 3)) (ht : (pc : Int) + off = (tgt : Int)) (hX : x.toInt = X) (hY : y.toInt = Y) (kt : X ≤ Y → W p l e R s m args below meth c H locs cells slots Q (F0 m tgt ls rest)) (kf : Y < X → W p l e R s m args below meth c H locs cells slots Q (F0 m (pc + 3) ls rest)) : W p l e R s m args below meth c H locs cells slots Q (F0 m pc ls (.int y :: .int x :: rest)) :=
  lv_icmp_le hx hb hdg ht (fun h => kt (by have h2 := h; simp only [i32_le, hX, hY] at h2; omega)) (fun h => kf (by have h2 := h; simp only [i32_le, hX, hY] at h2; omega))
theorem ct_le {x y : Int32} {X Y : Int} {off : Int} {tgt : Nat} (hx : p.tables.exec = Jvm.exec) (hb : c.code = cc) (hdg : decode cc pc = .ok (.if_icmp .le off, 3)) (ht : (pc : Int) + off = (tgt : Int)) (hX : x.toInt = X) (hY : y.toInt = Y) (hc : X ≤ Y) (kt : W p l e R s m args below meth c H locs cells slots Q (F0 m tgt ls rest)) : W p l e R s m args below meth c H locs cells slots Q (F0 m pc ls (.int y :: .int x :: rest)) :=
  cs_le hx hb hdg ht hX hY (fun _ => kt) (fun h => absurd hc (by omega))
theorem cn_le {x y : Int32} {X Y : Int} {off : Int} (hx : p.tables.exec = Jvm.exec) (hb : c.code = cc) (hdg : decode cc pc = .ok (.if_icmp .le off, 3)) (hX : x.toInt = X) (hY : y.toInt = Y) (hc : Y < X) (kf : W p l e R s m args below meth c H locs cells slots Q (F0 m (pc + 3) ls rest)) {tgt : Nat} (ht : (pc : Int) + off = (tgt : Int)) : W p l e R s m args below meth c H locs cells slots Q (F0 m pc ls (.int y :: .int x :: rest)) :=
  cs_le hx hb hdg ht hX hY (fun h => absurd hc (by omega)) (fun _ => kf)
end BR
end
section
def va_AOA (t : FieldType) (U : State) : Prop := (Cond.arrayOver (.array t)).before #[] U = true
theorem va_AOA.use {t : FieldType} {A : Array Value} {U : State} (h : va_AOA t U) : (Cond.arrayOver (.array t)).before A U = true := h
theorem va_AOA.moved {t : FieldType} {u U : State} (hvm : u.vm.Alike U.vm) (h : va_AOA t u) : va_AOA t U := over_moved (a := #[]) (a' := #[]) hvm h

/-! ===== BEGIN new T[n][m]: the outer array a place, the inner ones among the pooled ===== -/
/-- f, but v at every address of l -/
def vr_up {α : Type} (f : Nat → α) (l : List Nat) (v : α) : Nat → α := fun a => if a ∈ l then v else f a
theorem vr_up_in {α : Type} {f : Nat → α} {l : List Nat} {v : α} {a : Nat} (h : a ∈ l) : vr_up f l v a = v := if_pos h
theorem vr_up_ne {α : Type} {f : Nat → α} {l : List Nat} {v : α} {a : Nat} (h : a ∉ l) : vr_up f l v a = f a := if_neg h
theorem vr_rows {L l : List Nat} {f : Nat → va_E} {e : va_E} (h : ∀ a, a ∈ l → a ∉ L) : va_pl L f ++ l.map (fun a => (a, e)) = va_pl (L ++ l) (vr_up f l e) := by
  unfold va_pl
  rw [List.map_append]
  congr 1
  · apply List.map_congr_left
    intro a ha
    rw [vr_up_ne (fun q => h a q ha)]
  · apply List.map_congr_left
    intro a ha
    rw [vr_up_in ha]
theorem vr_lay {X rows : va_W} {x : Nat × va_E} {pl : va_W} {D : va_G} {cl : List vw_C} {H : Heap} (hP : va_P D cl (((X ++ pl) ++ [x]) ++ rows) H) : va_P D cl ((X ++ [x]) ++ (pl ++ rows)) H := by
  rw [List.append_assoc (X ++ pl)] at hP
  have h := va_P.swap hP
  rw [← List.append_assoc X] at h
  have h2 := va_P.swap h
  rw [List.append_assoc (X ++ [x])] at h2
  exact h2
theorem vr_layD {X rows : va_W} {x : Nat × va_E} {pl : va_W} {A : Nat → Prop} (hD : va_D A (((X ++ pl) ++ [x]) ++ rows)) : va_D A ((X ++ [x]) ++ (pl ++ rows)) := by
  rw [List.append_assoc (X ++ pl)] at hD
  have h := va_D.swap hD
  rw [← List.append_assoc X] at h
  have h2 := va_D.swap h
  rw [List.append_assoc (X ++ [x])] at h2
  exact h2
theorem vr_outer (c : ClassId) (N h0 : Nat) : ∀ i : Nat, Jvm.Free.Multi.outerC c N h0 i = arrV c N (fun j => va_rf (if j < i then some (h0 + 1 + j) else none))
  | 0 => by
    show ({ cls := c, slots := Array.replicate N .null, vm := .none } : Cell) = _
    rw [arrV_new]
    refine congrArg (arrV c N) (funext fun j => ?_)
    simp [va_rf]
  | i + 1 => by
    show (Jvm.Free.Multi.outerC c N h0 i).setSlot i (.ref (h0 + 1 + i)) = _
    rw [vr_outer c N h0 i, arrV_store]
    refine congrArg (arrV c N) (funext fun j => ?_)
    by_cases e : j = i
    · subst e
      simp [updV, va_rf]
    · by_cases h : j < i
      · simp [updV, e, h, Nat.lt_succ_of_lt h]
      · simp [updV, e, h, show ¬ j < i + 1 by omega]
section VGM
variable {p : Program} {l : Launch} {e : Env} {R : Room} {s : State} {m : MethodId} {args : Array Value} {below : List Frame} {meth : Method} {c : Code} {H : Heap} {locs : List Loc} {cells slots : Nat} {Q : State → Prop}
variable {cc : ByteArray} {pc : Nat} {ls : Array Slot} {rest : List Value} {D : va_G} {cl : List vw_C} {A : Nat → Prop} {a : Nat} {tys : List (ClassId × FieldType)} {ws : va_W} {H0 : Heap}
theorem va_mna {X : va_W} {L : List Nat} {f : Nat → va_E} {cc : ByteArray} (hexec : p.tables.exec = Jvm.exec) (hb : c.code = cc) {own : String} {index : Nat} {ty : FieldType} {cy : ClassId} (hown : s.vm.findClass own = some m.cls) (hclink : (Cond.classLink own index ("[" ++ (FieldType.array ty).toString)).before args s = true) (hover : va_AOA ty s) (harr : (Cond.arrayClass ty).before args s = true) (hcy : s.vm.findClass (FieldType.array ty).toString = some cy)
    (hK : va_K D cl tys s) (hP : va_P D cl (X ++ va_pl L f) H) (hD : va_D A (X ++ va_pl L f)) (hS : va_S A H0 H locs) (hA : ∀ q, H0.size ≤ q → A q) {n k : Int32} {N' K' : Nat} {z : vp_A} (hn : ¬ n < 0) (hk : ¬ k < 0) (hN : n.toNatClampNeg = N') (hM : k.toNatClampNeg = K')
    (hb1 : N' * 4 ≤ 536870912) (hb2 : K' * componentBytes ty ≤ 536870912) (hb3 : K' ≤ 536870912) (hdf : fits ty (defaultValue ty) = true) (hdd : (defaultValue ty).isDefault = true) (hcells : cells + (1 + N') ≤ R.cells) (hslots : slots + (N' + N' * K') ≤ R.slots) (hz : ∀ c : ClassId, Jvm.Free.Multi.innerC c K' (defaultValue ty) = vp_cell c z) (hdg : decode cc pc = .ok (.multianewarray index 2, 4))
    (kk : ∀ (q : Nat) (r : Nat → Nat) (cA : ClassId) (H1 : Heap), (∀ i j : Nat, i < N' → j < N' → r i = r j → i = j) → (∀ i : Nat, i < N' → r i ∉ L) → va_K D cl (tys ++ [(cA, .array ty)]) s →
      va_P D cl ((X ++ [(q, .inl (cA, N', .inr (.inr (.inr (.inr (fun i => if i < N' then some (r i) else none))))))]) ++ va_pl (L ++ (List.range N').map r) (vr_up f ((List.range N').map r) (.inl (cy, z)))) H1 → va_D A ((X ++ [(q, .inl (cA, N', .inr (.inr (.inr (.inr (fun i => if i < N' then some (r i) else none))))))]) ++ va_pl (L ++ (List.range N').map r) (vr_up f ((List.range N').map r) (.inl (cy, z)))) → va_S A H0 H1 locs →
      W p l e R s m args below meth c H1 locs (cells + 1 + N') (slots + N' + N' * K') Q (F0 m (pc + 4) ls (.ref q :: rest))) : W p l e R s m args below meth c H locs cells slots Q (F0 m pc ls (.int k :: .int n :: rest)) := by
  subst hN
  subst hM
  intro T hT Xs
  obtain ⟨vm₁, cA, comp, -, fA, fC, hO, -, X', step⟩ := Xs.multianewarray2F hexec hown hclink (va_AOA.use hover) harr (g := F0 m pc ls (.int k :: .int n :: rest)) rfl (by rw [hb]; exact hdg) rfl hn hk hb1 hb2 hb3 hdf hdd hcells hslots
  have ec : some cy = some comp := hcy.symm.trans fC
  cases ec
  generalize hF : Jvm.Free.Multi.fill (T.setVm vm₁) cA cy n.toNatClampNeg k.toNatClampNeg (defaultValue ty) n.toNatClampNeg = F at X' step
  have hTh : (T.setVm vm₁).heap = H := hT
  obtain ⟨f1, f2, -, -⟩ := Jvm.Free.Multi.fill_facts (T.setVm vm₁) cA cy n.toNatClampNeg k.toNatClampNeg (defaultValue ty) n.toNatClampNeg
  rw [hF, hTh] at f1 f2
  have hold : ∀ x : Nat, x < H.size → F.heap[x]? = H[x]? := fun x hx => by
    have := Jvm.Free.Multi.fill_old (T.setVm vm₁) cA cy n.toNatClampNeg k.toNatClampNeg (defaultValue ty) (a := x) (by rw [hTh]; exact hx) n.toNatClampNeg
    rw [hF, hTh] at this
    exact this
  have hrow : ∀ j : Nat, j < n.toNatClampNeg → F.heap[H.size + 1 + j]? = some (vp_cell cy z) := fun j hj => by
    have := Jvm.Free.Multi.fill_inner (T.setVm vm₁) cA cy n.toNatClampNeg k.toNatClampNeg (defaultValue ty) n.toNatClampNeg j hj
    rw [hF, hTh, hz] at this
    exact this
  have hout : Jvm.Free.Multi.outerC cA n.toNatClampNeg H.size n.toNatClampNeg = vp_cell cA (n.toNatClampNeg, .inr (.inr (.inr (.inr (fun i => if i < n.toNatClampNeg then some (H.size + 1 + i) else none))))) := by
    rw [vp_cell_q]
    exact vr_outer cA n.toNatClampNeg H.size n.toNatClampNeg
  rw [hout] at f2
  have hlt : ∀ a, a ∈ L → a < H.size := fun a ha => by
    obtain ⟨k9, hk9⟩ := va_pl_get (X := X) (f := f) ha
    exact (hP k9 _ hk9).lt
  have hnl : ∀ i : Nat, i < n.toNatClampNeg → H.size + 1 + i ∉ L := fun i _ h => by
    have := hlt _ h
    omega
  have hnm : ∀ a, a ∈ (List.range n.toNatClampNeg).map (fun i => H.size + 1 + i) → a ∉ L := fun a ha h => by
    obtain ⟨i, -, rfl⟩ := List.mem_map.mp ha
    have := hlt _ h
    omega
  have hP0 : va_P D cl (X ++ va_pl L f) F.heap := hP.kept (fun k9 x hx => hold x.1 ((hP k9 x hx).lt))
  have hP1 : va_P D cl ((X ++ va_pl L f) ++ [(H.size, .inl (cA, n.toNatClampNeg, .inr (.inr (.inr (.inr (fun i => if i < n.toNatClampNeg then some (H.size + 1 + i) else none))))))]) F.heap := hP0.app (fun k9 x hx => by
    have h0 : k9 < 1 := (List.getElem?_eq_some_iff.mp hx).1
    rw [show k9 = 0 by omega] at hx
    cases hx
    exact f2)
  have hP2 : va_P D cl (((X ++ va_pl L f) ++ [(H.size, .inl (cA, n.toNatClampNeg, .inr (.inr (.inr (.inr (fun i => if i < n.toNatClampNeg then some (H.size + 1 + i) else none))))))]) ++ ((List.range n.toNatClampNeg).map (fun i => H.size + 1 + i)).map (fun a => (a, .inl (cy, z)))) F.heap := hP1.app (fun k9 x hx => by
    obtain ⟨a, ha, rfl⟩ := List.mem_map.mp (List.mem_of_getElem? hx)
    obtain ⟨i, hi, rfl⟩ := List.mem_map.mp ha
    exact hrow i (List.mem_range.mp hi))
  have hD2 : va_D A (((X ++ va_pl L f) ++ [(H.size, .inl (cA, n.toNatClampNeg, .inr (.inr (.inr (.inr (fun i => if i < n.toNatClampNeg then some (H.size + 1 + i) else none))))))]) ++ ((List.range n.toNatClampNeg).map (fun i => H.size + 1 + i)).map (fun a => (a, .inl (cy, z)))) := by
    have hD1 := hD.push (e := .inl (cA, n.toNatClampNeg, .inr (.inr (.inr (.inr (fun i => if i < n.toNatClampNeg then some (H.size + 1 + i) else none)))))) hP rfl (hA _ hS.1)
    generalize hW1 : (X ++ va_pl L f) ++ [(H.size, .inl (cA, n.toNatClampNeg, .inr (.inr (.inr (.inr (fun i => if i < n.toNatClampNeg then some (H.size + 1 + i) else none))))))] = W1 at hD1 hP1 ⊢
    have hle : ∀ (k9 : Nat) (x : Nat × va_E), W1[k9]? = some x → x.1 ≤ H.size := fun k9 x hx => by
      rw [← hW1] at hx
      by_cases hl : k9 < (X ++ va_pl L f).length
      · rw [List.getElem?_append_left hl] at hx
        exact Nat.le_of_lt ((hP k9 x hx).lt)
      · rw [List.getElem?_append_right (by omega)] at hx
        have h0 : k9 - (X ++ va_pl L f).length < 1 := (List.getElem?_eq_some_iff.mp hx).1
        rw [show k9 - (X ++ va_pl L f).length = 0 by omega] at hx
        cases hx
        exact Nat.le_refl _
    have hr : ∀ (k9 : Nat) (x : Nat × va_E), (((List.range n.toNatClampNeg).map (fun i => H.size + 1 + i)).map (fun a => ((a, .inl (cy, z)) : Nat × va_E)))[k9]? = some x → x.1 = H.size + 1 + k9 := fun k9 x hx => by
      rw [List.getElem?_map, List.getElem?_map] at hx
      by_cases h9 : k9 < n.toNatClampNeg
      · rw [List.getElem?_range h9] at hx
        cases hx
        rfl
      · have hn0 : (List.range n.toNatClampNeg)[k9]? = none := List.getElem?_eq_none (by rw [List.length_range]; omega)
        rw [hn0] at hx
        cases hx
    refine ⟨fun i j x y hi hj hxy => ?_, fun k9 x hx => ?_⟩
    · by_cases h1 : i < W1.length <;> by_cases h2 : j < W1.length
      · rw [List.getElem?_append_left h1] at hi
        rw [List.getElem?_append_left h2] at hj
        exact hD1.1 i j x y hi hj hxy
      · rw [List.getElem?_append_left h1] at hi
        rw [List.getElem?_append_right (by omega)] at hj
        have := hle _ _ hi
        have := hr _ _ hj
        omega
      · rw [List.getElem?_append_right (by omega)] at hi
        rw [List.getElem?_append_left h2] at hj
        have := hle _ _ hj
        have := hr _ _ hi
        omega
      · rw [List.getElem?_append_right (by omega)] at hi hj
        have := hr _ _ hi
        have := hr _ _ hj
        omega
    · by_cases h1 : k9 < W1.length
      · rw [List.getElem?_append_left h1] at hx
        exact hD1.2 k9 x hx
      · rw [List.getElem?_append_right (by omega)] at hx
        have := hr _ _ hx
        exact hA _ (by have := hS.1; omega)
  have hAr : ArrOfT s cA (.array ty) := fun N9 z9 => by
    obtain ⟨-, k9, hk9, cm9, hkk9⟩ := (hO 0 0 0).1
    exact ⟨(fun q hq => by cases hq), k9, hk9, cm9, hkk9⟩
  have hK2 : va_K D cl (tys ++ [(cA, .array ty)]) s := ⟨hK.1, fun k9 x hx => by
    by_cases hl : k9 < tys.length
    · rw [List.getElem?_append_left hl] at hx
      exact hK.2 k9 x hx
    · rw [List.getElem?_append_right (by omega)] at hx
      have h0 : k9 - tys.length < 1 := (List.getElem?_eq_some_iff.mp hx).1
      rw [show k9 - tys.length = 0 by omega] at hx
      cases hx
      exact ⟨hAr, fA⟩⟩
  obtain ⟨t, a1, b1⟩ := kk H.size (fun i => H.size + 1 + i) cA F.heap (fun i j _ _ h => by have h9 : H.size + 1 + i = H.size + 1 + j := h; omega) hnl hK2 (by rw [← vr_rows hnm]; exact vr_lay hP2) (by rw [← vr_rows hnm]; exact vr_layD hD2) ⟨by rw [f1]; have := hS.1; omega, fun x h1 h2 => (hold x (Nat.lt_of_lt_of_le h1 hS.1)).trans (hS.2.1 x h1 h2), hS.2.2⟩ F rfl X'
  refine ⟨t, step t ?_, b1⟩
  have e : T.heap.size = H.size := by rw [hT]
  rw [e]
  exact a1
end VGM
/-! ===== END ===== -/

def nTape : Cond := .methodLinkNest "WebCourt" 11 yX7_init "WebCourt"
def nWeb : Cond := .methodLinkNest "WebCourt" 18 yX9_init "WebCourt"
def nLaw : Cond := .methodLinkNest "WebCourt$Web" 39 yX4_init "WebCourt"
def nActs : Cond := .methodLinkNest "WebCourt" 43 yX0_init "WebCourt"
def nHears : Cond := .methodLinkNest "WebCourt" 75 yX3_init "WebCourt"
def KQ (D : va_G) (cy : Nat → ClassId) (U : State) : Prop := Kk D cy U ∧ va_Nw nTape U ∧ va_Nw nWeb U ∧ va_Nw nLaw U ∧ va_Nw nActs U ∧ va_Nw nHears U ∧ va_AOA .int U
theorem KQ.warm {D : va_G} {cy : Nat → ClassId} {s U : State} (h : KQ D cy s) (hW : s.WarmedH U.vm) : KQ D cy U := ⟨h.1.warm hW, va_Nw.warmM hW h.2.1, va_Nw.warmM hW h.2.2.1, va_Nw.warmM hW h.2.2.2.1, va_Nw.warmM hW h.2.2.2.2.1, va_Nw.warmM hW h.2.2.2.2.2.1, va_AOA.moved hW.alike h.2.2.2.2.2.2⟩
theorem KQ.call {D : va_G} {cy : Nat → ClassId} {U : State} {g : JFrame} {mk : MethodId} {a : Array Value} (h : KQ D cy U) : KQ D cy (U.calling g mk a) := ⟨h.1.call, va_Nw.same rfl rfl h.2.1, va_Nw.same rfl rfl h.2.2.1, va_Nw.same rfl rfl h.2.2.2.1, va_Nw.same rfl rfl h.2.2.2.2.1, va_Nw.same rfl rfl h.2.2.2.2.2.1, va_AOA.moved (u := U) (U := U.calling g mk a) (Vm.Alike.refl U.vm) h.2.2.2.2.2.2⟩
def Mc {S : Type} (l : Launch) (D : va_G) (cy : Nat → ClassId) (y : MethodName) (cw : Cond) (rm : Room) (av : List Value) (wc : va_W) (wf : S → va_W) (post : S → Prop) (mc ms : Nat) : Prop :=
  ∀ sz : Nat, Met l y (cw :: gtb) rm (va_Pc av (fun U => U.heap.size = sz ∧ va_P D vwCl wc U.heap ∧ KQ D cy U ∧ va_D (fun _ => True) wc)) (va_Qv post (fun u t => va_P D vwCl (wf u) t.heap ∧ KQ D cy t ∧ va_D (va_A wc sz) (wf u)) (va_A wc sz)) mc ms (va_A wc sz)
section CT
variable {p : Program} {l : Launch} {e : Env} {R : Room} {s : State} {m : MethodId} {args : Array Value} {below : List Frame} {meth : Method} {c : Code} {H : Heap} {locs : List Loc} {cells slots : Nat} {Q : State → Prop}
variable {cc : ByteArray} {pc nL : Nat} {ls : Array Slot} {rest : List Value} {D : va_G} {cy : Nat → ClassId} {A : Nat → Prop} {own : String} {ws : va_W} {b : Nat}
theorem Mc.of {S : Type} {y : MethodName} {maxL mc ms : Nat} {rm : Room} {av : List Value} {wc : va_W} {wf : S → va_W} {post : S → Prop} (hcls : y.cls = own) (hyn : y.name = "<init>") (hy : plainName y.cls = true) (hlen : (lg_sl av).length ≤ maxL)
    (body : ∀ (p : Program) (e : Env) (s : State) (m : MethodId) (below : List Frame) (meth : Method) (c : Code) (A : Nat → Prop) (Q : State → Prop) (ls : Array Slot),
      Cx p s m av.toArray c cc maxL own D cy A → KQ D cy s → meth.name = "<init>" →
      (∀ (u : S) (H : Heap) (locs : List Loc) (ls : Array Slot) (pc : Nat), decode cc pc = .ok (.return_, 1) → post u → Wo D A (wf u) s.heap H locs → W p l e rm s m av.toArray below meth c H locs mc ms Q (F0 m pc ls [])) →
      Wo D A wc s.heap s.heap [] → lv_has ls maxL (lv_args 0 av) → W p l e rm s m av.toArray below meth c s.heap [] 0 0 Q (F0 m 0 ls [])) : Mc l D cy y (.code y cc maxL none) rm av wc wf post mc ms := by
  intro sz
  refine Met.ofW (cc := cc) (maxL := maxL) (ret := none) hy rfl ?_
  intro p e s m args below meth c s₁ B hml hv
  obtain ⟨rfl, hsz, hP, hK, hD0⟩ := hv
  have hx := B.exec
  have hb := B.bytes
  have hr := B.returns
  have hts := atoms_spec (ws := .code y cc maxL none :: gtb) B.pre
  have hown : s.vm.findClass own = some m.cls := by rw [← hcls]; exact findClass_of_methodNamed B.named
  have hlocks := B.notSynchronized
  have hin : meth.name = "<init>" := by rw [← hyn]; exact (name_of_methodNamed B.named B.method).1
  subst hsz
  have hD := hD0.self (sz := s.heap.size)
  have hl := lv_entry av (n := maxL) hlen
  rw [lg_entry_eq]
  refine body p e s m below meth c (va_A wc s.heap.size) _ _ ⟨hx, hb, hml, hown, fun w hw => hts w (List.mem_cons_of_mem _ hw), hK.1, fun q h => Or.inr h⟩ hK hin ?_ ⟨hP, hD, va_S.rf⟩ hl
  intro u H locs ls pc hdg hp hO
  exact W.vret hx hb hr (fun t ht hW => ⟨⟨u, rfl, hp, by rw [ht]; exact hO.1, hK.warm hW, hO.2.1⟩, hO.2.2.F ht⟩) hO.2.2.2.2 hdg
theorem oI {idx : Nat} (C : Cx p s m args c cc nL own D cy A) (h1 : Cond.methodLink own idx objectInit ∈ gtb) (h2 : Cond.instanceMethod objectInit ∈ gtb) (h3 : Cond.code objectInit ⟨#[0xb1]⟩ 1 none ∈ gtb) (hl : ls.size = nL) (hd : decode cc pc = .ok (.invokespecial idx, 3)) (hf : 1 ≤ R.frames) (hlo : (rest.map fun v => v.category).sum + 12 ≤ R.locals) {a : Nat}
    (kk : W p l e R s m args below meth c H locs cells slots Q (F0 m (pc + 3) ls rest)) : W p l e R s m args below meth c H locs cells slots Q (F0 m pc ls (.ref a :: rest)) := by
  obtain ⟨hx, hb, hml, hown, ht, hK, hA⟩ := C
  exact W.objInit hx hb hown (ht _ h1) (ht _ h2) (ht _ h3) rfl (by rw [hml]; exact hl) rfl hd hf (by simpa [JFrame.monitorRoom] using hlo) kk
theorem pFF {ci k index : Nat} {T : u_T} {N : Nat} {Cn ref : String} {fs : List Value} {v : Value} {ws' : va_W} {ty : FieldType} (C : Cx p s m args c cc nL own D cy A) (hin2 : meth.name = "<init>") (hO : Wo D A ws s.heap H locs) (q0 : Nat) (he : ws[q0]? = some (b, .inr (ci, fs))) (hc : vwCl[ci]? = some (Cn, T, N)) (hin : ∀ w ∈ u_ws Cn T N, w ∈ gtb) (hk : k < N) (hl : Cond.fieldLink own index ref (T k).2.1 (T k).2.2.1 ∈ gtb) (href : (T k).1 = ref) (hdecl : (T k).1 = own) (ty0 : Nat → FieldType) (hty : ∀ k, k < N → parseFieldDescriptor (T k).2.2.1 = some (ty0 k)) (hnm : ∀ a, a < N → ∀ b, b < N → a ≠ b → (T a).2.1 ≠ (T b).2.1) (hfin : (T k).2.2.2 = true) (hd : parseFieldDescriptor (T k).2.2.1 = some ty) (hn : narrow ty v = v) (hfit : fits ty v = true) (hlen : k < fs.length) (hw : ws.set q0 (b, .inr (ci, fs.set k v)) = ws') (hdg : decode cc pc = .ok (.putfield index, 3))
    (kk : ∀ (H : Heap) (locs : List Loc), Wo D A ws' s.heap H locs → W p l e R s m args below meth c H locs cells slots Q (F0 m (pc + 3) ls rest)) : W p l e R s m args below meth c H locs cells slots Q (F0 m pc ls (v :: .ref b :: rest)) := by
  obtain ⟨hx, hb, hml, hown, ht, hK, hA⟩ := C
  subst href
  exact va_putF hx hb ht hin ty0 hty hnm hown hK.1 hO.1 hO.2.1 hO.2.2 q0 he hc k hk (ht _ hl) (fun _ h => h) hfin hin2 hdecl hd hn hfit hlen hdg (fun H1 locs1 h1 h2 h3 => kk H1 locs1 (by rw [hw] at h1 h2; exact ⟨h1, h2, h3⟩))
theorem nOb {ci N index : Nat} {T : u_T} {Cn : String} {fs : List Value} (C : Cx p s m args c cc nL own D cy A) (hO : Wo D A ws s.heap H locs) (hin : ∀ w ∈ u_ws Cn T N, w ∈ gtb) (ty : Nat → FieldType) (hty : ∀ k, k < N → parseFieldDescriptor (T k).2.2.1 = some (ty k)) (h1 : Cond.classLink own index Cn ∈ gtb) (h2 : Cond.instantiable Cn N ∈ gtb) (h3 : Cond.initialized Cn ∈ gtb) (hc : vwCl[ci]? = some (Cn, T, N)) (hfs : ∀ j, j < N → defaultValue (ty j) = vp_V fs j) (hcells : cells + 1 ≤ R.cells) (hslots : slots + N ≤ R.slots) (hdg : decode cc pc = .ok (.new index, 3))
    (kk : ∀ (q : Nat) (H : Heap), Wo D A (ws ++ [(q, .inr (ci, fs))]) s.heap H locs → W p l e R s m args below meth c H locs (cells + 1) (slots + N) Q (F0 m (pc + 3) ls (.ref q :: rest))) : W p l e R s m args below meth c H locs cells slots Q (F0 m pc ls rest) := by
  obtain ⟨hx, hb, hml, hown, ht, hK, hA⟩ := C
  exact va_new hx hb ht hin ty hty hown (ht _ h1) (ht _ h2) (ht _ h3) hK.1 hO.1 hO.2.1 hO.2.2 hA hc hfs hcells hslots hdg (fun q H1 h1 h2 h3 => kk q H1 ⟨h1, h2, h3⟩)

theorem nAB {n : Int32} {N : Nat} (C : Cx p s m args c cc nL own D cy A) (hO : Wo D A ws s.heap H locs) (hw : Cond.arrayClass .byte ∈ gtb) (hn : ¬ n < 0) (hN : n.toNatClampNeg = N) (hbytes : N * 1 ≤ 536870912) (hcells : cells + 1 ≤ R.cells) (hslots : slots + N ≤ R.slots) (hdg : decode cc pc = .ok (.newarray .byte, 2))
    (kk : ∀ (q : Nat) (H : Heap), Wo D A (ws ++ [(q, .inl (cy 0, N, .inl (fun _ => 0)))]) s.heap H locs → W p l e R s m args below meth c H locs (cells + 1) (slots + N) Q (F0 m (pc + 2) ls (.ref q :: rest))) : W p l e R s m args below meth c H locs cells slots Q (F0 m pc ls (.int n :: rest)) := by
  obtain ⟨hx, hb, hml, hown, ht, hK, hA⟩ := C
  refine va_newa (atype := .byte) hx hb (ht _ hw) (ty := .byte) rfl hK.1 hO.1 hO.2.1 hO.2.2 hA (a0 := (N, .inl (fun _ => 0))) (fun cA => rfl) hn hN hbytes hcells hslots hdg (fun q cA H1 hK2 hP hD hS => ?_)
  have e1 := (hK2.2 5 (cA, .byte) rfl).2
  have e2 := (hK.1.2 0 (cy 0, .byte) rfl).2
  have e3 : cA = cy 0 := Option.some.inj ((show s.vm.findClass ("[" ++ (FieldType.byte).toString) = some cA from e1).symm.trans (show s.vm.findClass ("[" ++ (FieldType.byte).toString) = some (cy 0) from e2))
  subst e3
  exact kk q H1 ⟨hP, hD, hS⟩
theorem nAI {n : Int32} {N : Nat} (C : Cx p s m args c cc nL own D cy A) (hO : Wo D A ws s.heap H locs) (hw : Cond.arrayClass .int ∈ gtb) (hn : ¬ n < 0) (hN : n.toNatClampNeg = N) (hbytes : N * 4 ≤ 536870912) (hcells : cells + 1 ≤ R.cells) (hslots : slots + N ≤ R.slots) (hdg : decode cc pc = .ok (.newarray .int, 2))
    (kk : ∀ (q : Nat) (H : Heap), Wo D A (ws ++ [(q, .inl (cy 1, N, .inl (fun _ => 0)))]) s.heap H locs → W p l e R s m args below meth c H locs (cells + 1) (slots + N) Q (F0 m (pc + 2) ls (.ref q :: rest))) : W p l e R s m args below meth c H locs cells slots Q (F0 m pc ls (.int n :: rest)) := by
  obtain ⟨hx, hb, hml, hown, ht, hK, hA⟩ := C
  refine va_newa (atype := .int) hx hb (ht _ hw) (ty := .int) rfl hK.1 hO.1 hO.2.1 hO.2.2 hA (a0 := (N, .inl (fun _ => 0))) (fun cA => rfl) hn hN hbytes hcells hslots hdg (fun q cA H1 hK2 hP hD hS => ?_)
  have e1 := (hK2.2 5 (cA, .int) rfl).2
  have e2 := (hK.1.2 1 (cy 1, .int) rfl).2
  have e3 : cA = cy 1 := Option.some.inj ((show s.vm.findClass ("[" ++ (FieldType.int).toString) = some cA from e1).symm.trans (show s.vm.findClass ("[" ++ (FieldType.int).toString) = some (cy 1) from e2))
  subst e3
  exact kk q H1 ⟨hP, hD, hS⟩
theorem nAJ {n : Int32} {N : Nat} (C : Cx p s m args c cc nL own D cy A) (hO : Wo D A ws s.heap H locs) (hw : Cond.arrayClass .long ∈ gtb) (hn : ¬ n < 0) (hN : n.toNatClampNeg = N) (hbytes : N * 8 ≤ 536870912) (hcells : cells + 1 ≤ R.cells) (hslots : slots + N ≤ R.slots) (hdg : decode cc pc = .ok (.newarray .long, 2))
    (kk : ∀ (q : Nat) (H : Heap), Wo D A (ws ++ [(q, .inl (cy 2, N, .inr (.inl (fun _ => 0))))]) s.heap H locs → W p l e R s m args below meth c H locs (cells + 1) (slots + N) Q (F0 m (pc + 2) ls (.ref q :: rest))) : W p l e R s m args below meth c H locs cells slots Q (F0 m pc ls (.int n :: rest)) := by
  obtain ⟨hx, hb, hml, hown, ht, hK, hA⟩ := C
  refine va_newa (atype := .long) hx hb (ht _ hw) (ty := .long) rfl hK.1 hO.1 hO.2.1 hO.2.2 hA (a0 := (N, .inr (.inl (fun _ => 0)))) (fun cA => rfl) hn hN hbytes hcells hslots hdg (fun q cA H1 hK2 hP hD hS => ?_)
  have e1 := (hK2.2 5 (cA, .long) rfl).2
  have e2 := (hK.1.2 2 (cy 2, .long) rfl).2
  have e3 : cA = cy 2 := Option.some.inj ((show s.vm.findClass ("[" ++ (FieldType.long).toString) = some cA from e1).symm.trans (show s.vm.findClass ("[" ++ (FieldType.long).toString) = some (cy 2) from e2))
  subst e3
  exact kk q H1 ⟨hP, hD, hS⟩
theorem nAZ {n : Int32} {N : Nat} (C : Cx p s m args c cc nL own D cy A) (hO : Wo D A ws s.heap H locs) (hw : Cond.arrayClass .boolean ∈ gtb) (hn : ¬ n < 0) (hN : n.toNatClampNeg = N) (hbytes : N * 1 ≤ 536870912) (hcells : cells + 1 ≤ R.cells) (hslots : slots + N ≤ R.slots) (hdg : decode cc pc = .ok (.newarray .boolean, 2))
    (kk : ∀ (q : Nat) (H : Heap), Wo D A (ws ++ [(q, .inl (cy 3, N, .inl (fun _ => 0)))]) s.heap H locs → W p l e R s m args below meth c H locs (cells + 1) (slots + N) Q (F0 m (pc + 2) ls (.ref q :: rest))) : W p l e R s m args below meth c H locs cells slots Q (F0 m pc ls (.int n :: rest)) := by
  obtain ⟨hx, hb, hml, hown, ht, hK, hA⟩ := C
  refine va_newa (atype := .boolean) hx hb (ht _ hw) (ty := .boolean) rfl hK.1 hO.1 hO.2.1 hO.2.2 hA (a0 := (N, .inl (fun _ => 0))) (fun cA => rfl) hn hN hbytes hcells hslots hdg (fun q cA H1 hK2 hP hD hS => ?_)
  have e1 := (hK2.2 5 (cA, .boolean) rfl).2
  have e2 := (hK.1.2 3 (cy 3, .boolean) rfl).2
  have e3 : cA = cy 3 := Option.some.inj ((show s.vm.findClass ("[" ++ (FieldType.boolean).toString) = some cA from e1).symm.trans (show s.vm.findClass ("[" ++ (FieldType.boolean).toString) = some (cy 3) from e2))
  subst e3
  exact kk q H1 ⟨hP, hD, hS⟩

/-- rows of ints: the outer row and the inner ones -/
theorem nRows {index : Nat} {n k : Int32} {N K : Nat} (C : Cx p s m args c cc nL own D cy A) (hQ : KQ D cy s) (hO : Wo D A ws s.heap H locs) (hcl : Cond.classLink own index "[[I" ∈ gtb) (hw : Cond.arrayClass .int ∈ gtb) (hn : ¬ n < 0) (hk : ¬ k < 0) (hN : n.toNatClampNeg = N) (hM : k.toNatClampNeg = K) (hb1 : N * 4 ≤ 536870912) (hb2 : K * 4 ≤ 536870912) (hcells : cells + (1 + N) ≤ R.cells) (hslots : slots + (N + N * K) ≤ R.slots) (hdg : decode cc pc = .ok (.multianewarray index 2, 4))
    (kk : ∀ (q : Nat) (r : Nat → Nat) (H : Heap), Wo D A ((ws ++ [(q, .inl (cy 4, N, .inr (.inr (.inr (.inr (fun i => if i < N then some (r i) else none))))))]) ++ (List.range N).map (fun i => (r i, .inl (cy 1, K, .inl (fun _ => 0))))) s.heap H locs → W p l e R s m args below meth c H locs (cells + 1 + N) (slots + N + N * K) Q (F0 m (pc + 4) ls (.ref q :: rest))) : W p l e R s m args below meth c H locs cells slots Q (F0 m pc ls (.int k :: .int n :: rest)) := by
  obtain ⟨hx, hb, hml, hown, ht, hK, hA⟩ := C
  have hcy : s.vm.findClass (FieldType.array .int).toString = some (cy 1) := (hK.1.2 1 (cy 1, .int) rfl).2
  have e0 : ws = ws ++ va_pl [] (fun _ => (.inr (0, []) : va_E)) := (List.append_nil ws).symm
  have hP0 := hO.1
  have hD0 := hO.2.1
  rw [e0] at hP0 hD0
  refine va_mna (X := ws) (L := []) (f := fun _ => (.inr (0, []) : va_E)) (ty := .int) (cy := cy 1) (z := (K, .inl (fun _ => 0))) hx hb hown (ht _ hcl) hQ.2.2.2.2.2.2 (ht _ hw) hcy hK.1 hP0 hD0 hO.2.2 hA hn hk hN hM hb1 hb2 (by omega) rfl rfl hcells hslots (fun c => by show _ = arrV c K (fun _ => .int 0); rw [← arrV_new]; rfl) hdg (fun q r cA H1 hinj hnl hK2 hP hD hS => ?_)
  have e1 := (hK2.2 5 (cA, .array .int) rfl).2
  have e2 := (hK.1.2 4 (cy 4, .array .int) rfl).2
  have e3 : cA = cy 4 := Option.some.inj ((show s.vm.findClass ("[" ++ (FieldType.array .int).toString) = some cA from e1).symm.trans (show s.vm.findClass ("[" ++ (FieldType.array .int).toString) = some (cy 4) from e2))
  subst e3
  have e4 : va_pl ([] ++ (List.range N).map r) (vr_up (fun _ => (.inr (0, []) : va_E)) ((List.range N).map r) (.inl (cy 1, (K, .inl (fun _ => 0))))) = (List.range N).map (fun i => (r i, .inl (cy 1, K, .inl (fun _ => 0)))) := by
    unfold va_pl
    rw [List.nil_append, List.map_map]
    apply List.map_congr_left
    intro i hi
    show (r i, vr_up _ _ _ (r i)) = _
    rw [vr_up_in (List.mem_map.mpr ⟨i, hi, rfl⟩)]
  rw [e4] at hP hD
  exact kk q r H1 ⟨hP, hD, hS⟩
/-- a constructor called on a part of the world -/
theorem cI {S : Type} {y : MethodName} {bytes : ByteArray} {maxL n index mc ms : Nat} {rm : Room} {As : List Value} {wc wr : va_W} {wf : S → va_W} {post : S → Prop} (C : Cx p s m args c cc nL own D cy A) (hQ : KQ D cy s) (hO : Wo D A ws s.heap H locs) (isC isR : List Nat) (hC : isC.map (fun i => ws[i]?) = wc.map some) (hR : isR.map (fun i => ws[i]?) = wr.map some) (hnC : va_nd isC = true) (hnR : va_nd isR = true) (hdis : ∀ i ∈ isR, i ∉ isC)
    (hM : Mc l D cy y (.code y bytes maxL none) rm (.ref b :: As) wc wf post mc ms)
    (cw : CallB R s args own index y bytes maxL none (.code y bytes maxL none :: gtb) rm mc ms n ∧ y.name = "<init>" ∧ (Cond.instanceMethod y).before args s = true) (hn : As.length = n) (hls : ls.size = nL) (hW : (rest.map fun v => v.category).sum ≤ 8) (hdg : decode cc pc = .ok (.invokespecial index, 3)) {st : List Value} (hst : st = As.reverse ++ .ref b :: rest) (hf : cells + mc ≤ R.cells ∧ slots + ms ≤ R.slots)
    (kk : ∀ (u : S) (H : Heap) (locs : List Loc), post u → Wo D A (wr ++ wf u) s.heap H locs → W p l e R s m args below meth c H locs (cells + mc) (slots + ms) Q (F0 m (pc + 3) ls rest)) : W p l e R s m args below meth c H locs cells slots Q (F0 m pc ls st) := by
  obtain ⟨hx, hb, hml, hown, ht, hK, hA⟩ := C
  obtain ⟨hP, hD, hS⟩ := hO
  subst hst
  have hPc : va_P D vwCl wc H := hP.sub isC (by have h9 := congrArg (List.filterMap id) hC; simpa [List.filterMap_map, Function.comp_def] using h9)
  have hDc := hD.sub isC hnC hC
  have hF := va_free hD hS hA isC hC
  refine va_callv (va_runI (As := As) (rest := rest) ⟨hx, hb, hml, hown, ht⟩ (hM H.size) cw ⟨fun a U g mk q => by obtain ⟨q0, q1, qP, qK, qD⟩ := q; exact ⟨q0, q1, qP, qK.call, qD⟩, fun U hU hW => ⟨rfl, by rw [hU], by rw [hU]; exact hPc, hQ.warm hW, hDc.weaken (fun _ _ _ _ => trivial)⟩⟩ rfl hn hls rfl (lv_room hW) hdg hf) hS (fun q _ h => hF q h) hF (fun u t H1 locs1 ht1 hvm hp hB hz hk hS1 => ?_)
  obtain ⟨hP1, hK1, hD1⟩ := hB
  rw [ht1] at hP1
  obtain ⟨hP2, hD2⟩ := va_join hP hD isC isR hC hR hnR hdis hk hF hP1 hD1
  exact kk u H1 locs1 hp ⟨hP2, hD2, hS1⟩
theorem cIN {S : Type} {host : String} {y : MethodName} {bytes : ByteArray} {maxL n index mc ms : Nat} {rm : Room} {As : List Value} {wc wr : va_W} {wf : S → va_W} {post : S → Prop} (C : Cx p s m args c cc nL own D cy A) (hQ : KQ D cy s) (hO : Wo D A ws s.heap H locs) (isC isR : List Nat) (hC : isC.map (fun i => ws[i]?) = wc.map some) (hR : isR.map (fun i => ws[i]?) = wr.map some) (hnC : va_nd isC = true) (hnR : va_nd isR = true) (hdis : ∀ i ∈ isR, i ∉ isC)
    (hM : Mc l D cy y (.code y bytes maxL none) rm (.ref b :: As) wc wf post mc ms)
    (cw : va_CN R s args own index y host bytes maxL none (.code y bytes maxL none :: gtb) rm mc ms n ∧ y.name = "<init>" ∧ (Cond.instanceMethod y).before args s = true) (hn : As.length = n) (hls : ls.size = nL) (hW : (rest.map fun v => v.category).sum ≤ 8) (hdg : decode cc pc = .ok (.invokespecial index, 3)) {st : List Value} (hst : st = As.reverse ++ .ref b :: rest) (hf : cells + mc ≤ R.cells ∧ slots + ms ≤ R.slots)
    (kk : ∀ (u : S) (H : Heap) (locs : List Loc), post u → Wo D A (wr ++ wf u) s.heap H locs → W p l e R s m args below meth c H locs (cells + mc) (slots + ms) Q (F0 m (pc + 3) ls rest)) : W p l e R s m args below meth c H locs cells slots Q (F0 m pc ls st) := by
  obtain ⟨hx, hb, hml, hown, ht, hK, hA⟩ := C
  obtain ⟨hP, hD, hS⟩ := hO
  subst hst
  have hPc : va_P D vwCl wc H := hP.sub isC (by have h9 := congrArg (List.filterMap id) hC; simpa [List.filterMap_map, Function.comp_def] using h9)
  have hDc := hD.sub isC hnC hC
  have hF := va_free hD hS hA isC hC
  refine va_callv (va_runIN (As := As) (rest := rest) ⟨hx, hb, hml, hown, ht⟩ (hM H.size) cw ⟨fun a U g mk q => by obtain ⟨q0, q1, qP, qK, qD⟩ := q; exact ⟨q0, q1, qP, qK.call, qD⟩, fun U hU hW => ⟨rfl, by rw [hU], by rw [hU]; exact hPc, hQ.warm hW, hDc.weaken (fun _ _ _ _ => trivial)⟩⟩ rfl hn hls rfl (lv_room hW) hdg hf) hS (fun q _ h => hF q h) hF (fun u t H1 locs1 ht1 hvm hp hB hz hk hS1 => ?_)
  obtain ⟨hP1, hK1, hD1⟩ := hB
  rw [ht1] at hP1
  obtain ⟨hP2, hD2⟩ := va_join hP hD isC isR hC hR hnR hdis hk hF hP1 hD1
  exact kk u H1 locs1 hp ⟨hP2, hD2, hS1⟩
end CT
end
section

theorem Wo.swap {D : va_G} {A : Nat → Prop} {a b c : va_W} {H0 H : Heap} {locs : List Loc} (h : Wo D A ((a ++ b) ++ c) H0 H locs) : Wo D A ((a ++ c) ++ b) H0 H locs := ⟨h.1.swap, h.2.1.swap, h.2.2⟩
theorem Wo.perm {D : va_G} {A : Nat → Prop} {X X' pl : va_W} {H0 H : Heap} {locs : List Loc} (h : Wo D A (X ++ pl) H0 H locs) (is : List Nat) (hn : va_nd is = true) (hs : is.map (fun i => X[i]?) = X'.map some) : Wo D A (X' ++ pl) H0 H locs := by
  have hlen : is.length = X'.length := by have := congrArg List.length hs; simpa using this
  have hat : ∀ k : Nat, k < X'.length → ∃ i, is[k]? = some i ∧ i < X.length := by
    intro k hk
    obtain ⟨i, hi⟩ : ∃ i, is[k]? = some i := ⟨_, List.getElem?_eq_getElem (by omega)⟩
    have h1 : (is.map (fun i => X[i]?))[k]? = some (some (X'[k])) := by rw [hs, List.getElem?_map, List.getElem?_eq_getElem hk]; rfl
    rw [List.getElem?_map, hi] at h1
    exact ⟨i, hi, (List.getElem?_eq_some_iff.mp (Option.some.inj h1)).1⟩
  refine ⟨h.1.by _ (va_part is hs), h.2.1.by _ (va_part is hs) (fun i j hi hj e => ?_), h.2.2⟩
  by_cases h1 : i < X'.length <;> by_cases h2 : j < X'.length
  · obtain ⟨a, ha, hla⟩ := hat i h1
    obtain ⟨b, hb, hlb⟩ := hat j h2
    rw [if_pos h1, if_pos h2, ha, hb] at e
    have e2 : a = b := e
    subst e2
    exact va_nd_inj is hn i j a ha hb
  · obtain ⟨a, ha, hla⟩ := hat i h1
    rw [if_pos h1, if_neg h2, ha] at e
    have e2 : a = X.length + (j - X'.length) := e
    omega
  · obtain ⟨b, hb, hlb⟩ := hat j h2
    rw [if_neg h1, if_pos h2, hb] at e
    have e2 : X.length + (i - X'.length) = b := e
    omega
  · rw [if_neg h1, if_neg h2] at e
    omega
section CT2
variable {p : Program} {l : Launch} {e : Env} {R : Room} {s : State} {m : MethodId} {args : Array Value} {below : List Frame} {meth : Method} {c : Code} {H : Heap} {locs : List Loc} {cells slots : Nat} {Q : State → Prop}
variable {cc : ByteArray} {pc nL : Nat} {ls : Array Slot} {rest : List Value} {D : va_G} {cy : Nat → ClassId} {A : Nat → Prop} {own : String} {X pl : va_W} {b : Nat}
theorem dI {S : Type} {y : MethodName} {bytes : ByteArray} {maxL n index mc ms : Nat} {rm : Room} {As : List Value} {wc wr : va_W} {wf : S → va_W} {post : S → Prop} (C : Cx p s m args c cc nL own D cy A) (hQ : KQ D cy s) (hO : Wo D A (X ++ pl) s.heap H locs) (isC isR : List Nat) (hC : isC.map (fun i => X[i]?) = wc.map some) (hR : isR.map (fun i => X[i]?) = wr.map some) (hnC : va_nd isC = true) (hnR : va_nd isR = true) (hdis : ∀ i ∈ isR, i ∉ isC)
    (hM : Mc l D cy y (.code y bytes maxL none) rm (.ref b :: As) wc wf post mc ms)
    (cw : CallB R s args own index y bytes maxL none (.code y bytes maxL none :: gtb) rm mc ms n ∧ y.name = "<init>" ∧ (Cond.instanceMethod y).before args s = true) (hn : As.length = n) (hls : ls.size = nL) (hW : (rest.map fun v => v.category).sum ≤ 8) (hdg : decode cc pc = .ok (.invokespecial index, 3)) {st : List Value} (hst : st = As.reverse ++ .ref b :: rest) (hf : cells + mc ≤ R.cells ∧ slots + ms ≤ R.slots)
    (kk : ∀ (u : S) (H : Heap) (locs : List Loc), post u → Wo D A ((wr ++ wf u) ++ pl) s.heap H locs → W p l e R s m args below meth c H locs (cells + mc) (slots + ms) Q (F0 m (pc + 3) ls rest)) : W p l e R s m args below meth c H locs cells slots Q (F0 m pc ls st) := by
  have hOc : Wo D A (wc ++ pl) s.heap H locs := hO.perm isC hnC hC
  obtain ⟨hx, hb, hml, hown, ht, hK, hA⟩ := C
  obtain ⟨hP, hD, hS⟩ := hO
  subst hst
  have hPc : va_P D vwCl wc H := fun k q hk => hOc.1 k q (by rw [List.getElem?_append_left (List.getElem?_eq_some_iff.mp hk).1]; exact hk)
  have hDc : va_D A wc := hOc.2.1.by (fun k => k) (fun k q hk => by rw [List.getElem?_append_left (List.getElem?_eq_some_iff.mp hk).1]; exact hk) (fun i j _ _ h => h)
  have hF : ∀ q, va_A wc H.size q → A q := fun q h => hDc.self' hS hA h
  refine va_callv (va_runI (As := As) (rest := rest) ⟨hx, hb, hml, hown, ht⟩ (hM H.size) cw ⟨fun a U g mk q => by obtain ⟨q0, q1, qP, qK, qD⟩ := q; exact ⟨q0, q1, qP, qK.call, qD⟩, fun U hU hW => ⟨rfl, by rw [hU], by rw [hU]; exact hPc, hQ.warm hW, hDc.weaken (fun _ _ _ _ => trivial)⟩⟩ rfl hn hls rfl (lv_room hW) hdg hf) hS (fun q _ h => hF q h) hF (fun u t H1 locs1 ht1 hvm hp hB hz hk hS1 => ?_)
  obtain ⟨hP1, hK1, hD1⟩ := hB
  rw [ht1] at hP1
  obtain ⟨hP2, hD2⟩ := va_joinQ hP hD isC isR hC hR hnR hdis hk hF hP1 hD1
  exact kk u H1 locs1 hp ⟨hP2, hD2, hS1⟩
theorem dIN {S : Type} {host : String} {y : MethodName} {bytes : ByteArray} {maxL n index mc ms : Nat} {rm : Room} {As : List Value} {wc wr : va_W} {wf : S → va_W} {post : S → Prop} (C : Cx p s m args c cc nL own D cy A) (hQ : KQ D cy s) (hO : Wo D A (X ++ pl) s.heap H locs) (isC isR : List Nat) (hC : isC.map (fun i => X[i]?) = wc.map some) (hR : isR.map (fun i => X[i]?) = wr.map some) (hnC : va_nd isC = true) (hnR : va_nd isR = true) (hdis : ∀ i ∈ isR, i ∉ isC)
    (hM : Mc l D cy y (.code y bytes maxL none) rm (.ref b :: As) wc wf post mc ms)
    (cw : va_CN R s args own index y host bytes maxL none (.code y bytes maxL none :: gtb) rm mc ms n ∧ y.name = "<init>" ∧ (Cond.instanceMethod y).before args s = true) (hn : As.length = n) (hls : ls.size = nL) (hW : (rest.map fun v => v.category).sum ≤ 8) (hdg : decode cc pc = .ok (.invokespecial index, 3)) {st : List Value} (hst : st = As.reverse ++ .ref b :: rest) (hf : cells + mc ≤ R.cells ∧ slots + ms ≤ R.slots)
    (kk : ∀ (u : S) (H : Heap) (locs : List Loc), post u → Wo D A ((wr ++ wf u) ++ pl) s.heap H locs → W p l e R s m args below meth c H locs (cells + mc) (slots + ms) Q (F0 m (pc + 3) ls rest)) : W p l e R s m args below meth c H locs cells slots Q (F0 m pc ls st) := by
  have hOc : Wo D A (wc ++ pl) s.heap H locs := hO.perm isC hnC hC
  obtain ⟨hx, hb, hml, hown, ht, hK, hA⟩ := C
  obtain ⟨hP, hD, hS⟩ := hO
  subst hst
  have hPc : va_P D vwCl wc H := fun k q hk => hOc.1 k q (by rw [List.getElem?_append_left (List.getElem?_eq_some_iff.mp hk).1]; exact hk)
  have hDc : va_D A wc := hOc.2.1.by (fun k => k) (fun k q hk => by rw [List.getElem?_append_left (List.getElem?_eq_some_iff.mp hk).1]; exact hk) (fun i j _ _ h => h)
  have hF : ∀ q, va_A wc H.size q → A q := fun q h => hDc.self' hS hA h
  refine va_callv (va_runIN (As := As) (rest := rest) ⟨hx, hb, hml, hown, ht⟩ (hM H.size) cw ⟨fun a U g mk q => by obtain ⟨q0, q1, qP, qK, qD⟩ := q; exact ⟨q0, q1, qP, qK.call, qD⟩, fun U hU hW => ⟨rfl, by rw [hU], by rw [hU]; exact hPc, hQ.warm hW, hDc.weaken (fun _ _ _ _ => trivial)⟩⟩ rfl hn hls rfl (lv_room hW) hdg hf) hS (fun q _ h => hF q h) hF (fun u t H1 locs1 ht1 hvm hp hB hz hk hS1 => ?_)
  obtain ⟨hP1, hK1, hD1⟩ := hB
  rw [ht1] at hP1
  obtain ⟨hP2, hD2⟩ := va_joinQ hP hD isC isR hC hR hnR hdis hk hF hP1 hD1
  exact kk u H1 locs1 hp ⟨hP2, hD2, hS1⟩
end CT2
theorem dX4_init_0 : decode cX4_init 0 = .ok (.aload_n 0, 1) := by decide +kernel
theorem dX4_init_1 : decode cX4_init 1 = .ok (.invokespecial 3, 3) := by decide +kernel
theorem dX4_init_4 : decode cX4_init 4 = .ok (.aload_n 0, 1) := by decide +kernel
theorem dX4_init_5 : decode cX4_init 5 = .ok (.sipush 300, 3) := by decide +kernel
theorem dX4_init_8 : decode cX4_init 8 = .ok (.newarray .int, 2) := by decide +kernel
theorem dX4_init_10 : decode cX4_init 10 = .ok (.putfield 11, 3) := by decide +kernel
theorem dX4_init_13 : decode cX4_init 13 = .ok (.aload_n 0, 1) := by decide +kernel
theorem dX4_init_14 : decode cX4_init 14 = .ok (.bipush 31, 2) := by decide +kernel
theorem dX4_init_16 : decode cX4_init 16 = .ok (.newarray .int, 2) := by decide +kernel
theorem dX4_init_18 : decode cX4_init 18 = .ok (.putfield 15, 3) := by decide +kernel
theorem dX4_init_21 : decode cX4_init 21 = .ok (.return_, 1) := by decide +kernel
theorem wd_181 : (Cond.code ⟨"WebCourt$Law", "<init>", "()V"⟩ prog_6_method_1_code (1 : Nat) (Option.none : Option FieldType)) ∈ gtb := gtb_c1 72 (by decide +kernel) rfl
theorem wd_182 : (Cond.methodLink "WebCourt$Law" (3 : Nat) ⟨"java/lang/Object", "<init>", "()V"⟩) ∈ gtb := gtb_c1 73 (by decide +kernel) rfl
theorem wd_135 : (Cond.instanceMethod ⟨"java/lang/Object", "<init>", "()V"⟩) ∈ gtb := gtb_c1 26 (by decide +kernel) rfl
theorem wd_136 : (Cond.code ⟨"java/lang/Object", "<init>", "()V"⟩ object_method_1_code (1 : Nat) (Option.none : Option FieldType)) ∈ gtb := gtb_c1 27 (by decide +kernel) rfl
theorem wd_220 : (Cond.arrayClass FieldType.int) ∈ gtb := gtb_c1 111 (by decide +kernel) rfl
theorem wd_183 : (Cond.fieldLink "WebCourt$Law" (11 : Nat) "WebCourt$Law" "codes" "[I") ∈ gtb := gtb_c1 74 (by decide +kernel) rfl
theorem wd_196 : (Cond.laysFinal "WebCourt$Law" "WebCourt$Law" "codes" "[I") ∈ gtb := gtb_c1 87 (by decide +kernel) rfl
theorem wd_198 : (Cond.laysFinal "WebCourt$Law" "WebCourt$Law" "stack" "[I") ∈ gtb := gtb_c1 89 (by decide +kernel) rfl
theorem wd_200 : (Cond.lays "WebCourt$Law" "WebCourt$Law" "length" "I") ∈ gtb := gtb_c1 91 (by decide +kernel) rfl
theorem wd_202 : (Cond.lays "WebCourt$Law" "WebCourt$Law" "top" "I") ∈ gtb := gtb_c1 93 (by decide +kernel) rfl
theorem wd_204 : (Cond.lays "WebCourt$Law" "WebCourt$Law" "units" "I") ∈ gtb := gtb_c1 95 (by decide +kernel) rfl
theorem wd_206 : (Cond.lays "WebCourt$Law" "WebCourt$Law" "pleads" "I") ∈ gtb := gtb_c1 97 (by decide +kernel) rfl
theorem wd_208 : (Cond.lays "WebCourt$Law" "WebCourt$Law" "many" "I") ∈ gtb := gtb_c1 99 (by decide +kernel) rfl
theorem wd_210 : (Cond.lays "WebCourt$Law" "WebCourt$Law" "before" "I") ∈ gtb := gtb_c1 101 (by decide +kernel) rfl
theorem wd_212 : (Cond.lays "WebCourt$Law" "WebCourt$Law" "stays" "I") ∈ gtb := gtb_c1 103 (by decide +kernel) rfl
theorem wd_214 : (Cond.lays "WebCourt$Law" "WebCourt$Law" "kin" "I") ∈ gtb := gtb_c1 105 (by decide +kernel) rfl
theorem wd_216 : (Cond.lays "WebCourt$Law" "WebCourt$Law" "hour" "I") ∈ gtb := gtb_c1 107 (by decide +kernel) rfl
theorem inFX4 : ∀ w ∈ u_ws RX4 TX4 11, w ∈ gtb := by
  show ∀ w ∈ [u_lay RX4 TX4 0, u_lay RX4 TX4 1, u_lay RX4 TX4 2, u_lay RX4 TX4 3, u_lay RX4 TX4 4, u_lay RX4 TX4 5, u_lay RX4 TX4 6, u_lay RX4 TX4 7, u_lay RX4 TX4 8, u_lay RX4 TX4 9, u_lay RX4 TX4 10], w ∈ gtb
  exact List.forall_mem_cons.mpr ⟨wd_196, List.forall_mem_cons.mpr ⟨wd_198, List.forall_mem_cons.mpr ⟨wd_200, List.forall_mem_cons.mpr ⟨wd_202, List.forall_mem_cons.mpr ⟨wd_204, List.forall_mem_cons.mpr ⟨wd_206, List.forall_mem_cons.mpr ⟨wd_208, List.forall_mem_cons.mpr ⟨wd_210, List.forall_mem_cons.mpr ⟨wd_212, List.forall_mem_cons.mpr ⟨wd_214, List.forall_mem_cons.mpr ⟨wd_216, fun _ h => absurd h List.not_mem_nil⟩⟩⟩⟩⟩⟩⟩⟩⟩⟩⟩
theorem wd_184 : (Cond.fieldLink "WebCourt$Law" (15 : Nat) "WebCourt$Law" "stack" "[I") ∈ gtb := gtb_c1 75 (by decide +kernel) rfl
set_option maxHeartbeats 8000000 in
set_option maxRecDepth 100000 in
theorem K_X4 (l : Launch) (D : va_G) (cy : Nat → ClassId) (h0 : Nat) : Mc (S := Nat → Nat) l D cy yX4_init (.code yX4_init cX4_init 1 none) { frames := 1, cells := 2, slots := 331, locals := 20 } [.ref h0] [(h0, .inr (4, [.null, .null, .int 0, .int 0, .int 0, .int 0, .int 0, .int 0, .int 0, .int 0, .int 0]))] (fun q => [(h0, .inr (4, [.ref (q 0), .ref (q 1), .int 0, .int 0, .int 0, .int 0, .int 0, .int 0, .int 0, .int 0, .int 0])), ((q 0), .inl (cy 1, 300, .inl (fun _ => 0))), ((q 1), .inl (cy 1, 31, .inl (fun _ => 0)))]) (fun _ => True) 2 331 := by
  refine Mc.of (own := RX4) rfl rfl (by decide) (Nat.le_of_ble_eq_true rfl) ?_
  intro p e s m below meth c A Q ls C hQ hin hret hO hl
  obtain ⟨hx, hb, hml, hown, ht, hK, hA⟩ := id C
  have hl : lv_has ls 1 [(0, .ref h0)] := hl
  have hO : Wo D A ([(h0, .inr (4, [.null, .null, .int 0, .int 0, .int 0, .int 0, .int 0, .int 0, .int 0, .int 0, .int 0]))] ++ ([] : va_W)) s.heap s.heap [] := hO
  refine lv_aload_n hx hb dX4_init_0 rfl (lv_at hl 0 rfl) ?_
  refine oI C wd_182 wd_135 wd_136 hl.1 dX4_init_1 (Nat.le_of_ble_eq_true rfl) (Nat.le_of_ble_eq_true rfl) ?_
  refine lv_aload_n hx hb dX4_init_4 rfl (lv_at hl 0 rfl) ?_
  refine lv_sipush (v := 300) hx hb dX4_init_5 (by decide) ?_
  refine nAI (N := 300) C hO wd_220 (by decide) rfl (Nat.le_of_ble_eq_true rfl) (Nat.le_of_ble_eq_true rfl) (Nat.le_of_ble_eq_true rfl) dX4_init_8 (fun q1 H hO => ?_)
  have hO := hO.swap
  have hO : Wo D A ([(h0, .inr (4, [.null, .null, .int 0, .int 0, .int 0, .int 0, .int 0, .int 0, .int 0, .int 0, .int 0])), (q1, .inl (cy 1, 300, .inl (fun _ => 0)))] ++ ([] : va_W)) s.heap H [] := hO
  refine pFF (k := 0) (ws' := [(h0, .inr (4, [.ref q1, .null, .int 0, .int 0, .int 0, .int 0, .int 0, .int 0, .int 0, .int 0, .int 0])), (q1, .inl (cy 1, 300, .inl (fun _ => 0)))] ++ ([] : va_W)) (ty := tyX4 0) (v := .ref q1) C hin hO 0 rfl rfl inFX4 (by decide) wd_183 rfl rfl tyX4 tyX4_ok nmX4 rfl (by decide +kernel) rfl rfl (Nat.le_of_ble_eq_true rfl) rfl dX4_init_10 (fun H locs hO => ?_)
  refine lv_aload_n hx hb dX4_init_13 rfl (lv_at hl 0 rfl) ?_
  refine lv_bipush (v := 31) hx hb dX4_init_14 (by decide) ?_
  refine nAI (N := 31) C hO wd_220 (by decide) rfl (Nat.le_of_ble_eq_true rfl) (Nat.le_of_ble_eq_true rfl) (Nat.le_of_ble_eq_true rfl) dX4_init_16 (fun q2 H hO => ?_)
  have hO := hO.swap
  have hO : Wo D A ([(h0, .inr (4, [.ref q1, .null, .int 0, .int 0, .int 0, .int 0, .int 0, .int 0, .int 0, .int 0, .int 0])), (q1, .inl (cy 1, 300, .inl (fun _ => 0))), (q2, .inl (cy 1, 31, .inl (fun _ => 0)))] ++ ([] : va_W)) s.heap H locs := hO
  refine pFF (k := 1) (ws' := [(h0, .inr (4, [.ref q1, .ref q2, .int 0, .int 0, .int 0, .int 0, .int 0, .int 0, .int 0, .int 0, .int 0])), (q1, .inl (cy 1, 300, .inl (fun _ => 0))), (q2, .inl (cy 1, 31, .inl (fun _ => 0)))] ++ ([] : va_W)) (ty := tyX4 1) (v := .ref q2) C hin hO 0 rfl rfl inFX4 (by decide) wd_184 rfl rfl tyX4 tyX4_ok nmX4 rfl (by decide +kernel) rfl rfl (Nat.le_of_ble_eq_true rfl) rfl dX4_init_18 (fun H locs hO => ?_)
  exact hret (fun i => ([q1, q2] : List Nat).getD i 0) _ _ _ _ dX4_init_21 trivial hO
theorem dX7_init_0 : decode cX7_init 0 = .ok (.aload_n 0, 1) := by decide +kernel
theorem dX7_init_1 : decode cX7_init 1 = .ok (.invokespecial 3, 3) := by decide +kernel
theorem dX7_init_4 : decode cX7_init 4 = .ok (.aload_n 0, 1) := by decide +kernel
theorem dX7_init_5 : decode cX7_init 5 = .ok (.sipush 1600, 3) := by decide +kernel
theorem dX7_init_8 : decode cX7_init 8 = .ok (.newarray .byte, 2) := by decide +kernel
theorem dX7_init_10 : decode cX7_init 10 = .ok (.putfield 9, 3) := by decide +kernel
theorem dX7_init_13 : decode cX7_init 13 = .ok (.return_, 1) := by decide +kernel
theorem wd_141 : (Cond.code ⟨"WebCourt$Tape", "<init>", "()V"⟩ prog_9_method_1_code (1 : Nat) (Option.none : Option FieldType)) ∈ gtb := gtb_c1 32 (by decide +kernel) rfl
theorem wd_142 : (Cond.methodLink "WebCourt$Tape" (3 : Nat) ⟨"java/lang/Object", "<init>", "()V"⟩) ∈ gtb := gtb_c1 33 (by decide +kernel) rfl
theorem wd_170 : (Cond.arrayClass FieldType.byte) ∈ gtb := gtb_c1 61 (by decide +kernel) rfl
theorem wd_143 : (Cond.fieldLink "WebCourt$Tape" (9 : Nat) "WebCourt$Tape" "bytes" "[B") ∈ gtb := gtb_c1 34 (by decide +kernel) rfl
theorem wd_155 : (Cond.laysFinal "WebCourt$Tape" "WebCourt$Tape" "bytes" "[B") ∈ gtb := gtb_c1 46 (by decide +kernel) rfl
theorem wd_157 : (Cond.lays "WebCourt$Tape" "WebCourt$Tape" "length" "I") ∈ gtb := gtb_c1 48 (by decide +kernel) rfl
theorem wd_159 : (Cond.lays "WebCourt$Tape" "WebCourt$Tape" "next" "I") ∈ gtb := gtb_c1 50 (by decide +kernel) rfl
theorem wd_161 : (Cond.lays "WebCourt$Tape" "WebCourt$Tape" "start" "I") ∈ gtb := gtb_c1 52 (by decide +kernel) rfl
theorem wd_163 : (Cond.lays "WebCourt$Tape" "WebCourt$Tape" "kind" "I") ∈ gtb := gtb_c1 54 (by decide +kernel) rfl
theorem wd_165 : (Cond.lays "WebCourt$Tape" "WebCourt$Tape" "word" "J") ∈ gtb := gtb_c1 56 (by decide +kernel) rfl
theorem wd_167 : (Cond.lays "WebCourt$Tape" "WebCourt$Tape" "number" "I") ∈ gtb := gtb_c1 58 (by decide +kernel) rfl
theorem inFX7 : ∀ w ∈ u_ws RX7 TX7 7, w ∈ gtb := by
  show ∀ w ∈ [u_lay RX7 TX7 0, u_lay RX7 TX7 1, u_lay RX7 TX7 2, u_lay RX7 TX7 3, u_lay RX7 TX7 4, u_lay RX7 TX7 5, u_lay RX7 TX7 6], w ∈ gtb
  exact List.forall_mem_cons.mpr ⟨wd_155, List.forall_mem_cons.mpr ⟨wd_157, List.forall_mem_cons.mpr ⟨wd_159, List.forall_mem_cons.mpr ⟨wd_161, List.forall_mem_cons.mpr ⟨wd_163, List.forall_mem_cons.mpr ⟨wd_165, List.forall_mem_cons.mpr ⟨wd_167, fun _ h => absurd h List.not_mem_nil⟩⟩⟩⟩⟩⟩⟩
set_option maxHeartbeats 8000000 in
set_option maxRecDepth 100000 in
theorem K_X7 (l : Launch) (D : va_G) (cy : Nat → ClassId) (h0 : Nat) : Mc (S := Nat → Nat) l D cy yX7_init (.code yX7_init cX7_init 1 none) { frames := 1, cells := 1, slots := 1600, locals := 20 } [.ref h0] [(h0, .inr (7, [.null, .int 0, .int 0, .int 0, .int 0, .long 0, .int 0]))] (fun q => [(h0, .inr (7, [.ref (q 0), .int 0, .int 0, .int 0, .int 0, .long 0, .int 0])), ((q 0), .inl (cy 0, 1600, .inl (fun _ => 0)))]) (fun _ => True) 1 1600 := by
  refine Mc.of (own := RX7) rfl rfl (by decide) (Nat.le_of_ble_eq_true rfl) ?_
  intro p e s m below meth c A Q ls C hQ hin hret hO hl
  obtain ⟨hx, hb, hml, hown, ht, hK, hA⟩ := id C
  have hl : lv_has ls 1 [(0, .ref h0)] := hl
  have hO : Wo D A ([(h0, .inr (7, [.null, .int 0, .int 0, .int 0, .int 0, .long 0, .int 0]))] ++ ([] : va_W)) s.heap s.heap [] := hO
  refine lv_aload_n hx hb dX7_init_0 rfl (lv_at hl 0 rfl) ?_
  refine oI C wd_142 wd_135 wd_136 hl.1 dX7_init_1 (Nat.le_of_ble_eq_true rfl) (Nat.le_of_ble_eq_true rfl) ?_
  refine lv_aload_n hx hb dX7_init_4 rfl (lv_at hl 0 rfl) ?_
  refine lv_sipush (v := 1600) hx hb dX7_init_5 (by decide) ?_
  refine nAB (N := 1600) C hO wd_170 (by decide) rfl (Nat.le_of_ble_eq_true rfl) (Nat.le_of_ble_eq_true rfl) (Nat.le_of_ble_eq_true rfl) dX7_init_8 (fun q1 H hO => ?_)
  have hO := hO.swap
  have hO : Wo D A ([(h0, .inr (7, [.null, .int 0, .int 0, .int 0, .int 0, .long 0, .int 0])), (q1, .inl (cy 0, 1600, .inl (fun _ => 0)))] ++ ([] : va_W)) s.heap H [] := hO
  refine pFF (k := 0) (ws' := [(h0, .inr (7, [.ref q1, .int 0, .int 0, .int 0, .int 0, .long 0, .int 0])), (q1, .inl (cy 0, 1600, .inl (fun _ => 0)))] ++ ([] : va_W)) (ty := tyX7 0) (v := .ref q1) C hin hO 0 rfl rfl inFX7 (by decide) wd_143 rfl rfl tyX7 tyX7_ok nmX7 rfl (by decide +kernel) rfl rfl (Nat.le_of_ble_eq_true rfl) rfl dX7_init_10 (fun H locs hO => ?_)
  exact hret (fun i => ([q1] : List Nat).getD i 0) _ _ _ _ dX7_init_13 trivial hO
theorem dX9_init_0 : decode cX9_init 0 = .ok (.aload_n 0, 1) := by decide +kernel
theorem dX9_init_1 : decode cX9_init 1 = .ok (.invokespecial 3, 3) := by decide +kernel
theorem dX9_init_4 : decode cX9_init 4 = .ok (.aload_n 0, 1) := by decide +kernel
theorem dX9_init_5 : decode cX9_init 5 = .ok (.bipush 8, 2) := by decide +kernel
theorem dX9_init_7 : decode cX9_init 7 = .ok (.newarray .long, 2) := by decide +kernel
theorem dX9_init_9 : decode cX9_init 9 = .ok (.putfield 9, 3) := by decide +kernel
theorem dX9_init_12 : decode cX9_init 12 = .ok (.aload_n 0, 1) := by decide +kernel
theorem dX9_init_13 : decode cX9_init 13 = .ok (.bipush 8, 2) := by decide +kernel
theorem dX9_init_15 : decode cX9_init 15 = .ok (.newarray .long, 2) := by decide +kernel
theorem dX9_init_17 : decode cX9_init 17 = .ok (.putfield 15, 3) := by decide +kernel
theorem dX9_init_20 : decode cX9_init 20 = .ok (.aload_n 0, 1) := by decide +kernel
theorem dX9_init_21 : decode cX9_init 21 = .ok (.bipush 6, 2) := by decide +kernel
theorem dX9_init_23 : decode cX9_init 23 = .ok (.newarray .long, 2) := by decide +kernel
theorem dX9_init_25 : decode cX9_init 25 = .ok (.putfield 18, 3) := by decide +kernel
theorem dX9_init_28 : decode cX9_init 28 = .ok (.aload_n 0, 1) := by decide +kernel
theorem dX9_init_29 : decode cX9_init 29 = .ok (.bipush 14, 2) := by decide +kernel
theorem dX9_init_31 : decode cX9_init 31 = .ok (.newarray .int, 2) := by decide +kernel
theorem dX9_init_33 : decode cX9_init 33 = .ok (.putfield 21, 3) := by decide +kernel
theorem dX9_init_36 : decode cX9_init 36 = .ok (.aload_n 0, 1) := by decide +kernel
theorem dX9_init_37 : decode cX9_init 37 = .ok (.bipush 14, 2) := by decide +kernel
theorem dX9_init_39 : decode cX9_init 39 = .ok (.newarray .int, 2) := by decide +kernel
theorem dX9_init_41 : decode cX9_init 41 = .ok (.putfield 25, 3) := by decide +kernel
theorem dX9_init_44 : decode cX9_init 44 = .ok (.aload_n 0, 1) := by decide +kernel
theorem dX9_init_45 : decode cX9_init 45 = .ok (.bipush 8, 2) := by decide +kernel
theorem dX9_init_47 : decode cX9_init 47 = .ok (.newarray .int, 2) := by decide +kernel
theorem dX9_init_49 : decode cX9_init 49 = .ok (.putfield 28, 3) := by decide +kernel
theorem dX9_init_52 : decode cX9_init 52 = .ok (.aload_n 0, 1) := by decide +kernel
theorem dX9_init_53 : decode cX9_init 53 = .ok (.bipush 6, 2) := by decide +kernel
theorem dX9_init_55 : decode cX9_init 55 = .ok (.newarray .int, 2) := by decide +kernel
theorem dX9_init_57 : decode cX9_init 57 = .ok (.putfield 31, 3) := by decide +kernel
theorem dX9_init_60 : decode cX9_init 60 = .ok (.aload_n 0, 1) := by decide +kernel
theorem dX9_init_61 : decode cX9_init 61 = .ok (.bipush 6, 2) := by decide +kernel
theorem dX9_init_63 : decode cX9_init 63 = .ok (.newarray .int, 2) := by decide +kernel
theorem dX9_init_65 : decode cX9_init 65 = .ok (.putfield 34, 3) := by decide +kernel
theorem dX9_init_68 : decode cX9_init 68 = .ok (.aload_n 0, 1) := by decide +kernel
theorem dX9_init_69 : decode cX9_init 69 = .ok (.new 37, 3) := by decide +kernel
theorem dX9_init_72 : decode cX9_init 72 = .ok (.dup, 1) := by decide +kernel
theorem dX9_init_73 : decode cX9_init 73 = .ok (.invokespecial 39, 3) := by decide +kernel
theorem dX9_init_76 : decode cX9_init 76 = .ok (.putfield 40, 3) := by decide +kernel
theorem dX9_init_79 : decode cX9_init 79 = .ok (.return_, 1) := by decide +kernel
theorem wd_175 : (Cond.code ⟨"WebCourt$Web", "<init>", "()V"⟩ prog_11_method_1_code (1 : Nat) (Option.none : Option FieldType)) ∈ gtb := gtb_c1 66 (by decide +kernel) rfl
theorem wd_176 : (Cond.methodLink "WebCourt$Web" (3 : Nat) ⟨"java/lang/Object", "<init>", "()V"⟩) ∈ gtb := gtb_c1 67 (by decide +kernel) rfl
theorem wd_219 : (Cond.arrayClass FieldType.long) ∈ gtb := gtb_c1 110 (by decide +kernel) rfl
theorem wd_221 : (Cond.fieldLink "WebCourt$Web" (9 : Nat) "WebCourt$Web" "knotNames" "[J") ∈ gtb := gtb_c1 112 (by decide +kernel) rfl
theorem wd_289 : (Cond.laysFinal "WebCourt$Web" "WebCourt$Web" "knotNames" "[J") ∈ gtb := gtb_c1 180 (by decide +kernel) rfl
theorem wd_291 : (Cond.laysFinal "WebCourt$Web" "WebCourt$Web" "pleaNames" "[J") ∈ gtb := gtb_c1 182 (by decide +kernel) rfl
theorem wd_293 : (Cond.laysFinal "WebCourt$Web" "WebCourt$Web" "caseNames" "[J") ∈ gtb := gtb_c1 184 (by decide +kernel) rfl
theorem wd_295 : (Cond.laysFinal "WebCourt$Web" "WebCourt$Web" "lineFrom" "[I") ∈ gtb := gtb_c1 186 (by decide +kernel) rfl
theorem wd_297 : (Cond.laysFinal "WebCourt$Web" "WebCourt$Web" "lineTo" "[I") ∈ gtb := gtb_c1 188 (by decide +kernel) rfl
theorem wd_299 : (Cond.laysFinal "WebCourt$Web" "WebCourt$Web" "strong" "[I") ∈ gtb := gtb_c1 190 (by decide +kernel) rfl
theorem wd_301 : (Cond.laysFinal "WebCourt$Web" "WebCourt$Web" "caseKnots" "[I") ∈ gtb := gtb_c1 192 (by decide +kernel) rfl
theorem wd_303 : (Cond.laysFinal "WebCourt$Web" "WebCourt$Web" "casePleas" "[I") ∈ gtb := gtb_c1 194 (by decide +kernel) rfl
theorem wd_305 : (Cond.laysFinal "WebCourt$Web" "WebCourt$Web" "law" "LWebCourt$Law;") ∈ gtb := gtb_c1 196 (by decide +kernel) rfl
theorem wd_307 : (Cond.lays "WebCourt$Web" "WebCourt$Web" "knots" "I") ∈ gtb := gtb_c1 198 (by decide +kernel) rfl
theorem wd_309 : (Cond.lays "WebCourt$Web" "WebCourt$Web" "lines" "I") ∈ gtb := gtb_c1 200 (by decide +kernel) rfl
theorem wd_311 : (Cond.lays "WebCourt$Web" "WebCourt$Web" "pleas" "I") ∈ gtb := gtb_c1 202 (by decide +kernel) rfl
theorem wd_313 : (Cond.lays "WebCourt$Web" "WebCourt$Web" "cases" "I") ∈ gtb := gtb_c1 204 (by decide +kernel) rfl
theorem wd_315 : (Cond.lays "WebCourt$Web" "WebCourt$Web" "sticky" "I") ∈ gtb := gtb_c1 206 (by decide +kernel) rfl
theorem wd_317 : (Cond.lays "WebCourt$Web" "WebCourt$Web" "bench" "I") ∈ gtb := gtb_c1 208 (by decide +kernel) rfl
theorem wd_319 : (Cond.lays "WebCourt$Web" "WebCourt$Web" "back" "I") ∈ gtb := gtb_c1 210 (by decide +kernel) rfl
theorem wd_321 : (Cond.lays "WebCourt$Web" "WebCourt$Web" "draw" "I") ∈ gtb := gtb_c1 212 (by decide +kernel) rfl
theorem wd_323 : (Cond.lays "WebCourt$Web" "WebCourt$Web" "toldOnce" "I") ∈ gtb := gtb_c1 214 (by decide +kernel) rfl
theorem inFX9 : ∀ w ∈ u_ws RX9 TX9 18, w ∈ gtb := by
  show ∀ w ∈ [u_lay RX9 TX9 0, u_lay RX9 TX9 1, u_lay RX9 TX9 2, u_lay RX9 TX9 3, u_lay RX9 TX9 4, u_lay RX9 TX9 5, u_lay RX9 TX9 6, u_lay RX9 TX9 7, u_lay RX9 TX9 8, u_lay RX9 TX9 9, u_lay RX9 TX9 10, u_lay RX9 TX9 11, u_lay RX9 TX9 12, u_lay RX9 TX9 13, u_lay RX9 TX9 14, u_lay RX9 TX9 15, u_lay RX9 TX9 16, u_lay RX9 TX9 17], w ∈ gtb
  exact List.forall_mem_cons.mpr ⟨wd_289, List.forall_mem_cons.mpr ⟨wd_291, List.forall_mem_cons.mpr ⟨wd_293, List.forall_mem_cons.mpr ⟨wd_295, List.forall_mem_cons.mpr ⟨wd_297, List.forall_mem_cons.mpr ⟨wd_299, List.forall_mem_cons.mpr ⟨wd_301, List.forall_mem_cons.mpr ⟨wd_303, List.forall_mem_cons.mpr ⟨wd_305, List.forall_mem_cons.mpr ⟨wd_307, List.forall_mem_cons.mpr ⟨wd_309, List.forall_mem_cons.mpr ⟨wd_311, List.forall_mem_cons.mpr ⟨wd_313, List.forall_mem_cons.mpr ⟨wd_315, List.forall_mem_cons.mpr ⟨wd_317, List.forall_mem_cons.mpr ⟨wd_319, List.forall_mem_cons.mpr ⟨wd_321, List.forall_mem_cons.mpr ⟨wd_323, fun _ h => absurd h List.not_mem_nil⟩⟩⟩⟩⟩⟩⟩⟩⟩⟩⟩⟩⟩⟩⟩⟩⟩⟩
theorem wd_223 : (Cond.fieldLink "WebCourt$Web" (15 : Nat) "WebCourt$Web" "pleaNames" "[J") ∈ gtb := gtb_c1 114 (by decide +kernel) rfl
theorem wd_225 : (Cond.fieldLink "WebCourt$Web" (18 : Nat) "WebCourt$Web" "caseNames" "[J") ∈ gtb := gtb_c1 116 (by decide +kernel) rfl
theorem wd_227 : (Cond.fieldLink "WebCourt$Web" (21 : Nat) "WebCourt$Web" "lineFrom" "[I") ∈ gtb := gtb_c1 118 (by decide +kernel) rfl
theorem wd_231 : (Cond.fieldLink "WebCourt$Web" (25 : Nat) "WebCourt$Web" "lineTo" "[I") ∈ gtb := gtb_c1 122 (by decide +kernel) rfl
theorem wd_235 : (Cond.fieldLink "WebCourt$Web" (28 : Nat) "WebCourt$Web" "strong" "[I") ∈ gtb := gtb_c1 126 (by decide +kernel) rfl
theorem wd_238 : (Cond.fieldLink "WebCourt$Web" (31 : Nat) "WebCourt$Web" "caseKnots" "[I") ∈ gtb := gtb_c1 129 (by decide +kernel) rfl
theorem wd_243 : (Cond.fieldLink "WebCourt$Web" (34 : Nat) "WebCourt$Web" "casePleas" "[I") ∈ gtb := gtb_c1 134 (by decide +kernel) rfl
theorem wd_177 : (Cond.classLink "WebCourt$Web" (37 : Nat) "WebCourt$Law") ∈ gtb := gtb_c1 68 (by decide +kernel) rfl
theorem wd_178 : (Cond.instantiable "WebCourt$Law" (11 : Nat)) ∈ gtb := gtb_c1 69 (by decide +kernel) rfl
theorem wd_113 : (Cond.initialized "WebCourt$Law") ∈ gtb := gtb_c1 4 (by decide +kernel) rfl
theorem hd_yX4_init : yX4_init.cls ≠ "java/lang/invoke/MethodHandle" ∧ yX4_init.cls ≠ "java/lang/invoke/VarHandle" ∧ (parseMethodDescriptor yX4_init.desc).map (fun d => d.parameters.length) = some 0 := by decide +kernel
theorem wd_180 : (Cond.instanceMethod ⟨"WebCourt$Law", "<init>", "()V"⟩) ∈ gtb := gtb_c1 71 (by decide +kernel) rfl
theorem wd_247 : (Cond.fieldLink "WebCourt$Web" (40 : Nat) "WebCourt$Web" "law" "LWebCourt$Law;") ∈ gtb := gtb_c1 138 (by decide +kernel) rfl
set_option maxHeartbeats 8000000 in
set_option maxRecDepth 100000 in
theorem K_X9 (l : Launch) (D : va_G) (cy : Nat → ClassId) (h0 : Nat) : Mc (S := Nat → Nat) l D cy yX9_init (.code yX9_init cX9_init 1 none) { frames := 2, cells := 11, slots := 412, locals := 40 } [.ref h0] [(h0, .inr (9, [.null, .null, .null, .null, .null, .null, .null, .null, .null, .int 0, .int 0, .int 0, .int 0, .int 0, .int 0, .int 0, .int 0, .int 0]))] (fun q => [(h0, .inr (9, [.ref (q 0), .ref (q 1), .ref (q 2), .ref (q 3), .ref (q 4), .ref (q 5), .ref (q 6), .ref (q 7), .ref (q 8), .int 0, .int 0, .int 0, .int 0, .int 0, .int 0, .int 0, .int 0, .int 0])), ((q 0), .inl (cy 2, 8, .inr (.inl (fun _ => 0)))), ((q 1), .inl (cy 2, 8, .inr (.inl (fun _ => 0)))), ((q 2), .inl (cy 2, 6, .inr (.inl (fun _ => 0)))), ((q 3), .inl (cy 1, 14, .inl (fun _ => 0))), ((q 4), .inl (cy 1, 14, .inl (fun _ => 0))), ((q 5), .inl (cy 1, 8, .inl (fun _ => 0))), ((q 6), .inl (cy 1, 6, .inl (fun _ => 0))), ((q 7), .inl (cy 1, 6, .inl (fun _ => 0))), ((q 8), .inr (4, [.ref (q 9), .ref (q 10), .int 0, .int 0, .int 0, .int 0, .int 0, .int 0, .int 0, .int 0, .int 0])), ((q 9), .inl (cy 1, 300, .inl (fun _ => 0))), ((q 10), .inl (cy 1, 31, .inl (fun _ => 0)))]) (fun _ => True) 11 412 := by
  refine Mc.of (own := RX9) rfl rfl (by decide) (Nat.le_of_ble_eq_true rfl) ?_
  intro p e s m below meth c A Q ls C hQ hin hret hO hl
  obtain ⟨hx, hb, hml, hown, ht, hK, hA⟩ := id C
  have hl : lv_has ls 1 [(0, .ref h0)] := hl
  have hO : Wo D A ([(h0, .inr (9, [.null, .null, .null, .null, .null, .null, .null, .null, .null, .int 0, .int 0, .int 0, .int 0, .int 0, .int 0, .int 0, .int 0, .int 0]))] ++ ([] : va_W)) s.heap s.heap [] := hO
  refine lv_aload_n hx hb dX9_init_0 rfl (lv_at hl 0 rfl) ?_
  refine oI C wd_176 wd_135 wd_136 hl.1 dX9_init_1 (Nat.le_of_ble_eq_true rfl) (Nat.le_of_ble_eq_true rfl) ?_
  refine lv_aload_n hx hb dX9_init_4 rfl (lv_at hl 0 rfl) ?_
  refine lv_bipush (v := 8) hx hb dX9_init_5 (by decide) ?_
  refine nAJ (N := 8) C hO wd_219 (by decide) rfl (Nat.le_of_ble_eq_true rfl) (Nat.le_of_ble_eq_true rfl) (Nat.le_of_ble_eq_true rfl) dX9_init_7 (fun q1 H hO => ?_)
  have hO := hO.swap
  have hO : Wo D A ([(h0, .inr (9, [.null, .null, .null, .null, .null, .null, .null, .null, .null, .int 0, .int 0, .int 0, .int 0, .int 0, .int 0, .int 0, .int 0, .int 0])), (q1, .inl (cy 2, 8, .inr (.inl (fun _ => 0))))] ++ ([] : va_W)) s.heap H [] := hO
  refine pFF (k := 0) (ws' := [(h0, .inr (9, [.ref q1, .null, .null, .null, .null, .null, .null, .null, .null, .int 0, .int 0, .int 0, .int 0, .int 0, .int 0, .int 0, .int 0, .int 0])), (q1, .inl (cy 2, 8, .inr (.inl (fun _ => 0))))] ++ ([] : va_W)) (ty := tyX9 0) (v := .ref q1) C hin hO 0 rfl rfl inFX9 (by decide) wd_221 rfl rfl tyX9 tyX9_ok nmX9 rfl (by decide +kernel) rfl rfl (Nat.le_of_ble_eq_true rfl) rfl dX9_init_9 (fun H locs hO => ?_)
  refine lv_aload_n hx hb dX9_init_12 rfl (lv_at hl 0 rfl) ?_
  refine lv_bipush (v := 8) hx hb dX9_init_13 (by decide) ?_
  refine nAJ (N := 8) C hO wd_219 (by decide) rfl (Nat.le_of_ble_eq_true rfl) (Nat.le_of_ble_eq_true rfl) (Nat.le_of_ble_eq_true rfl) dX9_init_15 (fun q2 H hO => ?_)
  have hO := hO.swap
  have hO : Wo D A ([(h0, .inr (9, [.ref q1, .null, .null, .null, .null, .null, .null, .null, .null, .int 0, .int 0, .int 0, .int 0, .int 0, .int 0, .int 0, .int 0, .int 0])), (q1, .inl (cy 2, 8, .inr (.inl (fun _ => 0)))), (q2, .inl (cy 2, 8, .inr (.inl (fun _ => 0))))] ++ ([] : va_W)) s.heap H locs := hO
  refine pFF (k := 1) (ws' := [(h0, .inr (9, [.ref q1, .ref q2, .null, .null, .null, .null, .null, .null, .null, .int 0, .int 0, .int 0, .int 0, .int 0, .int 0, .int 0, .int 0, .int 0])), (q1, .inl (cy 2, 8, .inr (.inl (fun _ => 0)))), (q2, .inl (cy 2, 8, .inr (.inl (fun _ => 0))))] ++ ([] : va_W)) (ty := tyX9 1) (v := .ref q2) C hin hO 0 rfl rfl inFX9 (by decide) wd_223 rfl rfl tyX9 tyX9_ok nmX9 rfl (by decide +kernel) rfl rfl (Nat.le_of_ble_eq_true rfl) rfl dX9_init_17 (fun H locs hO => ?_)
  refine lv_aload_n hx hb dX9_init_20 rfl (lv_at hl 0 rfl) ?_
  refine lv_bipush (v := 6) hx hb dX9_init_21 (by decide) ?_
  refine nAJ (N := 6) C hO wd_219 (by decide) rfl (Nat.le_of_ble_eq_true rfl) (Nat.le_of_ble_eq_true rfl) (Nat.le_of_ble_eq_true rfl) dX9_init_23 (fun q3 H hO => ?_)
  have hO := hO.swap
  have hO : Wo D A ([(h0, .inr (9, [.ref q1, .ref q2, .null, .null, .null, .null, .null, .null, .null, .int 0, .int 0, .int 0, .int 0, .int 0, .int 0, .int 0, .int 0, .int 0])), (q1, .inl (cy 2, 8, .inr (.inl (fun _ => 0)))), (q2, .inl (cy 2, 8, .inr (.inl (fun _ => 0)))), (q3, .inl (cy 2, 6, .inr (.inl (fun _ => 0))))] ++ ([] : va_W)) s.heap H locs := hO
  refine pFF (k := 2) (ws' := [(h0, .inr (9, [.ref q1, .ref q2, .ref q3, .null, .null, .null, .null, .null, .null, .int 0, .int 0, .int 0, .int 0, .int 0, .int 0, .int 0, .int 0, .int 0])), (q1, .inl (cy 2, 8, .inr (.inl (fun _ => 0)))), (q2, .inl (cy 2, 8, .inr (.inl (fun _ => 0)))), (q3, .inl (cy 2, 6, .inr (.inl (fun _ => 0))))] ++ ([] : va_W)) (ty := tyX9 2) (v := .ref q3) C hin hO 0 rfl rfl inFX9 (by decide) wd_225 rfl rfl tyX9 tyX9_ok nmX9 rfl (by decide +kernel) rfl rfl (Nat.le_of_ble_eq_true rfl) rfl dX9_init_25 (fun H locs hO => ?_)
  refine lv_aload_n hx hb dX9_init_28 rfl (lv_at hl 0 rfl) ?_
  refine lv_bipush (v := 14) hx hb dX9_init_29 (by decide) ?_
  refine nAI (N := 14) C hO wd_220 (by decide) rfl (Nat.le_of_ble_eq_true rfl) (Nat.le_of_ble_eq_true rfl) (Nat.le_of_ble_eq_true rfl) dX9_init_31 (fun q4 H hO => ?_)
  have hO := hO.swap
  have hO : Wo D A ([(h0, .inr (9, [.ref q1, .ref q2, .ref q3, .null, .null, .null, .null, .null, .null, .int 0, .int 0, .int 0, .int 0, .int 0, .int 0, .int 0, .int 0, .int 0])), (q1, .inl (cy 2, 8, .inr (.inl (fun _ => 0)))), (q2, .inl (cy 2, 8, .inr (.inl (fun _ => 0)))), (q3, .inl (cy 2, 6, .inr (.inl (fun _ => 0)))), (q4, .inl (cy 1, 14, .inl (fun _ => 0)))] ++ ([] : va_W)) s.heap H locs := hO
  refine pFF (k := 3) (ws' := [(h0, .inr (9, [.ref q1, .ref q2, .ref q3, .ref q4, .null, .null, .null, .null, .null, .int 0, .int 0, .int 0, .int 0, .int 0, .int 0, .int 0, .int 0, .int 0])), (q1, .inl (cy 2, 8, .inr (.inl (fun _ => 0)))), (q2, .inl (cy 2, 8, .inr (.inl (fun _ => 0)))), (q3, .inl (cy 2, 6, .inr (.inl (fun _ => 0)))), (q4, .inl (cy 1, 14, .inl (fun _ => 0)))] ++ ([] : va_W)) (ty := tyX9 3) (v := .ref q4) C hin hO 0 rfl rfl inFX9 (by decide) wd_227 rfl rfl tyX9 tyX9_ok nmX9 rfl (by decide +kernel) rfl rfl (Nat.le_of_ble_eq_true rfl) rfl dX9_init_33 (fun H locs hO => ?_)
  refine lv_aload_n hx hb dX9_init_36 rfl (lv_at hl 0 rfl) ?_
  refine lv_bipush (v := 14) hx hb dX9_init_37 (by decide) ?_
  refine nAI (N := 14) C hO wd_220 (by decide) rfl (Nat.le_of_ble_eq_true rfl) (Nat.le_of_ble_eq_true rfl) (Nat.le_of_ble_eq_true rfl) dX9_init_39 (fun q5 H hO => ?_)
  have hO := hO.swap
  have hO : Wo D A ([(h0, .inr (9, [.ref q1, .ref q2, .ref q3, .ref q4, .null, .null, .null, .null, .null, .int 0, .int 0, .int 0, .int 0, .int 0, .int 0, .int 0, .int 0, .int 0])), (q1, .inl (cy 2, 8, .inr (.inl (fun _ => 0)))), (q2, .inl (cy 2, 8, .inr (.inl (fun _ => 0)))), (q3, .inl (cy 2, 6, .inr (.inl (fun _ => 0)))), (q4, .inl (cy 1, 14, .inl (fun _ => 0))), (q5, .inl (cy 1, 14, .inl (fun _ => 0)))] ++ ([] : va_W)) s.heap H locs := hO
  refine pFF (k := 4) (ws' := [(h0, .inr (9, [.ref q1, .ref q2, .ref q3, .ref q4, .ref q5, .null, .null, .null, .null, .int 0, .int 0, .int 0, .int 0, .int 0, .int 0, .int 0, .int 0, .int 0])), (q1, .inl (cy 2, 8, .inr (.inl (fun _ => 0)))), (q2, .inl (cy 2, 8, .inr (.inl (fun _ => 0)))), (q3, .inl (cy 2, 6, .inr (.inl (fun _ => 0)))), (q4, .inl (cy 1, 14, .inl (fun _ => 0))), (q5, .inl (cy 1, 14, .inl (fun _ => 0)))] ++ ([] : va_W)) (ty := tyX9 4) (v := .ref q5) C hin hO 0 rfl rfl inFX9 (by decide) wd_231 rfl rfl tyX9 tyX9_ok nmX9 rfl (by decide +kernel) rfl rfl (Nat.le_of_ble_eq_true rfl) rfl dX9_init_41 (fun H locs hO => ?_)
  refine lv_aload_n hx hb dX9_init_44 rfl (lv_at hl 0 rfl) ?_
  refine lv_bipush (v := 8) hx hb dX9_init_45 (by decide) ?_
  refine nAI (N := 8) C hO wd_220 (by decide) rfl (Nat.le_of_ble_eq_true rfl) (Nat.le_of_ble_eq_true rfl) (Nat.le_of_ble_eq_true rfl) dX9_init_47 (fun q6 H hO => ?_)
  have hO := hO.swap
  have hO : Wo D A ([(h0, .inr (9, [.ref q1, .ref q2, .ref q3, .ref q4, .ref q5, .null, .null, .null, .null, .int 0, .int 0, .int 0, .int 0, .int 0, .int 0, .int 0, .int 0, .int 0])), (q1, .inl (cy 2, 8, .inr (.inl (fun _ => 0)))), (q2, .inl (cy 2, 8, .inr (.inl (fun _ => 0)))), (q3, .inl (cy 2, 6, .inr (.inl (fun _ => 0)))), (q4, .inl (cy 1, 14, .inl (fun _ => 0))), (q5, .inl (cy 1, 14, .inl (fun _ => 0))), (q6, .inl (cy 1, 8, .inl (fun _ => 0)))] ++ ([] : va_W)) s.heap H locs := hO
  refine pFF (k := 5) (ws' := [(h0, .inr (9, [.ref q1, .ref q2, .ref q3, .ref q4, .ref q5, .ref q6, .null, .null, .null, .int 0, .int 0, .int 0, .int 0, .int 0, .int 0, .int 0, .int 0, .int 0])), (q1, .inl (cy 2, 8, .inr (.inl (fun _ => 0)))), (q2, .inl (cy 2, 8, .inr (.inl (fun _ => 0)))), (q3, .inl (cy 2, 6, .inr (.inl (fun _ => 0)))), (q4, .inl (cy 1, 14, .inl (fun _ => 0))), (q5, .inl (cy 1, 14, .inl (fun _ => 0))), (q6, .inl (cy 1, 8, .inl (fun _ => 0)))] ++ ([] : va_W)) (ty := tyX9 5) (v := .ref q6) C hin hO 0 rfl rfl inFX9 (by decide) wd_235 rfl rfl tyX9 tyX9_ok nmX9 rfl (by decide +kernel) rfl rfl (Nat.le_of_ble_eq_true rfl) rfl dX9_init_49 (fun H locs hO => ?_)
  refine lv_aload_n hx hb dX9_init_52 rfl (lv_at hl 0 rfl) ?_
  refine lv_bipush (v := 6) hx hb dX9_init_53 (by decide) ?_
  refine nAI (N := 6) C hO wd_220 (by decide) rfl (Nat.le_of_ble_eq_true rfl) (Nat.le_of_ble_eq_true rfl) (Nat.le_of_ble_eq_true rfl) dX9_init_55 (fun q7 H hO => ?_)
  have hO := hO.swap
  have hO : Wo D A ([(h0, .inr (9, [.ref q1, .ref q2, .ref q3, .ref q4, .ref q5, .ref q6, .null, .null, .null, .int 0, .int 0, .int 0, .int 0, .int 0, .int 0, .int 0, .int 0, .int 0])), (q1, .inl (cy 2, 8, .inr (.inl (fun _ => 0)))), (q2, .inl (cy 2, 8, .inr (.inl (fun _ => 0)))), (q3, .inl (cy 2, 6, .inr (.inl (fun _ => 0)))), (q4, .inl (cy 1, 14, .inl (fun _ => 0))), (q5, .inl (cy 1, 14, .inl (fun _ => 0))), (q6, .inl (cy 1, 8, .inl (fun _ => 0))), (q7, .inl (cy 1, 6, .inl (fun _ => 0)))] ++ ([] : va_W)) s.heap H locs := hO
  refine pFF (k := 6) (ws' := [(h0, .inr (9, [.ref q1, .ref q2, .ref q3, .ref q4, .ref q5, .ref q6, .ref q7, .null, .null, .int 0, .int 0, .int 0, .int 0, .int 0, .int 0, .int 0, .int 0, .int 0])), (q1, .inl (cy 2, 8, .inr (.inl (fun _ => 0)))), (q2, .inl (cy 2, 8, .inr (.inl (fun _ => 0)))), (q3, .inl (cy 2, 6, .inr (.inl (fun _ => 0)))), (q4, .inl (cy 1, 14, .inl (fun _ => 0))), (q5, .inl (cy 1, 14, .inl (fun _ => 0))), (q6, .inl (cy 1, 8, .inl (fun _ => 0))), (q7, .inl (cy 1, 6, .inl (fun _ => 0)))] ++ ([] : va_W)) (ty := tyX9 6) (v := .ref q7) C hin hO 0 rfl rfl inFX9 (by decide) wd_238 rfl rfl tyX9 tyX9_ok nmX9 rfl (by decide +kernel) rfl rfl (Nat.le_of_ble_eq_true rfl) rfl dX9_init_57 (fun H locs hO => ?_)
  refine lv_aload_n hx hb dX9_init_60 rfl (lv_at hl 0 rfl) ?_
  refine lv_bipush (v := 6) hx hb dX9_init_61 (by decide) ?_
  refine nAI (N := 6) C hO wd_220 (by decide) rfl (Nat.le_of_ble_eq_true rfl) (Nat.le_of_ble_eq_true rfl) (Nat.le_of_ble_eq_true rfl) dX9_init_63 (fun q8 H hO => ?_)
  have hO := hO.swap
  have hO : Wo D A ([(h0, .inr (9, [.ref q1, .ref q2, .ref q3, .ref q4, .ref q5, .ref q6, .ref q7, .null, .null, .int 0, .int 0, .int 0, .int 0, .int 0, .int 0, .int 0, .int 0, .int 0])), (q1, .inl (cy 2, 8, .inr (.inl (fun _ => 0)))), (q2, .inl (cy 2, 8, .inr (.inl (fun _ => 0)))), (q3, .inl (cy 2, 6, .inr (.inl (fun _ => 0)))), (q4, .inl (cy 1, 14, .inl (fun _ => 0))), (q5, .inl (cy 1, 14, .inl (fun _ => 0))), (q6, .inl (cy 1, 8, .inl (fun _ => 0))), (q7, .inl (cy 1, 6, .inl (fun _ => 0))), (q8, .inl (cy 1, 6, .inl (fun _ => 0)))] ++ ([] : va_W)) s.heap H locs := hO
  refine pFF (k := 7) (ws' := [(h0, .inr (9, [.ref q1, .ref q2, .ref q3, .ref q4, .ref q5, .ref q6, .ref q7, .ref q8, .null, .int 0, .int 0, .int 0, .int 0, .int 0, .int 0, .int 0, .int 0, .int 0])), (q1, .inl (cy 2, 8, .inr (.inl (fun _ => 0)))), (q2, .inl (cy 2, 8, .inr (.inl (fun _ => 0)))), (q3, .inl (cy 2, 6, .inr (.inl (fun _ => 0)))), (q4, .inl (cy 1, 14, .inl (fun _ => 0))), (q5, .inl (cy 1, 14, .inl (fun _ => 0))), (q6, .inl (cy 1, 8, .inl (fun _ => 0))), (q7, .inl (cy 1, 6, .inl (fun _ => 0))), (q8, .inl (cy 1, 6, .inl (fun _ => 0)))] ++ ([] : va_W)) (ty := tyX9 7) (v := .ref q8) C hin hO 0 rfl rfl inFX9 (by decide) wd_243 rfl rfl tyX9 tyX9_ok nmX9 rfl (by decide +kernel) rfl rfl (Nat.le_of_ble_eq_true rfl) rfl dX9_init_65 (fun H locs hO => ?_)
  refine lv_aload_n hx hb dX9_init_68 rfl (lv_at hl 0 rfl) ?_
  refine nOb (ci := 4) (fs := [.null, .null, .int 0, .int 0, .int 0, .int 0, .int 0, .int 0, .int 0, .int 0, .int 0]) C hO inFX4 tyX4 tyX4_ok wd_177 wd_178 wd_113 rfl (fun j hj => by rcases (show j = 0 ∨ j = 1 ∨ j = 2 ∨ j = 3 ∨ j = 4 ∨ j = 5 ∨ j = 6 ∨ j = 7 ∨ j = 8 ∨ j = 9 ∨ j = 10 by omega) with rfl | rfl | rfl | rfl | rfl | rfl | rfl | rfl | rfl | rfl | rfl <;> rfl) (Nat.le_of_ble_eq_true rfl) (Nat.le_of_ble_eq_true rfl) dX9_init_69 (fun q9 H hO => ?_)
  have hO := hO.swap
  have hO : Wo D A ([(h0, .inr (9, [.ref q1, .ref q2, .ref q3, .ref q4, .ref q5, .ref q6, .ref q7, .ref q8, .null, .int 0, .int 0, .int 0, .int 0, .int 0, .int 0, .int 0, .int 0, .int 0])), (q1, .inl (cy 2, 8, .inr (.inl (fun _ => 0)))), (q2, .inl (cy 2, 8, .inr (.inl (fun _ => 0)))), (q3, .inl (cy 2, 6, .inr (.inl (fun _ => 0)))), (q4, .inl (cy 1, 14, .inl (fun _ => 0))), (q5, .inl (cy 1, 14, .inl (fun _ => 0))), (q6, .inl (cy 1, 8, .inl (fun _ => 0))), (q7, .inl (cy 1, 6, .inl (fun _ => 0))), (q8, .inl (cy 1, 6, .inl (fun _ => 0))), (q9, .inr (4, [.null, .null, .int 0, .int 0, .int 0, .int 0, .int 0, .int 0, .int 0, .int 0, .int 0]))] ++ ([] : va_W)) s.heap H locs := hO
  refine lv_dup hx hb dX9_init_72 rfl ?_
  refine dIN (As := []) (rest := [.ref q9, .ref h0]) (wc := [(q9, .inr (4, [.null, .null, .int 0, .int 0, .int 0, .int 0, .int 0, .int 0, .int 0, .int 0, .int 0]))]) (wr := [(h0, .inr (9, [.ref q1, .ref q2, .ref q3, .ref q4, .ref q5, .ref q6, .ref q7, .ref q8, .null, .int 0, .int 0, .int 0, .int 0, .int 0, .int 0, .int 0, .int 0, .int 0])), (q1, .inl (cy 2, 8, .inr (.inl (fun _ => 0)))), (q2, .inl (cy 2, 8, .inr (.inl (fun _ => 0)))), (q3, .inl (cy 2, 6, .inr (.inl (fun _ => 0)))), (q4, .inl (cy 1, 14, .inl (fun _ => 0))), (q5, .inl (cy 1, 14, .inl (fun _ => 0))), (q6, .inl (cy 1, 8, .inl (fun _ => 0))), (q7, .inl (cy 1, 6, .inl (fun _ => 0))), (q8, .inl (cy 1, 6, .inl (fun _ => 0)))]) C hQ hO [9] [0, 1, 2, 3, 4, 5, 6, 7, 8] rfl rfl (by decide) (by decide) (by decide) (K_X4 l D cy q9) ⟨va_cnB (host := "WebCourt") 0 ht (gGood wd_181) rfl rfl rfl hQ.2.2.2.1 (ht _ wd_113) hd_yX4_init ⟨Nat.le_of_ble_eq_true rfl, Nat.le_of_ble_eq_true rfl⟩, rfl, ht _ wd_180⟩ rfl hl.1 (Nat.le_of_ble_eq_true rfl) dX9_init_73 rfl ⟨Nat.le_of_ble_eq_true rfl, Nat.le_of_ble_eq_true rfl⟩ (fun u10 H locs h_u10 hO => ?_)
  have hO : Wo D A ([(h0, .inr (9, [.ref q1, .ref q2, .ref q3, .ref q4, .ref q5, .ref q6, .ref q7, .ref q8, .null, .int 0, .int 0, .int 0, .int 0, .int 0, .int 0, .int 0, .int 0, .int 0])), (q1, .inl (cy 2, 8, .inr (.inl (fun _ => 0)))), (q2, .inl (cy 2, 8, .inr (.inl (fun _ => 0)))), (q3, .inl (cy 2, 6, .inr (.inl (fun _ => 0)))), (q4, .inl (cy 1, 14, .inl (fun _ => 0))), (q5, .inl (cy 1, 14, .inl (fun _ => 0))), (q6, .inl (cy 1, 8, .inl (fun _ => 0))), (q7, .inl (cy 1, 6, .inl (fun _ => 0))), (q8, .inl (cy 1, 6, .inl (fun _ => 0))), (q9, .inr (4, [.ref (u10 0), .ref (u10 1), .int 0, .int 0, .int 0, .int 0, .int 0, .int 0, .int 0, .int 0, .int 0])), ((u10 0), .inl (cy 1, 300, .inl (fun _ => 0))), ((u10 1), .inl (cy 1, 31, .inl (fun _ => 0)))] ++ ([] : va_W)) s.heap H locs := hO
  refine pFF (k := 8) (ws' := [(h0, .inr (9, [.ref q1, .ref q2, .ref q3, .ref q4, .ref q5, .ref q6, .ref q7, .ref q8, .ref q9, .int 0, .int 0, .int 0, .int 0, .int 0, .int 0, .int 0, .int 0, .int 0])), (q1, .inl (cy 2, 8, .inr (.inl (fun _ => 0)))), (q2, .inl (cy 2, 8, .inr (.inl (fun _ => 0)))), (q3, .inl (cy 2, 6, .inr (.inl (fun _ => 0)))), (q4, .inl (cy 1, 14, .inl (fun _ => 0))), (q5, .inl (cy 1, 14, .inl (fun _ => 0))), (q6, .inl (cy 1, 8, .inl (fun _ => 0))), (q7, .inl (cy 1, 6, .inl (fun _ => 0))), (q8, .inl (cy 1, 6, .inl (fun _ => 0))), (q9, .inr (4, [.ref (u10 0), .ref (u10 1), .int 0, .int 0, .int 0, .int 0, .int 0, .int 0, .int 0, .int 0, .int 0])), ((u10 0), .inl (cy 1, 300, .inl (fun _ => 0))), ((u10 1), .inl (cy 1, 31, .inl (fun _ => 0)))] ++ ([] : va_W)) (ty := tyX9 8) (v := .ref q9) C hin hO 0 rfl rfl inFX9 (by decide) wd_247 rfl rfl tyX9 tyX9_ok nmX9 rfl (by decide +kernel) rfl rfl (Nat.le_of_ble_eq_true rfl) rfl dX9_init_76 (fun H locs hO => ?_)
  exact hret (fun i => ([q1, q2, q3, q4, q5, q6, q7, q8, q9, (u10 0), (u10 1)] : List Nat).getD i 0) _ _ _ _ dX9_init_79 trivial hO
theorem dX5_init_0 : decode cX5_init 0 = .ok (.aload_n 0, 1) := by decide +kernel
theorem dX5_init_1 : decode cX5_init 1 = .ok (.invokespecial 3, 3) := by decide +kernel
theorem dX5_init_4 : decode cX5_init 4 = .ok (.aload_n 0, 1) := by decide +kernel
theorem dX5_init_5 : decode cX5_init 5 = .ok (.aload_n 1, 1) := by decide +kernel
theorem dX5_init_6 : decode cX5_init 6 = .ok (.putfield 9, 3) := by decide +kernel
theorem dX5_init_9 : decode cX5_init 9 = .ok (.aload_n 0, 1) := by decide +kernel
theorem dX5_init_10 : decode cX5_init 10 = .ok (.aload_n 2, 1) := by decide +kernel
theorem dX5_init_11 : decode cX5_init 11 = .ok (.putfield 15, 3) := by decide +kernel
theorem dX5_init_14 : decode cX5_init 14 = .ok (.aload_n 0, 1) := by decide +kernel
theorem dX5_init_15 : decode cX5_init 15 = .ok (.iconst (-1), 1) := by decide +kernel
theorem dX5_init_16 : decode cX5_init 16 = .ok (.putfield 19, 3) := by decide +kernel
theorem dX5_init_19 : decode cX5_init 19 = .ok (.return_, 1) := by decide +kernel
theorem wd_330 : (Cond.code ⟨"WebCourt$Reader", "<init>", "(LWebCourt$Tape;LWebCourt$Web;)V"⟩ prog_7_method_1_code (3 : Nat) (Option.none : Option FieldType)) ∈ gtb := gtb_c1 221 (by decide +kernel) rfl
theorem wd_331 : (Cond.methodLink "WebCourt$Reader" (3 : Nat) ⟨"java/lang/Object", "<init>", "()V"⟩) ∈ gtb := gtb_c1 222 (by decide +kernel) rfl
theorem wd_332 : (Cond.fieldLink "WebCourt$Reader" (9 : Nat) "WebCourt$Reader" "tape" "LWebCourt$Tape;") ∈ gtb := gtb_c1 223 (by decide +kernel) rfl
theorem wd_338 : (Cond.laysFinal "WebCourt$Reader" "WebCourt$Reader" "tape" "LWebCourt$Tape;") ∈ gtb := gtb_c1 229 (by decide +kernel) rfl
theorem wd_340 : (Cond.lays "WebCourt$Reader" "WebCourt$Reader" "web" "LWebCourt$Web;") ∈ gtb := gtb_c1 231 (by decide +kernel) rfl
theorem wd_342 : (Cond.lays "WebCourt$Reader" "WebCourt$Reader" "fault" "I") ∈ gtb := gtb_c1 233 (by decide +kernel) rfl
theorem wd_344 : (Cond.lays "WebCourt$Reader" "WebCourt$Reader" "place" "I") ∈ gtb := gtb_c1 235 (by decide +kernel) rfl
theorem inFX5 : ∀ w ∈ u_ws RX5 TX5 4, w ∈ gtb := by
  show ∀ w ∈ [u_lay RX5 TX5 0, u_lay RX5 TX5 1, u_lay RX5 TX5 2, u_lay RX5 TX5 3], w ∈ gtb
  exact List.forall_mem_cons.mpr ⟨wd_338, List.forall_mem_cons.mpr ⟨wd_340, List.forall_mem_cons.mpr ⟨wd_342, List.forall_mem_cons.mpr ⟨wd_344, fun _ h => absurd h List.not_mem_nil⟩⟩⟩⟩
theorem wd_333 : (Cond.fieldLink "WebCourt$Reader" (15 : Nat) "WebCourt$Reader" "web" "LWebCourt$Web;") ∈ gtb := gtb_c1 224 (by decide +kernel) rfl
theorem wd_336 : (Cond.fieldLink "WebCourt$Reader" (19 : Nat) "WebCourt$Reader" "place" "I") ∈ gtb := gtb_c1 227 (by decide +kernel) rfl
set_option maxHeartbeats 8000000 in
set_option maxRecDepth 100000 in
theorem K_X5 (l : Launch) (D : va_G) (cy : Nat → ClassId) (h0 t1 t2 : Nat) : Mc (S := Nat → Nat) l D cy yX5_init (.code yX5_init cX5_init 3 none) { frames := 1, cells := 0, slots := 0, locals := 20 } [.ref h0, .ref t1, .ref t2] [(h0, .inr (5, [.null, .null, .int 0, .int 0]))] (fun q => [(h0, .inr (5, [.ref t1, .ref t2, .int 0, .int (-1)]))]) (fun _ => True) 0 0 := by
  refine Mc.of (own := RX5) rfl rfl (by decide) (Nat.le_of_ble_eq_true rfl) ?_
  intro p e s m below meth c A Q ls C hQ hin hret hO hl
  obtain ⟨hx, hb, hml, hown, ht, hK, hA⟩ := id C
  have hl : lv_has ls 3 [(0, .ref h0), (1, .ref t1), (2, .ref t2)] := hl
  have hO : Wo D A ([(h0, .inr (5, [.null, .null, .int 0, .int 0]))] ++ ([] : va_W)) s.heap s.heap [] := hO
  refine lv_aload_n hx hb dX5_init_0 rfl (lv_at hl 0 rfl) ?_
  refine oI C wd_331 wd_135 wd_136 hl.1 dX5_init_1 (Nat.le_of_ble_eq_true rfl) (Nat.le_of_ble_eq_true rfl) ?_
  refine lv_aload_n hx hb dX5_init_4 rfl (lv_at hl 0 rfl) ?_
  refine lv_aload_n hx hb dX5_init_5 rfl (lv_at hl 1 rfl) ?_
  refine pFF (k := 0) (ws' := [(h0, .inr (5, [.ref t1, .null, .int 0, .int 0]))] ++ ([] : va_W)) (ty := tyX5 0) (v := .ref t1) C hin hO 0 rfl rfl inFX5 (by decide) wd_332 rfl rfl tyX5 tyX5_ok nmX5 rfl (by decide +kernel) rfl rfl (Nat.le_of_ble_eq_true rfl) rfl dX5_init_6 (fun H locs hO => ?_)
  refine lv_aload_n hx hb dX5_init_9 rfl (lv_at hl 0 rfl) ?_
  refine lv_aload_n hx hb dX5_init_10 rfl (lv_at hl 2 rfl) ?_
  refine pF (k := 1) (ws' := [(h0, .inr (5, [.ref t1, .ref t2, .int 0, .int 0]))] ++ ([] : va_W)) (ty := tyX5 1) (v := .ref t2) C hO 0 rfl rfl inFX5 (by decide) wd_333 rfl tyX5 tyX5_ok nmX5 rfl (by decide +kernel) rfl rfl (Nat.le_of_ble_eq_true rfl) rfl dX5_init_11 (fun H locs hO => ?_)
  refine lv_aload_n hx hb dX5_init_14 rfl (lv_at hl 0 rfl) ?_
  refine lv_iconst (v := (-1)) hx hb dX5_init_15 (by decide) ?_
  refine pF (k := 3) (ws' := [(h0, .inr (5, [.ref t1, .ref t2, .int 0, .int (-1)]))] ++ ([] : va_W)) (ty := tyX5 3) (v := .int (-1)) C hO 0 rfl rfl inFX5 (by decide) wd_336 rfl tyX5 tyX5_ok nmX5 rfl (by decide +kernel) rfl rfl (Nat.le_of_ble_eq_true rfl) rfl dX5_init_16 (fun H locs hO => ?_)
  exact hret (fun i => ([] : List Nat).getD i 0) _ _ _ _ dX5_init_19 trivial hO
theorem dX2_init_0 : decode cX2_init 0 = .ok (.aload_n 0, 1) := by decide +kernel
theorem dX2_init_1 : decode cX2_init 1 = .ok (.invokespecial 3, 3) := by decide +kernel
theorem dX2_init_4 : decode cX2_init 4 = .ok (.aload_n 0, 1) := by decide +kernel
theorem dX2_init_5 : decode cX2_init 5 = .ok (.bipush 29, 2) := by decide +kernel
theorem dX2_init_7 : decode cX2_init 7 = .ok (.newarray .int, 2) := by decide +kernel
theorem dX2_init_9 : decode cX2_init 9 = .ok (.putfield 9, 3) := by decide +kernel
theorem dX2_init_12 : decode cX2_init 12 = .ok (.aload_n 0, 1) := by decide +kernel
theorem dX2_init_13 : decode cX2_init 13 = .ok (.aload_n 1, 1) := by decide +kernel
theorem dX2_init_14 : decode cX2_init 14 = .ok (.putfield 15, 3) := by decide +kernel
theorem dX2_init_17 : decode cX2_init 17 = .ok (.aload_n 0, 1) := by decide +kernel
theorem dX2_init_18 : decode cX2_init 18 = .ok (.getfield 9, 3) := by decide +kernel
theorem dX2_init_21 : decode cX2_init 21 = .ok (.iconst 0, 1) := by decide +kernel
theorem dX2_init_22 : decode cX2_init 22 = .ok (.iconst (-1), 1) := by decide +kernel
theorem dX2_init_23 : decode cX2_init 23 = .ok (.iastore, 1) := by decide +kernel
theorem dX2_init_24 : decode cX2_init 24 = .ok (.return_, 1) := by decide +kernel
theorem wd_351 : (Cond.code ⟨"WebCourt$Court", "<init>", "(LWebCourt$Web;)V"⟩ prog_4_method_1_code (2 : Nat) (Option.none : Option FieldType)) ∈ gtb := gtb_c2 2 (by decide +kernel) rfl
theorem wd_352 : (Cond.methodLink "WebCourt$Court" (3 : Nat) ⟨"java/lang/Object", "<init>", "()V"⟩) ∈ gtb := gtb_c2 3 (by decide +kernel) rfl
theorem wd_353 : (Cond.fieldLink "WebCourt$Court" (9 : Nat) "WebCourt$Court" "row" "[I") ∈ gtb := gtb_c2 4 (by decide +kernel) rfl
theorem wd_363 : (Cond.laysFinal "WebCourt$Court" "WebCourt$Court" "row" "[I") ∈ gtb := gtb_c2 14 (by decide +kernel) rfl
theorem wd_365 : (Cond.lays "WebCourt$Court" "WebCourt$Court" "web" "LWebCourt$Web;") ∈ gtb := gtb_c2 16 (by decide +kernel) rfl
theorem inFX2 : ∀ w ∈ u_ws RX2 TX2 2, w ∈ gtb := by
  show ∀ w ∈ [u_lay RX2 TX2 0, u_lay RX2 TX2 1], w ∈ gtb
  exact List.forall_mem_cons.mpr ⟨wd_363, List.forall_mem_cons.mpr ⟨wd_365, fun _ h => absurd h List.not_mem_nil⟩⟩
theorem wd_358 : (Cond.fieldLink "WebCourt$Court" (15 : Nat) "WebCourt$Court" "web" "LWebCourt$Web;") ∈ gtb := gtb_c2 9 (by decide +kernel) rfl
theorem gf_RX2_9 {p : Program} {l : Launch} {e : Env} {R : Room} {s : State} {m : MethodId} {args : Array Value} {below : List Frame} {meth : Method} {c : Code} {H : Heap} {locs : List Loc} {cells slots : Nat} {Q : State → Prop} {cc : ByteArray} {pc nL : Nat} {ls : Array Slot} {rest : List Value} {D : va_G} {cy : Nat → ClassId} {A : Nat → Prop} {ws : va_W} {b : Nat} {fs : List Value} {v : Value} (C : Cx p s m args c cc nL RX2 D cy A) (hO : Wo D A ws s.heap H locs) (q0 : Nat) (he : ws[q0]? = some (b, .inr (2, fs))) (hv : fs[0]? = some v) (hdg : decode cc pc = .ok (.getfield 9, 3)) (kk : W p l e R s m args below meth c H locs cells slots Q (F0 m (pc + 3) ls (v :: rest))) : W p l e R s m args below meth c H locs cells slots Q (F0 m pc ls (.ref b :: rest)) := gF (k := 0) C hO q0 he rfl inFX2 (by decide) wd_353 rfl hv hdg kk
set_option maxHeartbeats 8000000 in
set_option maxRecDepth 100000 in
theorem K_X2 (l : Launch) (D : va_G) (cy : Nat → ClassId) (h0 t1 : Nat) : Mc (S := Nat → Nat) l D cy yX2_init (.code yX2_init cX2_init 2 none) { frames := 1, cells := 1, slots := 29, locals := 20 } [.ref h0, .ref t1] [(h0, .inr (2, [.null, .null]))] (fun q => [(h0, .inr (2, [.ref (q 0), .ref t1])), ((q 0), .inl (cy 1, 29, .inl (upd (fun _ => 0) (0 : Int32).toNatClampNeg (-1))))]) (fun _ => True) 1 29 := by
  refine Mc.of (own := RX2) rfl rfl (by decide) (Nat.le_of_ble_eq_true rfl) ?_
  intro p e s m below meth c A Q ls C hQ hin hret hO hl
  obtain ⟨hx, hb, hml, hown, ht, hK, hA⟩ := id C
  have hl : lv_has ls 2 [(0, .ref h0), (1, .ref t1)] := hl
  have hO : Wo D A ([(h0, .inr (2, [.null, .null]))] ++ ([] : va_W)) s.heap s.heap [] := hO
  refine lv_aload_n hx hb dX2_init_0 rfl (lv_at hl 0 rfl) ?_
  refine oI C wd_352 wd_135 wd_136 hl.1 dX2_init_1 (Nat.le_of_ble_eq_true rfl) (Nat.le_of_ble_eq_true rfl) ?_
  refine lv_aload_n hx hb dX2_init_4 rfl (lv_at hl 0 rfl) ?_
  refine lv_bipush (v := 29) hx hb dX2_init_5 (by decide) ?_
  refine nAI (N := 29) C hO wd_220 (by decide) rfl (Nat.le_of_ble_eq_true rfl) (Nat.le_of_ble_eq_true rfl) (Nat.le_of_ble_eq_true rfl) dX2_init_7 (fun q1 H hO => ?_)
  have hO := hO.swap
  have hO : Wo D A ([(h0, .inr (2, [.null, .null])), (q1, .inl (cy 1, 29, .inl (fun _ => 0)))] ++ ([] : va_W)) s.heap H [] := hO
  refine pFF (k := 0) (ws' := [(h0, .inr (2, [.ref q1, .null])), (q1, .inl (cy 1, 29, .inl (fun _ => 0)))] ++ ([] : va_W)) (ty := tyX2 0) (v := .ref q1) C hin hO 0 rfl rfl inFX2 (by decide) wd_353 rfl rfl tyX2 tyX2_ok nmX2 rfl (by decide +kernel) rfl rfl (Nat.le_of_ble_eq_true rfl) rfl dX2_init_9 (fun H locs hO => ?_)
  refine lv_aload_n hx hb dX2_init_12 rfl (lv_at hl 0 rfl) ?_
  refine lv_aload_n hx hb dX2_init_13 rfl (lv_at hl 1 rfl) ?_
  refine pF (k := 1) (ws' := [(h0, .inr (2, [.ref q1, .ref t1])), (q1, .inl (cy 1, 29, .inl (fun _ => 0)))] ++ ([] : va_W)) (ty := tyX2 1) (v := .ref t1) C hO 0 rfl rfl inFX2 (by decide) wd_358 rfl tyX2 tyX2_ok nmX2 rfl (by decide +kernel) rfl rfl (Nat.le_of_ble_eq_true rfl) rfl dX2_init_14 (fun H locs hO => ?_)
  refine lv_aload_n hx hb dX2_init_17 rfl (lv_at hl 0 rfl) ?_
  refine gf_RX2_9 (v := .ref q1) C hO 0 rfl rfl dX2_init_18 ?_
  refine lv_iconst (v := 0) hx hb dX2_init_21 (by decide) ?_
  refine lv_iconst (v := (-1)) hx hb dX2_init_22 (by decide) ?_
  refine aIs (ws' := [(h0, .inr (2, [.ref q1, .ref t1])), (q1, .inl (cy 1, 29, .inl (upd (fun _ => 0) (0 : Int32).toNatClampNeg (-1))))] ++ ([] : va_W)) C hO 1 rfl (i_in (X := 0) rfl (by omega) (by omega)) rfl dX2_init_23 (fun H locs hO => ?_)
  exact hret (fun i => ([q1] : List Nat).getD i 0) _ _ _ _ dX2_init_24 trivial hO
theorem dX8_init_0 : decode cX8_init 0 = .ok (.aload_n 0, 1) := by decide +kernel
theorem dX8_init_1 : decode cX8_init 1 = .ok (.invokespecial 3, 3) := by decide +kernel
theorem dX8_init_4 : decode cX8_init 4 = .ok (.aload_n 0, 1) := by decide +kernel
theorem dX8_init_5 : decode cX8_init 5 = .ok (.bipush 64, 2) := by decide +kernel
theorem dX8_init_7 : decode cX8_init 7 = .ok (.newarray .int, 2) := by decide +kernel
theorem dX8_init_9 : decode cX8_init 9 = .ok (.putfield 9, 3) := by decide +kernel
theorem dX8_init_12 : decode cX8_init 12 = .ok (.aload_n 0, 1) := by decide +kernel
theorem dX8_init_13 : decode cX8_init 13 = .ok (.aload_n 1, 1) := by decide +kernel
theorem dX8_init_14 : decode cX8_init 14 = .ok (.putfield 15, 3) := by decide +kernel
theorem dX8_init_17 : decode cX8_init 17 = .ok (.return_, 1) := by decide +kernel
theorem wd_395 : (Cond.code ⟨"WebCourt$Ways", "<init>", "(LWebCourt$Court;)V"⟩ prog_10_method_1_code (2 : Nat) (Option.none : Option FieldType)) ∈ gtb := gtb_c2 46 (by decide +kernel) rfl
theorem wd_396 : (Cond.methodLink "WebCourt$Ways" (3 : Nat) ⟨"java/lang/Object", "<init>", "()V"⟩) ∈ gtb := gtb_c2 47 (by decide +kernel) rfl
theorem wd_398 : (Cond.fieldLink "WebCourt$Ways" (9 : Nat) "WebCourt$Ways" "between" "[I") ∈ gtb := gtb_c2 49 (by decide +kernel) rfl
theorem wd_399 : (Cond.laysFinal "WebCourt$Ways" "WebCourt$Ways" "court" "LWebCourt$Court;") ∈ gtb := gtb_c2 50 (by decide +kernel) rfl
theorem wd_401 : (Cond.laysFinal "WebCourt$Ways" "WebCourt$Ways" "between" "[I") ∈ gtb := gtb_c2 52 (by decide +kernel) rfl
theorem inFX8 : ∀ w ∈ u_ws RX8 TX8 2, w ∈ gtb := by
  show ∀ w ∈ [u_lay RX8 TX8 0, u_lay RX8 TX8 1], w ∈ gtb
  exact List.forall_mem_cons.mpr ⟨wd_399, List.forall_mem_cons.mpr ⟨wd_401, fun _ h => absurd h List.not_mem_nil⟩⟩
theorem wd_397 : (Cond.fieldLink "WebCourt$Ways" (15 : Nat) "WebCourt$Ways" "court" "LWebCourt$Court;") ∈ gtb := gtb_c2 48 (by decide +kernel) rfl
set_option maxHeartbeats 8000000 in
set_option maxRecDepth 100000 in
theorem K_X8 (l : Launch) (D : va_G) (cy : Nat → ClassId) (h0 t1 : Nat) : Mc (S := Nat → Nat) l D cy yX8_init (.code yX8_init cX8_init 2 none) { frames := 1, cells := 1, slots := 64, locals := 20 } [.ref h0, .ref t1] [(h0, .inr (8, [.null, .null]))] (fun q => [(h0, .inr (8, [.ref t1, .ref (q 0)])), ((q 0), .inl (cy 1, 64, .inl (fun _ => 0)))]) (fun _ => True) 1 64 := by
  refine Mc.of (own := RX8) rfl rfl (by decide) (Nat.le_of_ble_eq_true rfl) ?_
  intro p e s m below meth c A Q ls C hQ hin hret hO hl
  obtain ⟨hx, hb, hml, hown, ht, hK, hA⟩ := id C
  have hl : lv_has ls 2 [(0, .ref h0), (1, .ref t1)] := hl
  have hO : Wo D A ([(h0, .inr (8, [.null, .null]))] ++ ([] : va_W)) s.heap s.heap [] := hO
  refine lv_aload_n hx hb dX8_init_0 rfl (lv_at hl 0 rfl) ?_
  refine oI C wd_396 wd_135 wd_136 hl.1 dX8_init_1 (Nat.le_of_ble_eq_true rfl) (Nat.le_of_ble_eq_true rfl) ?_
  refine lv_aload_n hx hb dX8_init_4 rfl (lv_at hl 0 rfl) ?_
  refine lv_bipush (v := 64) hx hb dX8_init_5 (by decide) ?_
  refine nAI (N := 64) C hO wd_220 (by decide) rfl (Nat.le_of_ble_eq_true rfl) (Nat.le_of_ble_eq_true rfl) (Nat.le_of_ble_eq_true rfl) dX8_init_7 (fun q1 H hO => ?_)
  have hO := hO.swap
  have hO : Wo D A ([(h0, .inr (8, [.null, .null])), (q1, .inl (cy 1, 64, .inl (fun _ => 0)))] ++ ([] : va_W)) s.heap H [] := hO
  refine pFF (k := 1) (ws' := [(h0, .inr (8, [.null, .ref q1])), (q1, .inl (cy 1, 64, .inl (fun _ => 0)))] ++ ([] : va_W)) (ty := tyX8 1) (v := .ref q1) C hin hO 0 rfl rfl inFX8 (by decide) wd_398 rfl rfl tyX8 tyX8_ok nmX8 rfl (by decide +kernel) rfl rfl (Nat.le_of_ble_eq_true rfl) rfl dX8_init_9 (fun H locs hO => ?_)
  refine lv_aload_n hx hb dX8_init_12 rfl (lv_at hl 0 rfl) ?_
  refine lv_aload_n hx hb dX8_init_13 rfl (lv_at hl 1 rfl) ?_
  refine pFF (k := 0) (ws' := [(h0, .inr (8, [.ref t1, .ref q1])), (q1, .inl (cy 1, 64, .inl (fun _ => 0)))] ++ ([] : va_W)) (ty := tyX8 0) (v := .ref t1) C hin hO 0 rfl rfl inFX8 (by decide) wd_397 rfl rfl tyX8 tyX8_ok nmX8 rfl (by decide +kernel) rfl rfl (Nat.le_of_ble_eq_true rfl) rfl dX8_init_14 (fun H locs hO => ?_)
  exact hret (fun i => ([q1] : List Nat).getD i 0) _ _ _ _ dX8_init_17 trivial hO
theorem dX6_init_0 : decode cX6_init 0 = .ok (.aload_n 0, 1) := by decide +kernel
theorem dX6_init_1 : decode cX6_init 1 = .ok (.invokespecial 3, 3) := by decide +kernel
theorem dX6_init_4 : decode cX6_init 4 = .ok (.aload_n 0, 1) := by decide +kernel
theorem dX6_init_5 : decode cX6_init 5 = .ok (.sipush 384, 3) := by decide +kernel
theorem dX6_init_8 : decode cX6_init 8 = .ok (.newarray .int, 2) := by decide +kernel
theorem dX6_init_10 : decode cX6_init 10 = .ok (.putfield 11, 3) := by decide +kernel
theorem dX6_init_13 : decode cX6_init 13 = .ok (.aload_n 0, 1) := by decide +kernel
theorem dX6_init_14 : decode cX6_init 14 = .ok (.aload_n 1, 1) := by decide +kernel
theorem dX6_init_15 : decode cX6_init 15 = .ok (.putfield 15, 3) := by decide +kernel
theorem dX6_init_18 : decode cX6_init 18 = .ok (.aload_n 0, 1) := by decide +kernel
theorem dX6_init_19 : decode cX6_init 19 = .ok (.aload_n 2, 1) := by decide +kernel
theorem dX6_init_20 : decode cX6_init 20 = .ok (.putfield 19, 3) := by decide +kernel
theorem dX6_init_23 : decode cX6_init 23 = .ok (.return_, 1) := by decide +kernel
theorem wd_408 : (Cond.code ⟨"WebCourt$Rounds", "<init>", "(LWebCourt$Court;LWebCourt$Ways;)V"⟩ prog_8_method_1_code (3 : Nat) (Option.none : Option FieldType)) ∈ gtb := gtb_c2 59 (by decide +kernel) rfl
theorem wd_409 : (Cond.methodLink "WebCourt$Rounds" (3 : Nat) ⟨"java/lang/Object", "<init>", "()V"⟩) ∈ gtb := gtb_c2 60 (by decide +kernel) rfl
theorem wd_412 : (Cond.fieldLink "WebCourt$Rounds" (11 : Nat) "WebCourt$Rounds" "behind" "[I") ∈ gtb := gtb_c2 63 (by decide +kernel) rfl
theorem wd_413 : (Cond.laysFinal "WebCourt$Rounds" "WebCourt$Rounds" "court" "LWebCourt$Court;") ∈ gtb := gtb_c2 64 (by decide +kernel) rfl
theorem wd_415 : (Cond.laysFinal "WebCourt$Rounds" "WebCourt$Rounds" "ways" "LWebCourt$Ways;") ∈ gtb := gtb_c2 66 (by decide +kernel) rfl
theorem wd_417 : (Cond.laysFinal "WebCourt$Rounds" "WebCourt$Rounds" "behind" "[I") ∈ gtb := gtb_c2 68 (by decide +kernel) rfl
theorem inFX6 : ∀ w ∈ u_ws RX6 TX6 3, w ∈ gtb := by
  show ∀ w ∈ [u_lay RX6 TX6 0, u_lay RX6 TX6 1, u_lay RX6 TX6 2], w ∈ gtb
  exact List.forall_mem_cons.mpr ⟨wd_413, List.forall_mem_cons.mpr ⟨wd_415, List.forall_mem_cons.mpr ⟨wd_417, fun _ h => absurd h List.not_mem_nil⟩⟩⟩
theorem wd_410 : (Cond.fieldLink "WebCourt$Rounds" (15 : Nat) "WebCourt$Rounds" "court" "LWebCourt$Court;") ∈ gtb := gtb_c2 61 (by decide +kernel) rfl
theorem wd_411 : (Cond.fieldLink "WebCourt$Rounds" (19 : Nat) "WebCourt$Rounds" "ways" "LWebCourt$Ways;") ∈ gtb := gtb_c2 62 (by decide +kernel) rfl
set_option maxHeartbeats 8000000 in
set_option maxRecDepth 100000 in
theorem K_X6 (l : Launch) (D : va_G) (cy : Nat → ClassId) (h0 t1 t2 : Nat) : Mc (S := Nat → Nat) l D cy yX6_init (.code yX6_init cX6_init 3 none) { frames := 1, cells := 1, slots := 384, locals := 20 } [.ref h0, .ref t1, .ref t2] [(h0, .inr (6, [.null, .null, .null]))] (fun q => [(h0, .inr (6, [.ref t1, .ref t2, .ref (q 0)])), ((q 0), .inl (cy 1, 384, .inl (fun _ => 0)))]) (fun _ => True) 1 384 := by
  refine Mc.of (own := RX6) rfl rfl (by decide) (Nat.le_of_ble_eq_true rfl) ?_
  intro p e s m below meth c A Q ls C hQ hin hret hO hl
  obtain ⟨hx, hb, hml, hown, ht, hK, hA⟩ := id C
  have hl : lv_has ls 3 [(0, .ref h0), (1, .ref t1), (2, .ref t2)] := hl
  have hO : Wo D A ([(h0, .inr (6, [.null, .null, .null]))] ++ ([] : va_W)) s.heap s.heap [] := hO
  refine lv_aload_n hx hb dX6_init_0 rfl (lv_at hl 0 rfl) ?_
  refine oI C wd_409 wd_135 wd_136 hl.1 dX6_init_1 (Nat.le_of_ble_eq_true rfl) (Nat.le_of_ble_eq_true rfl) ?_
  refine lv_aload_n hx hb dX6_init_4 rfl (lv_at hl 0 rfl) ?_
  refine lv_sipush (v := 384) hx hb dX6_init_5 (by decide) ?_
  refine nAI (N := 384) C hO wd_220 (by decide) rfl (Nat.le_of_ble_eq_true rfl) (Nat.le_of_ble_eq_true rfl) (Nat.le_of_ble_eq_true rfl) dX6_init_8 (fun q1 H hO => ?_)
  have hO := hO.swap
  have hO : Wo D A ([(h0, .inr (6, [.null, .null, .null])), (q1, .inl (cy 1, 384, .inl (fun _ => 0)))] ++ ([] : va_W)) s.heap H [] := hO
  refine pFF (k := 2) (ws' := [(h0, .inr (6, [.null, .null, .ref q1])), (q1, .inl (cy 1, 384, .inl (fun _ => 0)))] ++ ([] : va_W)) (ty := tyX6 2) (v := .ref q1) C hin hO 0 rfl rfl inFX6 (by decide) wd_412 rfl rfl tyX6 tyX6_ok nmX6 rfl (by decide +kernel) rfl rfl (Nat.le_of_ble_eq_true rfl) rfl dX6_init_10 (fun H locs hO => ?_)
  refine lv_aload_n hx hb dX6_init_13 rfl (lv_at hl 0 rfl) ?_
  refine lv_aload_n hx hb dX6_init_14 rfl (lv_at hl 1 rfl) ?_
  refine pFF (k := 0) (ws' := [(h0, .inr (6, [.ref t1, .null, .ref q1])), (q1, .inl (cy 1, 384, .inl (fun _ => 0)))] ++ ([] : va_W)) (ty := tyX6 0) (v := .ref t1) C hin hO 0 rfl rfl inFX6 (by decide) wd_410 rfl rfl tyX6 tyX6_ok nmX6 rfl (by decide +kernel) rfl rfl (Nat.le_of_ble_eq_true rfl) rfl dX6_init_15 (fun H locs hO => ?_)
  refine lv_aload_n hx hb dX6_init_18 rfl (lv_at hl 0 rfl) ?_
  refine lv_aload_n hx hb dX6_init_19 rfl (lv_at hl 2 rfl) ?_
  refine pFF (k := 1) (ws' := [(h0, .inr (6, [.ref t1, .ref t2, .ref q1])), (q1, .inl (cy 1, 384, .inl (fun _ => 0)))] ++ ([] : va_W)) (ty := tyX6 1) (v := .ref t2) C hin hO 0 rfl rfl inFX6 (by decide) wd_411 rfl rfl tyX6 tyX6_ok nmX6 rfl (by decide +kernel) rfl rfl (Nat.le_of_ble_eq_true rfl) rfl dX6_init_20 (fun H locs hO => ?_)
  exact hret (fun i => ([q1] : List Nat).getD i 0) _ _ _ _ dX6_init_23 trivial hO
theorem dX1_init_0 : decode cX1_init 0 = .ok (.aload_n 0, 1) := by decide +kernel
theorem dX1_init_1 : decode cX1_init 1 = .ok (.invokespecial 3, 3) := by decide +kernel
theorem dX1_init_4 : decode cX1_init 4 = .ok (.aload_n 0, 1) := by decide +kernel
theorem dX1_init_5 : decode cX1_init 5 = .ok (.bipush 8, 2) := by decide +kernel
theorem dX1_init_7 : decode cX1_init 7 = .ok (.newarray .int, 2) := by decide +kernel
theorem dX1_init_9 : decode cX1_init 9 = .ok (.putfield 9, 3) := by decide +kernel
theorem dX1_init_12 : decode cX1_init 12 = .ok (.aload_n 0, 1) := by decide +kernel
theorem dX1_init_13 : decode cX1_init 13 = .ok (.bipush 8, 2) := by decide +kernel
theorem dX1_init_15 : decode cX1_init 15 = .ok (.newarray .int, 2) := by decide +kernel
theorem dX1_init_17 : decode cX1_init 17 = .ok (.putfield 15, 3) := by decide +kernel
theorem dX1_init_20 : decode cX1_init 20 = .ok (.aload_n 0, 1) := by decide +kernel
theorem dX1_init_21 : decode cX1_init 21 = .ok (.aload_n 1, 1) := by decide +kernel
theorem dX1_init_22 : decode cX1_init 22 = .ok (.putfield 18, 3) := by decide +kernel
theorem dX1_init_25 : decode cX1_init 25 = .ok (.return_, 1) := by decide +kernel
theorem wd_424 : (Cond.code ⟨"WebCourt$Counsel", "<init>", "(LWebCourt$Court;)V"⟩ prog_3_method_1_code (2 : Nat) (Option.none : Option FieldType)) ∈ gtb := gtb_c2 75 (by decide +kernel) rfl
theorem wd_425 : (Cond.methodLink "WebCourt$Counsel" (3 : Nat) ⟨"java/lang/Object", "<init>", "()V"⟩) ∈ gtb := gtb_c2 76 (by decide +kernel) rfl
theorem wd_427 : (Cond.fieldLink "WebCourt$Counsel" (9 : Nat) "WebCourt$Counsel" "alone" "[I") ∈ gtb := gtb_c2 78 (by decide +kernel) rfl
theorem wd_429 : (Cond.laysFinal "WebCourt$Counsel" "WebCourt$Counsel" "court" "LWebCourt$Court;") ∈ gtb := gtb_c2 80 (by decide +kernel) rfl
theorem wd_431 : (Cond.laysFinal "WebCourt$Counsel" "WebCourt$Counsel" "alone" "[I") ∈ gtb := gtb_c2 82 (by decide +kernel) rfl
theorem wd_433 : (Cond.laysFinal "WebCourt$Counsel" "WebCourt$Counsel" "otherAlone" "[I") ∈ gtb := gtb_c2 84 (by decide +kernel) rfl
theorem inFX1 : ∀ w ∈ u_ws RX1 TX1 3, w ∈ gtb := by
  show ∀ w ∈ [u_lay RX1 TX1 0, u_lay RX1 TX1 1, u_lay RX1 TX1 2], w ∈ gtb
  exact List.forall_mem_cons.mpr ⟨wd_429, List.forall_mem_cons.mpr ⟨wd_431, List.forall_mem_cons.mpr ⟨wd_433, fun _ h => absurd h List.not_mem_nil⟩⟩⟩
theorem wd_428 : (Cond.fieldLink "WebCourt$Counsel" (15 : Nat) "WebCourt$Counsel" "otherAlone" "[I") ∈ gtb := gtb_c2 79 (by decide +kernel) rfl
theorem wd_426 : (Cond.fieldLink "WebCourt$Counsel" (18 : Nat) "WebCourt$Counsel" "court" "LWebCourt$Court;") ∈ gtb := gtb_c2 77 (by decide +kernel) rfl
set_option maxHeartbeats 8000000 in
set_option maxRecDepth 100000 in
theorem K_X1 (l : Launch) (D : va_G) (cy : Nat → ClassId) (h0 t1 : Nat) : Mc (S := Nat → Nat) l D cy yX1_init (.code yX1_init cX1_init 2 none) { frames := 1, cells := 2, slots := 16, locals := 20 } [.ref h0, .ref t1] [(h0, .inr (1, [.null, .null, .null]))] (fun q => [(h0, .inr (1, [.ref t1, .ref (q 0), .ref (q 1)])), ((q 0), .inl (cy 1, 8, .inl (fun _ => 0))), ((q 1), .inl (cy 1, 8, .inl (fun _ => 0)))]) (fun _ => True) 2 16 := by
  refine Mc.of (own := RX1) rfl rfl (by decide) (Nat.le_of_ble_eq_true rfl) ?_
  intro p e s m below meth c A Q ls C hQ hin hret hO hl
  obtain ⟨hx, hb, hml, hown, ht, hK, hA⟩ := id C
  have hl : lv_has ls 2 [(0, .ref h0), (1, .ref t1)] := hl
  have hO : Wo D A ([(h0, .inr (1, [.null, .null, .null]))] ++ ([] : va_W)) s.heap s.heap [] := hO
  refine lv_aload_n hx hb dX1_init_0 rfl (lv_at hl 0 rfl) ?_
  refine oI C wd_425 wd_135 wd_136 hl.1 dX1_init_1 (Nat.le_of_ble_eq_true rfl) (Nat.le_of_ble_eq_true rfl) ?_
  refine lv_aload_n hx hb dX1_init_4 rfl (lv_at hl 0 rfl) ?_
  refine lv_bipush (v := 8) hx hb dX1_init_5 (by decide) ?_
  refine nAI (N := 8) C hO wd_220 (by decide) rfl (Nat.le_of_ble_eq_true rfl) (Nat.le_of_ble_eq_true rfl) (Nat.le_of_ble_eq_true rfl) dX1_init_7 (fun q1 H hO => ?_)
  have hO := hO.swap
  have hO : Wo D A ([(h0, .inr (1, [.null, .null, .null])), (q1, .inl (cy 1, 8, .inl (fun _ => 0)))] ++ ([] : va_W)) s.heap H [] := hO
  refine pFF (k := 1) (ws' := [(h0, .inr (1, [.null, .ref q1, .null])), (q1, .inl (cy 1, 8, .inl (fun _ => 0)))] ++ ([] : va_W)) (ty := tyX1 1) (v := .ref q1) C hin hO 0 rfl rfl inFX1 (by decide) wd_427 rfl rfl tyX1 tyX1_ok nmX1 rfl (by decide +kernel) rfl rfl (Nat.le_of_ble_eq_true rfl) rfl dX1_init_9 (fun H locs hO => ?_)
  refine lv_aload_n hx hb dX1_init_12 rfl (lv_at hl 0 rfl) ?_
  refine lv_bipush (v := 8) hx hb dX1_init_13 (by decide) ?_
  refine nAI (N := 8) C hO wd_220 (by decide) rfl (Nat.le_of_ble_eq_true rfl) (Nat.le_of_ble_eq_true rfl) (Nat.le_of_ble_eq_true rfl) dX1_init_15 (fun q2 H hO => ?_)
  have hO := hO.swap
  have hO : Wo D A ([(h0, .inr (1, [.null, .ref q1, .null])), (q1, .inl (cy 1, 8, .inl (fun _ => 0))), (q2, .inl (cy 1, 8, .inl (fun _ => 0)))] ++ ([] : va_W)) s.heap H locs := hO
  refine pFF (k := 2) (ws' := [(h0, .inr (1, [.null, .ref q1, .ref q2])), (q1, .inl (cy 1, 8, .inl (fun _ => 0))), (q2, .inl (cy 1, 8, .inl (fun _ => 0)))] ++ ([] : va_W)) (ty := tyX1 2) (v := .ref q2) C hin hO 0 rfl rfl inFX1 (by decide) wd_428 rfl rfl tyX1 tyX1_ok nmX1 rfl (by decide +kernel) rfl rfl (Nat.le_of_ble_eq_true rfl) rfl dX1_init_17 (fun H locs hO => ?_)
  refine lv_aload_n hx hb dX1_init_20 rfl (lv_at hl 0 rfl) ?_
  refine lv_aload_n hx hb dX1_init_21 rfl (lv_at hl 1 rfl) ?_
  refine pFF (k := 0) (ws' := [(h0, .inr (1, [.ref t1, .ref q1, .ref q2])), (q1, .inl (cy 1, 8, .inl (fun _ => 0))), (q2, .inl (cy 1, 8, .inl (fun _ => 0)))] ++ ([] : va_W)) (ty := tyX1 0) (v := .ref t1) C hin hO 0 rfl rfl inFX1 (by decide) wd_426 rfl rfl tyX1 tyX1_ok nmX1 rfl (by decide +kernel) rfl rfl (Nat.le_of_ble_eq_true rfl) rfl dX1_init_22 (fun H locs hO => ?_)
  exact hret (fun i => ([q1, q2] : List Nat).getD i 0) _ _ _ _ dX1_init_25 trivial hO
theorem dX3_init_0 : decode cX3_init 0 = .ok (.aload_n 0, 1) := by decide +kernel
theorem dX3_init_1 : decode cX3_init 1 = .ok (.invokespecial 3, 3) := by decide +kernel
theorem dX3_init_4 : decode cX3_init 4 = .ok (.aload_n 0, 1) := by decide +kernel
theorem dX3_init_5 : decode cX3_init 5 = .ok (.bipush 30, 2) := by decide +kernel
theorem dX3_init_7 : decode cX3_init 7 = .ok (.newarray .int, 2) := by decide +kernel
theorem dX3_init_9 : decode cX3_init 9 = .ok (.putfield 11, 3) := by decide +kernel
theorem dX3_init_12 : decode cX3_init 12 = .ok (.aload_n 0, 1) := by decide +kernel
theorem dX3_init_13 : decode cX3_init 13 = .ok (.bipush 30, 2) := by decide +kernel
theorem dX3_init_15 : decode cX3_init 15 = .ok (.newarray .int, 2) := by decide +kernel
theorem dX3_init_17 : decode cX3_init 17 = .ok (.putfield 15, 3) := by decide +kernel
theorem dX3_init_20 : decode cX3_init 20 = .ok (.aload_n 0, 1) := by decide +kernel
theorem dX3_init_21 : decode cX3_init 21 = .ok (.bipush 30, 2) := by decide +kernel
theorem dX3_init_23 : decode cX3_init 23 = .ok (.newarray .boolean, 2) := by decide +kernel
theorem dX3_init_25 : decode cX3_init 25 = .ok (.putfield 18, 3) := by decide +kernel
theorem dX3_init_28 : decode cX3_init 28 = .ok (.aload_n 0, 1) := by decide +kernel
theorem dX3_init_29 : decode cX3_init 29 = .ok (.bipush 30, 2) := by decide +kernel
theorem dX3_init_31 : decode cX3_init 31 = .ok (.newarray .int, 2) := by decide +kernel
theorem dX3_init_33 : decode cX3_init 33 = .ok (.putfield 22, 3) := by decide +kernel
theorem dX3_init_36 : decode cX3_init 36 = .ok (.aload_n 0, 1) := by decide +kernel
theorem dX3_init_37 : decode cX3_init 37 = .ok (.bipush 30, 2) := by decide +kernel
theorem dX3_init_39 : decode cX3_init 39 = .ok (.newarray .int, 2) := by decide +kernel
theorem dX3_init_41 : decode cX3_init 41 = .ok (.putfield 25, 3) := by decide +kernel
theorem dX3_init_44 : decode cX3_init 44 = .ok (.return_, 1) := by decide +kernel
theorem wd_440 : (Cond.code ⟨"WebCourt$Hearsay", "<init>", "()V"⟩ prog_5_method_1_code (1 : Nat) (Option.none : Option FieldType)) ∈ gtb := gtb_c2 91 (by decide +kernel) rfl
theorem wd_441 : (Cond.methodLink "WebCourt$Hearsay" (3 : Nat) ⟨"java/lang/Object", "<init>", "()V"⟩) ∈ gtb := gtb_c2 92 (by decide +kernel) rfl
theorem wd_442 : (Cond.fieldLink "WebCourt$Hearsay" (11 : Nat) "WebCourt$Hearsay" "items" "[I") ∈ gtb := gtb_c2 93 (by decide +kernel) rfl
theorem wd_451 : (Cond.laysFinal "WebCourt$Hearsay" "WebCourt$Hearsay" "items" "[I") ∈ gtb := gtb_c2 102 (by decide +kernel) rfl
theorem wd_453 : (Cond.laysFinal "WebCourt$Hearsay" "WebCourt$Hearsay" "verdicts" "[I") ∈ gtb := gtb_c2 104 (by decide +kernel) rfl
theorem wd_455 : (Cond.laysFinal "WebCourt$Hearsay" "WebCourt$Hearsay" "are" "[Z") ∈ gtb := gtb_c2 106 (by decide +kernel) rfl
theorem wd_457 : (Cond.laysFinal "WebCourt$Hearsay" "WebCourt$Hearsay" "told" "[I") ∈ gtb := gtb_c2 108 (by decide +kernel) rfl
theorem wd_459 : (Cond.laysFinal "WebCourt$Hearsay" "WebCourt$Hearsay" "untold" "[I") ∈ gtb := gtb_c2 110 (by decide +kernel) rfl
theorem wd_461 : (Cond.lays "WebCourt$Hearsay" "WebCourt$Hearsay" "count" "I") ∈ gtb := gtb_c2 112 (by decide +kernel) rfl
theorem wd_463 : (Cond.lays "WebCourt$Hearsay" "WebCourt$Hearsay" "time" "I") ∈ gtb := gtb_c2 114 (by decide +kernel) rfl
theorem inFX3 : ∀ w ∈ u_ws RX3 TX3 7, w ∈ gtb := by
  show ∀ w ∈ [u_lay RX3 TX3 0, u_lay RX3 TX3 1, u_lay RX3 TX3 2, u_lay RX3 TX3 3, u_lay RX3 TX3 4, u_lay RX3 TX3 5, u_lay RX3 TX3 6], w ∈ gtb
  exact List.forall_mem_cons.mpr ⟨wd_451, List.forall_mem_cons.mpr ⟨wd_453, List.forall_mem_cons.mpr ⟨wd_455, List.forall_mem_cons.mpr ⟨wd_457, List.forall_mem_cons.mpr ⟨wd_459, List.forall_mem_cons.mpr ⟨wd_461, List.forall_mem_cons.mpr ⟨wd_463, fun _ h => absurd h List.not_mem_nil⟩⟩⟩⟩⟩⟩⟩
theorem wd_443 : (Cond.fieldLink "WebCourt$Hearsay" (15 : Nat) "WebCourt$Hearsay" "verdicts" "[I") ∈ gtb := gtb_c2 94 (by decide +kernel) rfl
theorem wd_466 : (Cond.arrayClass FieldType.boolean) ∈ gtb := gtb_c2 117 (by decide +kernel) rfl
theorem wd_444 : (Cond.fieldLink "WebCourt$Hearsay" (18 : Nat) "WebCourt$Hearsay" "are" "[Z") ∈ gtb := gtb_c2 95 (by decide +kernel) rfl
theorem wd_445 : (Cond.fieldLink "WebCourt$Hearsay" (22 : Nat) "WebCourt$Hearsay" "told" "[I") ∈ gtb := gtb_c2 96 (by decide +kernel) rfl
theorem wd_446 : (Cond.fieldLink "WebCourt$Hearsay" (25 : Nat) "WebCourt$Hearsay" "untold" "[I") ∈ gtb := gtb_c2 97 (by decide +kernel) rfl
set_option maxHeartbeats 8000000 in
set_option maxRecDepth 100000 in
theorem K_X3 (l : Launch) (D : va_G) (cy : Nat → ClassId) (h0 : Nat) : Mc (S := Nat → Nat) l D cy yX3_init (.code yX3_init cX3_init 1 none) { frames := 1, cells := 5, slots := 150, locals := 20 } [.ref h0] [(h0, .inr (3, [.null, .null, .null, .null, .null, .int 0, .int 0]))] (fun q => [(h0, .inr (3, [.ref (q 0), .ref (q 1), .ref (q 2), .ref (q 3), .ref (q 4), .int 0, .int 0])), ((q 0), .inl (cy 1, 30, .inl (fun _ => 0))), ((q 1), .inl (cy 1, 30, .inl (fun _ => 0))), ((q 2), .inl (cy 3, 30, .inl (fun _ => 0))), ((q 3), .inl (cy 1, 30, .inl (fun _ => 0))), ((q 4), .inl (cy 1, 30, .inl (fun _ => 0)))]) (fun _ => True) 5 150 := by
  refine Mc.of (own := RX3) rfl rfl (by decide) (Nat.le_of_ble_eq_true rfl) ?_
  intro p e s m below meth c A Q ls C hQ hin hret hO hl
  obtain ⟨hx, hb, hml, hown, ht, hK, hA⟩ := id C
  have hl : lv_has ls 1 [(0, .ref h0)] := hl
  have hO : Wo D A ([(h0, .inr (3, [.null, .null, .null, .null, .null, .int 0, .int 0]))] ++ ([] : va_W)) s.heap s.heap [] := hO
  refine lv_aload_n hx hb dX3_init_0 rfl (lv_at hl 0 rfl) ?_
  refine oI C wd_441 wd_135 wd_136 hl.1 dX3_init_1 (Nat.le_of_ble_eq_true rfl) (Nat.le_of_ble_eq_true rfl) ?_
  refine lv_aload_n hx hb dX3_init_4 rfl (lv_at hl 0 rfl) ?_
  refine lv_bipush (v := 30) hx hb dX3_init_5 (by decide) ?_
  refine nAI (N := 30) C hO wd_220 (by decide) rfl (Nat.le_of_ble_eq_true rfl) (Nat.le_of_ble_eq_true rfl) (Nat.le_of_ble_eq_true rfl) dX3_init_7 (fun q1 H hO => ?_)
  have hO := hO.swap
  have hO : Wo D A ([(h0, .inr (3, [.null, .null, .null, .null, .null, .int 0, .int 0])), (q1, .inl (cy 1, 30, .inl (fun _ => 0)))] ++ ([] : va_W)) s.heap H [] := hO
  refine pFF (k := 0) (ws' := [(h0, .inr (3, [.ref q1, .null, .null, .null, .null, .int 0, .int 0])), (q1, .inl (cy 1, 30, .inl (fun _ => 0)))] ++ ([] : va_W)) (ty := tyX3 0) (v := .ref q1) C hin hO 0 rfl rfl inFX3 (by decide) wd_442 rfl rfl tyX3 tyX3_ok nmX3 rfl (by decide +kernel) rfl rfl (Nat.le_of_ble_eq_true rfl) rfl dX3_init_9 (fun H locs hO => ?_)
  refine lv_aload_n hx hb dX3_init_12 rfl (lv_at hl 0 rfl) ?_
  refine lv_bipush (v := 30) hx hb dX3_init_13 (by decide) ?_
  refine nAI (N := 30) C hO wd_220 (by decide) rfl (Nat.le_of_ble_eq_true rfl) (Nat.le_of_ble_eq_true rfl) (Nat.le_of_ble_eq_true rfl) dX3_init_15 (fun q2 H hO => ?_)
  have hO := hO.swap
  have hO : Wo D A ([(h0, .inr (3, [.ref q1, .null, .null, .null, .null, .int 0, .int 0])), (q1, .inl (cy 1, 30, .inl (fun _ => 0))), (q2, .inl (cy 1, 30, .inl (fun _ => 0)))] ++ ([] : va_W)) s.heap H locs := hO
  refine pFF (k := 1) (ws' := [(h0, .inr (3, [.ref q1, .ref q2, .null, .null, .null, .int 0, .int 0])), (q1, .inl (cy 1, 30, .inl (fun _ => 0))), (q2, .inl (cy 1, 30, .inl (fun _ => 0)))] ++ ([] : va_W)) (ty := tyX3 1) (v := .ref q2) C hin hO 0 rfl rfl inFX3 (by decide) wd_443 rfl rfl tyX3 tyX3_ok nmX3 rfl (by decide +kernel) rfl rfl (Nat.le_of_ble_eq_true rfl) rfl dX3_init_17 (fun H locs hO => ?_)
  refine lv_aload_n hx hb dX3_init_20 rfl (lv_at hl 0 rfl) ?_
  refine lv_bipush (v := 30) hx hb dX3_init_21 (by decide) ?_
  refine nAZ (N := 30) C hO wd_466 (by decide) rfl (Nat.le_of_ble_eq_true rfl) (Nat.le_of_ble_eq_true rfl) (Nat.le_of_ble_eq_true rfl) dX3_init_23 (fun q3 H hO => ?_)
  have hO := hO.swap
  have hO : Wo D A ([(h0, .inr (3, [.ref q1, .ref q2, .null, .null, .null, .int 0, .int 0])), (q1, .inl (cy 1, 30, .inl (fun _ => 0))), (q2, .inl (cy 1, 30, .inl (fun _ => 0))), (q3, .inl (cy 3, 30, .inl (fun _ => 0)))] ++ ([] : va_W)) s.heap H locs := hO
  refine pFF (k := 2) (ws' := [(h0, .inr (3, [.ref q1, .ref q2, .ref q3, .null, .null, .int 0, .int 0])), (q1, .inl (cy 1, 30, .inl (fun _ => 0))), (q2, .inl (cy 1, 30, .inl (fun _ => 0))), (q3, .inl (cy 3, 30, .inl (fun _ => 0)))] ++ ([] : va_W)) (ty := tyX3 2) (v := .ref q3) C hin hO 0 rfl rfl inFX3 (by decide) wd_444 rfl rfl tyX3 tyX3_ok nmX3 rfl (by decide +kernel) rfl rfl (Nat.le_of_ble_eq_true rfl) rfl dX3_init_25 (fun H locs hO => ?_)
  refine lv_aload_n hx hb dX3_init_28 rfl (lv_at hl 0 rfl) ?_
  refine lv_bipush (v := 30) hx hb dX3_init_29 (by decide) ?_
  refine nAI (N := 30) C hO wd_220 (by decide) rfl (Nat.le_of_ble_eq_true rfl) (Nat.le_of_ble_eq_true rfl) (Nat.le_of_ble_eq_true rfl) dX3_init_31 (fun q4 H hO => ?_)
  have hO := hO.swap
  have hO : Wo D A ([(h0, .inr (3, [.ref q1, .ref q2, .ref q3, .null, .null, .int 0, .int 0])), (q1, .inl (cy 1, 30, .inl (fun _ => 0))), (q2, .inl (cy 1, 30, .inl (fun _ => 0))), (q3, .inl (cy 3, 30, .inl (fun _ => 0))), (q4, .inl (cy 1, 30, .inl (fun _ => 0)))] ++ ([] : va_W)) s.heap H locs := hO
  refine pFF (k := 3) (ws' := [(h0, .inr (3, [.ref q1, .ref q2, .ref q3, .ref q4, .null, .int 0, .int 0])), (q1, .inl (cy 1, 30, .inl (fun _ => 0))), (q2, .inl (cy 1, 30, .inl (fun _ => 0))), (q3, .inl (cy 3, 30, .inl (fun _ => 0))), (q4, .inl (cy 1, 30, .inl (fun _ => 0)))] ++ ([] : va_W)) (ty := tyX3 3) (v := .ref q4) C hin hO 0 rfl rfl inFX3 (by decide) wd_445 rfl rfl tyX3 tyX3_ok nmX3 rfl (by decide +kernel) rfl rfl (Nat.le_of_ble_eq_true rfl) rfl dX3_init_33 (fun H locs hO => ?_)
  refine lv_aload_n hx hb dX3_init_36 rfl (lv_at hl 0 rfl) ?_
  refine lv_bipush (v := 30) hx hb dX3_init_37 (by decide) ?_
  refine nAI (N := 30) C hO wd_220 (by decide) rfl (Nat.le_of_ble_eq_true rfl) (Nat.le_of_ble_eq_true rfl) (Nat.le_of_ble_eq_true rfl) dX3_init_39 (fun q5 H hO => ?_)
  have hO := hO.swap
  have hO : Wo D A ([(h0, .inr (3, [.ref q1, .ref q2, .ref q3, .ref q4, .null, .int 0, .int 0])), (q1, .inl (cy 1, 30, .inl (fun _ => 0))), (q2, .inl (cy 1, 30, .inl (fun _ => 0))), (q3, .inl (cy 3, 30, .inl (fun _ => 0))), (q4, .inl (cy 1, 30, .inl (fun _ => 0))), (q5, .inl (cy 1, 30, .inl (fun _ => 0)))] ++ ([] : va_W)) s.heap H locs := hO
  refine pFF (k := 4) (ws' := [(h0, .inr (3, [.ref q1, .ref q2, .ref q3, .ref q4, .ref q5, .int 0, .int 0])), (q1, .inl (cy 1, 30, .inl (fun _ => 0))), (q2, .inl (cy 1, 30, .inl (fun _ => 0))), (q3, .inl (cy 3, 30, .inl (fun _ => 0))), (q4, .inl (cy 1, 30, .inl (fun _ => 0))), (q5, .inl (cy 1, 30, .inl (fun _ => 0)))] ++ ([] : va_W)) (ty := tyX3 4) (v := .ref q5) C hin hO 0 rfl rfl inFX3 (by decide) wd_446 rfl rfl tyX3 tyX3_ok nmX3 rfl (by decide +kernel) rfl rfl (Nat.le_of_ble_eq_true rfl) rfl dX3_init_41 (fun H locs hO => ?_)
  exact hret (fun i => ([q1, q2, q3, q4, q5] : List Nat).getD i 0) _ _ _ _ dX3_init_44 trivial hO
end
section

def aC (L : List Nat) (r1 r2 : Nat → Nat) : Nat → Nat := fun i => if i < 47 then L.getD i 0 else if i < 88 then r1 (i - 47) else r2 (i - 88)
theorem aC_1 {L : List Nat} {r1 r2 : Nat → Nat} {i : Nat} (h : i < 41) : aC L r1 r2 (47 + i) = r1 i := by
  unfold aC
  rw [if_neg (by omega), if_pos (by omega), show 47 + i - 47 = i by omega]
theorem aC_2 {L : List Nat} {r1 r2 : Nat → Nat} {i : Nat} : aC L r1 r2 (88 + i) = r2 i := by
  unfold aC
  rw [if_neg (by omega), if_neg (by omega), show 88 + i - 88 = i by omega]
def cu0 (a : Nat → Nat) : St := (fun c k => if c = 27 ∧ k = 3 then -1 else 0, fun _ _ => 0, va_up (fun _ _ => 0) 29 (upd (fun _ => 0) ((0 : Int32).toNatClampNeg) (-1)), fun _ _ => 0, fun _ _ => 0, fun k => if k = 0 then a 3 else a 15)
def mu0 : St := (fun c k => if c = 0 ∧ (k = 5 ∨ k = 45) then -1 else 0, fun _ _ => 0, fun _ _ => 0, fun _ _ => 0, fun _ _ => 0, fun _ => 0)
theorem dX0_init_0 : decode cX0_init 0 = .ok (.aload_n 0, 1) := by decide +kernel
theorem dX0_init_1 : decode cX0_init 1 = .ok (.invokespecial 5, 3) := by decide +kernel
theorem dX0_init_4 : decode cX0_init 4 = .ok (.aload_n 0, 1) := by decide +kernel
theorem dX0_init_5 : decode cX0_init 5 = .ok (.bipush 41, 2) := by decide +kernel
theorem dX0_init_7 : decode cX0_init 7 = .ok (.bipush 29, 2) := by decide +kernel
theorem dX0_init_9 : decode cX0_init 9 = .ok (.multianewarray 11 2, 4) := by decide +kernel
theorem dX0_init_13 : decode cX0_init 13 = .ok (.putfield 13, 3) := by decide +kernel
theorem dX0_init_16 : decode cX0_init 16 = .ok (.return_, 1) := by decide +kernel
theorem wd_372 : (Cond.code ⟨"WebCourt$Acts", "<init>", "()V"⟩ prog_2_method_1_code (1 : Nat) (Option.none : Option FieldType)) ∈ gtb := gtb_c2 23 (by decide +kernel) rfl
theorem wd_373 : (Cond.methodLink "WebCourt$Acts" (5 : Nat) ⟨"java/lang/Object", "<init>", "()V"⟩) ∈ gtb := gtb_c2 24 (by decide +kernel) rfl
theorem wd_374 : (Cond.classLink "WebCourt$Acts" (11 : Nat) "[[I") ∈ gtb := gtb_c2 25 (by decide +kernel) rfl
theorem va_Psw {D : va_G} {a b c d : va_W} {H : Heap} (h : va_P D vwCl (((a ++ b) ++ c) ++ d) H) : va_P D vwCl (((a ++ c) ++ b) ++ d) H := by
  have h1 := va_P.swap (a := a ++ b) (b := c) (c := d) h
  rw [List.append_assoc a b d] at h1
  have h2 := va_P.swap (a := a) (b := b ++ d) (c := c) h1
  rw [← List.append_assoc] at h2
  exact h2
theorem va_Dsw {A : Nat → Prop} {a b c d : va_W} (h : va_D A (((a ++ b) ++ c) ++ d)) : va_D A (((a ++ c) ++ b) ++ d) := by
  have h1 := va_D.swap (a := a ++ b) (b := c) (c := d) h
  rw [List.append_assoc a b d] at h1
  have h2 := va_D.swap (a := a) (b := b ++ d) (c := c) h1
  rw [← List.append_assoc] at h2
  exact h2
theorem wd_376 : (Cond.fieldLink "WebCourt$Acts" (13 : Nat) "WebCourt$Acts" "rows" "[[I") ∈ gtb := gtb_c2 27 (by decide +kernel) rfl
theorem wd_382 : (Cond.laysFinal "WebCourt$Acts" "WebCourt$Acts" "rows" "[[I") ∈ gtb := gtb_c2 33 (by decide +kernel) rfl
theorem wd_384 : (Cond.lays "WebCourt$Acts" "WebCourt$Acts" "first" "I") ∈ gtb := gtb_c2 35 (by decide +kernel) rfl
theorem wd_386 : (Cond.lays "WebCourt$Acts" "WebCourt$Acts" "done" "I") ∈ gtb := gtb_c2 37 (by decide +kernel) rfl
theorem wd_388 : (Cond.lays "WebCourt$Acts" "WebCourt$Acts" "undone" "I") ∈ gtb := gtb_c2 39 (by decide +kernel) rfl
theorem inFX0 : ∀ w ∈ u_ws RX0 TX0 4, w ∈ gtb := by
  show ∀ w ∈ [u_lay RX0 TX0 0, u_lay RX0 TX0 1, u_lay RX0 TX0 2, u_lay RX0 TX0 3], w ∈ gtb
  exact List.forall_mem_cons.mpr ⟨wd_382, List.forall_mem_cons.mpr ⟨wd_384, List.forall_mem_cons.mpr ⟨wd_386, List.forall_mem_cons.mpr ⟨wd_388, fun _ h => absurd h List.not_mem_nil⟩⟩⟩⟩
set_option maxHeartbeats 8000000 in
set_option maxRecDepth 100000 in
theorem K_X0 (l : Launch) (D : va_G) (cy : Nat → ClassId) (h0 : Nat) : Mc (S := (Nat → Nat) × (Nat → Nat)) l D cy yX0_init (.code yX0_init cX0_init 1 none) { frames := 1, cells := 42, slots := 1230, locals := 20 } [.ref h0] [(h0, .inr (0, [.null, .int 0, .int 0, .int 0]))] (fun q => [(h0, .inr (0, [.ref (q.1 0), .int 0, .int 0, .int 0])), ((q.1 0), .inl (cy 4, 41, .inr (.inr (.inr (.inr (fun i => if i < 41 then some (q.2 i) else none))))))] ++ ((List.range 41).map (fun i => (q.2 i, .inl (cy 1, 29, .inl (fun _ => 0)))) : va_W)) (fun _ => True) 42 1230 := by
  refine Mc.of (own := RX0) rfl rfl (by decide) (Nat.le_of_ble_eq_true rfl) ?_
  intro p e s m below meth c A Q ls C hQ hin hret hO hl
  obtain ⟨hx, hb, hml, hown, ht, hK, hA⟩ := id C
  have hl : lv_has ls 1 [(0, .ref h0)] := hl
  have hO : Wo D A ([(h0, .inr (0, [.null, .int 0, .int 0, .int 0]))] ++ ([] : va_W)) s.heap s.heap [] := hO
  refine lv_aload_n hx hb dX0_init_0 rfl (lv_at hl 0 rfl) ?_
  refine oI C wd_373 wd_135 wd_136 hl.1 dX0_init_1 (Nat.le_of_ble_eq_true rfl) (Nat.le_of_ble_eq_true rfl) ?_
  refine lv_aload_n hx hb dX0_init_4 rfl (lv_at hl 0 rfl) ?_
  refine lv_bipush (v := 41) hx hb dX0_init_5 (by decide) ?_
  refine lv_bipush (v := 29) hx hb dX0_init_7 (by decide) ?_
  refine nRows (N := 41) (K := 29) C hQ hO wd_374 wd_220 (by decide) (by decide) rfl rfl (Nat.le_of_ble_eq_true rfl) (Nat.le_of_ble_eq_true rfl) (Nat.le_of_ble_eq_true rfl) (Nat.le_of_ble_eq_true rfl) dX0_init_9 (fun q1 r2 H hO => ?_)
  have hO : Wo D A ((([(h0, .inr (0, [.null, .int 0, .int 0, .int 0]))] ++ ([] : va_W)) ++ [(q1, .inl (cy 4, 41, .inr (.inr (.inr (.inr (fun i => if i < 41 then some (r2 i) else none))))))]) ++ ((List.range 41).map (fun i => (r2 i, .inl (cy 1, 29, .inl (fun _ => 0)))) : va_W)) s.heap H [] := hO
  have hO : Wo D A ((([(h0, .inr (0, [.null, .int 0, .int 0, .int 0]))] ++ [(q1, .inl (cy 4, 41, .inr (.inr (.inr (.inr (fun i => if i < 41 then some (r2 i) else none))))))]) ++ ([] : va_W)) ++ ((List.range 41).map (fun i => (r2 i, .inl (cy 1, 29, .inl (fun _ => 0)))) : va_W)) s.heap H [] := ⟨va_Psw hO.1, va_Dsw hO.2.1, hO.2.2⟩
  have hO : Wo D A ([(h0, .inr (0, [.null, .int 0, .int 0, .int 0])), (q1, .inl (cy 4, 41, .inr (.inr (.inr (.inr (fun i => if i < 41 then some (r2 i) else none))))))] ++ ((List.range 41).map (fun i => (r2 i, .inl (cy 1, 29, .inl (fun _ => 0)))) : va_W)) s.heap H [] := hO
  refine pFF (k := 0) (ws' := [(h0, .inr (0, [.ref q1, .int 0, .int 0, .int 0])), (q1, .inl (cy 4, 41, .inr (.inr (.inr (.inr (fun i => if i < 41 then some (r2 i) else none))))))] ++ ((List.range 41).map (fun i => (r2 i, .inl (cy 1, 29, .inl (fun _ => 0)))) : va_W)) (ty := tyX0 0) (v := .ref q1) C hin hO 0 rfl rfl inFX0 (by decide) wd_376 rfl rfl tyX0 tyX0_ok nmX0 rfl (by decide +kernel) rfl rfl (Nat.le_of_ble_eq_true rfl) rfl dX0_init_13 (fun H locs hO => ?_)
  exact hret ((fun i => ([q1] : List Nat).getD i 0), r2) _ _ _ _ dX0_init_16 trivial hO
theorem dX10_init_0 : decode cX10_init 0 = .ok (.aload_n 0, 1) := by decide +kernel
theorem dX10_init_1 : decode cX10_init 1 = .ok (.invokespecial 3, 3) := by decide +kernel
theorem dX10_init_4 : decode cX10_init 4 = .ok (.aload_n 0, 1) := by decide +kernel
theorem dX10_init_5 : decode cX10_init 5 = .ok (.new 9, 3) := by decide +kernel
theorem dX10_init_8 : decode cX10_init 8 = .ok (.dup, 1) := by decide +kernel
theorem dX10_init_9 : decode cX10_init 9 = .ok (.invokespecial 11, 3) := by decide +kernel
theorem dX10_init_12 : decode cX10_init 12 = .ok (.putfield 12, 3) := by decide +kernel
theorem dX10_init_15 : decode cX10_init 15 = .ok (.aload_n 0, 1) := by decide +kernel
theorem dX10_init_16 : decode cX10_init 16 = .ok (.new 16, 3) := by decide +kernel
theorem dX10_init_19 : decode cX10_init 19 = .ok (.dup, 1) := by decide +kernel
theorem dX10_init_20 : decode cX10_init 20 = .ok (.invokespecial 18, 3) := by decide +kernel
theorem dX10_init_23 : decode cX10_init 23 = .ok (.putfield 19, 3) := by decide +kernel
theorem dX10_init_26 : decode cX10_init 26 = .ok (.aload_n 0, 1) := by decide +kernel
theorem dX10_init_27 : decode cX10_init 27 = .ok (.new 23, 3) := by decide +kernel
theorem dX10_init_30 : decode cX10_init 30 = .ok (.dup, 1) := by decide +kernel
theorem dX10_init_31 : decode cX10_init 31 = .ok (.aload_n 0, 1) := by decide +kernel
theorem dX10_init_32 : decode cX10_init 32 = .ok (.getfield 12, 3) := by decide +kernel
theorem dX10_init_35 : decode cX10_init 35 = .ok (.aload_n 0, 1) := by decide +kernel
theorem dX10_init_36 : decode cX10_init 36 = .ok (.getfield 19, 3) := by decide +kernel
theorem dX10_init_39 : decode cX10_init 39 = .ok (.invokespecial 25, 3) := by decide +kernel
theorem dX10_init_42 : decode cX10_init 42 = .ok (.putfield 28, 3) := by decide +kernel
theorem dX10_init_45 : decode cX10_init 45 = .ok (.aload_n 0, 1) := by decide +kernel
theorem dX10_init_46 : decode cX10_init 46 = .ok (.new 32, 3) := by decide +kernel
theorem dX10_init_49 : decode cX10_init 49 = .ok (.dup, 1) := by decide +kernel
theorem dX10_init_50 : decode cX10_init 50 = .ok (.new 16, 3) := by decide +kernel
theorem dX10_init_53 : decode cX10_init 53 = .ok (.dup, 1) := by decide +kernel
theorem dX10_init_54 : decode cX10_init 54 = .ok (.invokespecial 18, 3) := by decide +kernel
theorem dX10_init_57 : decode cX10_init 57 = .ok (.invokespecial 34, 3) := by decide +kernel
theorem dX10_init_60 : decode cX10_init 60 = .ok (.putfield 37, 3) := by decide +kernel
theorem dX10_init_63 : decode cX10_init 63 = .ok (.aload_n 0, 1) := by decide +kernel
theorem dX10_init_64 : decode cX10_init 64 = .ok (.new 41, 3) := by decide +kernel
theorem dX10_init_67 : decode cX10_init 67 = .ok (.dup, 1) := by decide +kernel
theorem dX10_init_68 : decode cX10_init 68 = .ok (.invokespecial 43, 3) := by decide +kernel
theorem dX10_init_71 : decode cX10_init 71 = .ok (.putfield 44, 3) := by decide +kernel
theorem dX10_init_74 : decode cX10_init 74 = .ok (.aload_n 0, 1) := by decide +kernel
theorem dX10_init_75 : decode cX10_init 75 = .ok (.new 48, 3) := by decide +kernel
theorem dX10_init_78 : decode cX10_init 78 = .ok (.dup, 1) := by decide +kernel
theorem dX10_init_79 : decode cX10_init 79 = .ok (.aload_n 0, 1) := by decide +kernel
theorem dX10_init_80 : decode cX10_init 80 = .ok (.getfield 37, 3) := by decide +kernel
theorem dX10_init_83 : decode cX10_init 83 = .ok (.invokespecial 50, 3) := by decide +kernel
theorem dX10_init_86 : decode cX10_init 86 = .ok (.putfield 53, 3) := by decide +kernel
theorem dX10_init_89 : decode cX10_init 89 = .ok (.aload_n 0, 1) := by decide +kernel
theorem dX10_init_90 : decode cX10_init 90 = .ok (.new 57, 3) := by decide +kernel
theorem dX10_init_93 : decode cX10_init 93 = .ok (.dup, 1) := by decide +kernel
theorem dX10_init_94 : decode cX10_init 94 = .ok (.aload_n 0, 1) := by decide +kernel
theorem dX10_init_95 : decode cX10_init 95 = .ok (.getfield 37, 3) := by decide +kernel
theorem dX10_init_98 : decode cX10_init 98 = .ok (.aload_n 0, 1) := by decide +kernel
theorem dX10_init_99 : decode cX10_init 99 = .ok (.getfield 53, 3) := by decide +kernel
theorem dX10_init_102 : decode cX10_init 102 = .ok (.invokespecial 59, 3) := by decide +kernel
theorem dX10_init_105 : decode cX10_init 105 = .ok (.putfield 62, 3) := by decide +kernel
theorem dX10_init_108 : decode cX10_init 108 = .ok (.aload_n 0, 1) := by decide +kernel
theorem dX10_init_109 : decode cX10_init 109 = .ok (.new 66, 3) := by decide +kernel
theorem dX10_init_112 : decode cX10_init 112 = .ok (.dup, 1) := by decide +kernel
theorem dX10_init_113 : decode cX10_init 113 = .ok (.aload_n 0, 1) := by decide +kernel
theorem dX10_init_114 : decode cX10_init 114 = .ok (.getfield 37, 3) := by decide +kernel
theorem dX10_init_117 : decode cX10_init 117 = .ok (.invokespecial 68, 3) := by decide +kernel
theorem dX10_init_120 : decode cX10_init 120 = .ok (.putfield 69, 3) := by decide +kernel
theorem dX10_init_123 : decode cX10_init 123 = .ok (.aload_n 0, 1) := by decide +kernel
theorem dX10_init_124 : decode cX10_init 124 = .ok (.new 73, 3) := by decide +kernel
theorem dX10_init_127 : decode cX10_init 127 = .ok (.dup, 1) := by decide +kernel
theorem dX10_init_128 : decode cX10_init 128 = .ok (.invokespecial 75, 3) := by decide +kernel
theorem dX10_init_131 : decode cX10_init 131 = .ok (.putfield 76, 3) := by decide +kernel
theorem dX10_init_134 : decode cX10_init 134 = .ok (.aload_n 0, 1) := by decide +kernel
theorem dX10_init_135 : decode cX10_init 135 = .ok (.iconst 3, 1) := by decide +kernel
theorem dX10_init_136 : decode cX10_init 136 = .ok (.bipush 29, 2) := by decide +kernel
theorem dX10_init_138 : decode cX10_init 138 = .ok (.multianewarray 80 2, 4) := by decide +kernel
theorem dX10_init_142 : decode cX10_init 142 = .ok (.putfield 82, 3) := by decide +kernel
theorem dX10_init_145 : decode cX10_init 145 = .ok (.aload_n 0, 1) := by decide +kernel
theorem dX10_init_146 : decode cX10_init 146 = .ok (.bipush 8, 2) := by decide +kernel
theorem dX10_init_148 : decode cX10_init 148 = .ok (.newarray .int, 2) := by decide +kernel
theorem dX10_init_150 : decode cX10_init 150 = .ok (.putfield 85, 3) := by decide +kernel
theorem dX10_init_153 : decode cX10_init 153 = .ok (.return_, 1) := by decide +kernel
theorem wd_133 : (Cond.code ⟨"WebCourt", "<init>", "()V"⟩ prog_1_method_1_code (1 : Nat) (Option.none : Option FieldType)) ∈ gtb := gtb_c1 24 (by decide +kernel) rfl
theorem wd_134 : (Cond.methodLink "WebCourt" (3 : Nat) ⟨"java/lang/Object", "<init>", "()V"⟩) ∈ gtb := gtb_c1 25 (by decide +kernel) rfl
theorem wd_137 : (Cond.classLink "WebCourt" (9 : Nat) "WebCourt$Tape") ∈ gtb := gtb_c1 28 (by decide +kernel) rfl
theorem wd_138 : (Cond.instantiable "WebCourt$Tape" (7 : Nat)) ∈ gtb := gtb_c1 29 (by decide +kernel) rfl
theorem wd_111 : (Cond.initialized "WebCourt$Tape") ∈ gtb := gtb_c1 2 (by decide +kernel) rfl
theorem hd_yX7_init : yX7_init.cls ≠ "java/lang/invoke/MethodHandle" ∧ yX7_init.cls ≠ "java/lang/invoke/VarHandle" ∧ (parseMethodDescriptor yX7_init.desc).map (fun d => d.parameters.length) = some 0 := by decide +kernel
theorem wd_140 : (Cond.instanceMethod ⟨"WebCourt$Tape", "<init>", "()V"⟩) ∈ gtb := gtb_c1 31 (by decide +kernel) rfl
theorem wd_468 : (Cond.fieldLink "WebCourt" (12 : Nat) "WebCourt" "tape" "LWebCourt$Tape;") ∈ gtb := gtb_c2 119 (by decide +kernel) rfl
theorem wd_481 : (Cond.laysFinal "WebCourt" "WebCourt" "tape" "LWebCourt$Tape;") ∈ gtb := gtb_c2 132 (by decide +kernel) rfl
theorem wd_483 : (Cond.laysFinal "WebCourt" "WebCourt" "reader" "LWebCourt$Reader;") ∈ gtb := gtb_c2 134 (by decide +kernel) rfl
theorem wd_485 : (Cond.laysFinal "WebCourt" "WebCourt" "court" "LWebCourt$Court;") ∈ gtb := gtb_c2 136 (by decide +kernel) rfl
theorem wd_487 : (Cond.laysFinal "WebCourt" "WebCourt" "acts" "LWebCourt$Acts;") ∈ gtb := gtb_c2 138 (by decide +kernel) rfl
theorem wd_489 : (Cond.laysFinal "WebCourt" "WebCourt" "ways" "LWebCourt$Ways;") ∈ gtb := gtb_c2 140 (by decide +kernel) rfl
theorem wd_491 : (Cond.laysFinal "WebCourt" "WebCourt" "rounds" "LWebCourt$Rounds;") ∈ gtb := gtb_c2 142 (by decide +kernel) rfl
theorem wd_493 : (Cond.laysFinal "WebCourt" "WebCourt" "counsel" "LWebCourt$Counsel;") ∈ gtb := gtb_c2 144 (by decide +kernel) rfl
theorem wd_495 : (Cond.laysFinal "WebCourt" "WebCourt" "hearsay" "LWebCourt$Hearsay;") ∈ gtb := gtb_c2 146 (by decide +kernel) rfl
theorem wd_497 : (Cond.laysFinal "WebCourt" "WebCourt" "boxes" "[[I") ∈ gtb := gtb_c2 148 (by decide +kernel) rfl
theorem wd_499 : (Cond.laysFinal "WebCourt" "WebCourt" "lying" "[I") ∈ gtb := gtb_c2 150 (by decide +kernel) rfl
theorem wd_501 : (Cond.lays "WebCourt" "WebCourt" "lyingCount" "I") ∈ gtb := gtb_c2 152 (by decide +kernel) rfl
theorem wd_503 : (Cond.lays "WebCourt" "WebCourt" "boxesKept" "I") ∈ gtb := gtb_c2 154 (by decide +kernel) rfl
theorem wd_505 : (Cond.lays "WebCourt" "WebCourt" "draft" "LWebCourt$Web;") ∈ gtb := gtb_c2 156 (by decide +kernel) rfl
theorem inFX10 : ∀ w ∈ u_ws RX10 TX10 13, w ∈ gtb := by
  show ∀ w ∈ [u_lay RX10 TX10 0, u_lay RX10 TX10 1, u_lay RX10 TX10 2, u_lay RX10 TX10 3, u_lay RX10 TX10 4, u_lay RX10 TX10 5, u_lay RX10 TX10 6, u_lay RX10 TX10 7, u_lay RX10 TX10 8, u_lay RX10 TX10 9, u_lay RX10 TX10 10, u_lay RX10 TX10 11, u_lay RX10 TX10 12], w ∈ gtb
  exact List.forall_mem_cons.mpr ⟨wd_481, List.forall_mem_cons.mpr ⟨wd_483, List.forall_mem_cons.mpr ⟨wd_485, List.forall_mem_cons.mpr ⟨wd_487, List.forall_mem_cons.mpr ⟨wd_489, List.forall_mem_cons.mpr ⟨wd_491, List.forall_mem_cons.mpr ⟨wd_493, List.forall_mem_cons.mpr ⟨wd_495, List.forall_mem_cons.mpr ⟨wd_497, List.forall_mem_cons.mpr ⟨wd_499, List.forall_mem_cons.mpr ⟨wd_501, List.forall_mem_cons.mpr ⟨wd_503, List.forall_mem_cons.mpr ⟨wd_505, fun _ h => absurd h List.not_mem_nil⟩⟩⟩⟩⟩⟩⟩⟩⟩⟩⟩⟩⟩
theorem wd_171 : (Cond.classLink "WebCourt" (16 : Nat) "WebCourt$Web") ∈ gtb := gtb_c1 62 (by decide +kernel) rfl
theorem wd_172 : (Cond.instantiable "WebCourt$Web" (18 : Nat)) ∈ gtb := gtb_c1 63 (by decide +kernel) rfl
theorem wd_112 : (Cond.initialized "WebCourt$Web") ∈ gtb := gtb_c1 3 (by decide +kernel) rfl
theorem hd_yX9_init : yX9_init.cls ≠ "java/lang/invoke/MethodHandle" ∧ yX9_init.cls ≠ "java/lang/invoke/VarHandle" ∧ (parseMethodDescriptor yX9_init.desc).map (fun d => d.parameters.length) = some 0 := by decide +kernel
theorem wd_174 : (Cond.instanceMethod ⟨"WebCourt$Web", "<init>", "()V"⟩) ∈ gtb := gtb_c1 65 (by decide +kernel) rfl
theorem wd_480 : (Cond.fieldLink "WebCourt" (19 : Nat) "WebCourt" "draft" "LWebCourt$Web;") ∈ gtb := gtb_c2 131 (by decide +kernel) rfl
theorem wd_326 : (Cond.classLink "WebCourt" (23 : Nat) "WebCourt$Reader") ∈ gtb := gtb_c1 217 (by decide +kernel) rfl
theorem wd_327 : (Cond.instantiable "WebCourt$Reader" (4 : Nat)) ∈ gtb := gtb_c1 218 (by decide +kernel) rfl
theorem wd_114 : (Cond.initialized "WebCourt$Reader") ∈ gtb := gtb_c1 5 (by decide +kernel) rfl
theorem gf_RX10_12 {p : Program} {l : Launch} {e : Env} {R : Room} {s : State} {m : MethodId} {args : Array Value} {below : List Frame} {meth : Method} {c : Code} {H : Heap} {locs : List Loc} {cells slots : Nat} {Q : State → Prop} {cc : ByteArray} {pc nL : Nat} {ls : Array Slot} {rest : List Value} {D : va_G} {cy : Nat → ClassId} {A : Nat → Prop} {ws : va_W} {b : Nat} {fs : List Value} {v : Value} (C : Cx p s m args c cc nL RX10 D cy A) (hO : Wo D A ws s.heap H locs) (q0 : Nat) (he : ws[q0]? = some (b, .inr (10, fs))) (hv : fs[0]? = some v) (hdg : decode cc pc = .ok (.getfield 12, 3)) (kk : W p l e R s m args below meth c H locs cells slots Q (F0 m (pc + 3) ls (v :: rest))) : W p l e R s m args below meth c H locs cells slots Q (F0 m pc ls (.ref b :: rest)) := gF (k := 0) C hO q0 he rfl inFX10 (by decide) wd_468 rfl hv hdg kk
theorem gf_RX10_19 {p : Program} {l : Launch} {e : Env} {R : Room} {s : State} {m : MethodId} {args : Array Value} {below : List Frame} {meth : Method} {c : Code} {H : Heap} {locs : List Loc} {cells slots : Nat} {Q : State → Prop} {cc : ByteArray} {pc nL : Nat} {ls : Array Slot} {rest : List Value} {D : va_G} {cy : Nat → ClassId} {A : Nat → Prop} {ws : va_W} {b : Nat} {fs : List Value} {v : Value} (C : Cx p s m args c cc nL RX10 D cy A) (hO : Wo D A ws s.heap H locs) (q0 : Nat) (he : ws[q0]? = some (b, .inr (10, fs))) (hv : fs[12]? = some v) (hdg : decode cc pc = .ok (.getfield 19, 3)) (kk : W p l e R s m args below meth c H locs cells slots Q (F0 m (pc + 3) ls (v :: rest))) : W p l e R s m args below meth c H locs cells slots Q (F0 m pc ls (.ref b :: rest)) := gF (k := 12) C hO q0 he rfl inFX10 (by decide) wd_480 rfl hv hdg kk
theorem wd_328 : (Cond.methodLink "WebCourt" (25 : Nat) ⟨"WebCourt$Reader", "<init>", "(LWebCourt$Tape;LWebCourt$Web;)V"⟩) ∈ gtb := gtb_c1 219 (by decide +kernel) rfl
theorem wd_329 : (Cond.instanceMethod ⟨"WebCourt$Reader", "<init>", "(LWebCourt$Tape;LWebCourt$Web;)V"⟩) ∈ gtb := gtb_c1 220 (by decide +kernel) rfl
theorem hd_yX5_init : yX5_init.cls ≠ "java/lang/invoke/MethodHandle" ∧ yX5_init.cls ≠ "java/lang/invoke/VarHandle" ∧ (parseMethodDescriptor yX5_init.desc).map (fun d => d.parameters.length) = some 2 := by decide +kernel
theorem wd_469 : (Cond.fieldLink "WebCourt" (28 : Nat) "WebCourt" "reader" "LWebCourt$Reader;") ∈ gtb := gtb_c2 120 (by decide +kernel) rfl
theorem wd_347 : (Cond.classLink "WebCourt" (32 : Nat) "WebCourt$Court") ∈ gtb := gtb_c1 238 (by decide +kernel) rfl
theorem wd_348 : (Cond.instantiable "WebCourt$Court" (2 : Nat)) ∈ gtb := gtb_c1 239 (by decide +kernel) rfl
theorem wd_115 : (Cond.initialized "WebCourt$Court") ∈ gtb := gtb_c1 6 (by decide +kernel) rfl
theorem wd_349 : (Cond.methodLink "WebCourt" (34 : Nat) ⟨"WebCourt$Court", "<init>", "(LWebCourt$Web;)V"⟩) ∈ gtb := gtb_c2 0 (by decide +kernel) rfl
theorem wd_350 : (Cond.instanceMethod ⟨"WebCourt$Court", "<init>", "(LWebCourt$Web;)V"⟩) ∈ gtb := gtb_c2 1 (by decide +kernel) rfl
theorem hd_yX2_init : yX2_init.cls ≠ "java/lang/invoke/MethodHandle" ∧ yX2_init.cls ≠ "java/lang/invoke/VarHandle" ∧ (parseMethodDescriptor yX2_init.desc).map (fun d => d.parameters.length) = some 1 := by decide +kernel
theorem wd_470 : (Cond.fieldLink "WebCourt" (37 : Nat) "WebCourt" "court" "LWebCourt$Court;") ∈ gtb := gtb_c2 121 (by decide +kernel) rfl
theorem wd_368 : (Cond.classLink "WebCourt" (41 : Nat) "WebCourt$Acts") ∈ gtb := gtb_c2 19 (by decide +kernel) rfl
theorem wd_369 : (Cond.instantiable "WebCourt$Acts" (4 : Nat)) ∈ gtb := gtb_c2 20 (by decide +kernel) rfl
theorem wd_116 : (Cond.initialized "WebCourt$Acts") ∈ gtb := gtb_c1 7 (by decide +kernel) rfl
theorem hd_yX0_init : yX0_init.cls ≠ "java/lang/invoke/MethodHandle" ∧ yX0_init.cls ≠ "java/lang/invoke/VarHandle" ∧ (parseMethodDescriptor yX0_init.desc).map (fun d => d.parameters.length) = some 0 := by decide +kernel
theorem wd_371 : (Cond.instanceMethod ⟨"WebCourt$Acts", "<init>", "()V"⟩) ∈ gtb := gtb_c2 22 (by decide +kernel) rfl
theorem wd_471 : (Cond.fieldLink "WebCourt" (44 : Nat) "WebCourt" "acts" "LWebCourt$Acts;") ∈ gtb := gtb_c2 122 (by decide +kernel) rfl
theorem wd_391 : (Cond.classLink "WebCourt" (48 : Nat) "WebCourt$Ways") ∈ gtb := gtb_c2 42 (by decide +kernel) rfl
theorem wd_392 : (Cond.instantiable "WebCourt$Ways" (2 : Nat)) ∈ gtb := gtb_c2 43 (by decide +kernel) rfl
theorem wd_117 : (Cond.initialized "WebCourt$Ways") ∈ gtb := gtb_c1 8 (by decide +kernel) rfl
theorem gf_RX10_37 {p : Program} {l : Launch} {e : Env} {R : Room} {s : State} {m : MethodId} {args : Array Value} {below : List Frame} {meth : Method} {c : Code} {H : Heap} {locs : List Loc} {cells slots : Nat} {Q : State → Prop} {cc : ByteArray} {pc nL : Nat} {ls : Array Slot} {rest : List Value} {D : va_G} {cy : Nat → ClassId} {A : Nat → Prop} {ws : va_W} {b : Nat} {fs : List Value} {v : Value} (C : Cx p s m args c cc nL RX10 D cy A) (hO : Wo D A ws s.heap H locs) (q0 : Nat) (he : ws[q0]? = some (b, .inr (10, fs))) (hv : fs[2]? = some v) (hdg : decode cc pc = .ok (.getfield 37, 3)) (kk : W p l e R s m args below meth c H locs cells slots Q (F0 m (pc + 3) ls (v :: rest))) : W p l e R s m args below meth c H locs cells slots Q (F0 m pc ls (.ref b :: rest)) := gF (k := 2) C hO q0 he rfl inFX10 (by decide) wd_470 rfl hv hdg kk
theorem wd_393 : (Cond.methodLink "WebCourt" (50 : Nat) ⟨"WebCourt$Ways", "<init>", "(LWebCourt$Court;)V"⟩) ∈ gtb := gtb_c2 44 (by decide +kernel) rfl
theorem wd_394 : (Cond.instanceMethod ⟨"WebCourt$Ways", "<init>", "(LWebCourt$Court;)V"⟩) ∈ gtb := gtb_c2 45 (by decide +kernel) rfl
theorem hd_yX8_init : yX8_init.cls ≠ "java/lang/invoke/MethodHandle" ∧ yX8_init.cls ≠ "java/lang/invoke/VarHandle" ∧ (parseMethodDescriptor yX8_init.desc).map (fun d => d.parameters.length) = some 1 := by decide +kernel
theorem wd_472 : (Cond.fieldLink "WebCourt" (53 : Nat) "WebCourt" "ways" "LWebCourt$Ways;") ∈ gtb := gtb_c2 123 (by decide +kernel) rfl
theorem wd_404 : (Cond.classLink "WebCourt" (57 : Nat) "WebCourt$Rounds") ∈ gtb := gtb_c2 55 (by decide +kernel) rfl
theorem wd_405 : (Cond.instantiable "WebCourt$Rounds" (3 : Nat)) ∈ gtb := gtb_c2 56 (by decide +kernel) rfl
theorem wd_118 : (Cond.initialized "WebCourt$Rounds") ∈ gtb := gtb_c1 9 (by decide +kernel) rfl
theorem gf_RX10_53 {p : Program} {l : Launch} {e : Env} {R : Room} {s : State} {m : MethodId} {args : Array Value} {below : List Frame} {meth : Method} {c : Code} {H : Heap} {locs : List Loc} {cells slots : Nat} {Q : State → Prop} {cc : ByteArray} {pc nL : Nat} {ls : Array Slot} {rest : List Value} {D : va_G} {cy : Nat → ClassId} {A : Nat → Prop} {ws : va_W} {b : Nat} {fs : List Value} {v : Value} (C : Cx p s m args c cc nL RX10 D cy A) (hO : Wo D A ws s.heap H locs) (q0 : Nat) (he : ws[q0]? = some (b, .inr (10, fs))) (hv : fs[4]? = some v) (hdg : decode cc pc = .ok (.getfield 53, 3)) (kk : W p l e R s m args below meth c H locs cells slots Q (F0 m (pc + 3) ls (v :: rest))) : W p l e R s m args below meth c H locs cells slots Q (F0 m pc ls (.ref b :: rest)) := gF (k := 4) C hO q0 he rfl inFX10 (by decide) wd_472 rfl hv hdg kk
theorem wd_406 : (Cond.methodLink "WebCourt" (59 : Nat) ⟨"WebCourt$Rounds", "<init>", "(LWebCourt$Court;LWebCourt$Ways;)V"⟩) ∈ gtb := gtb_c2 57 (by decide +kernel) rfl
theorem wd_407 : (Cond.instanceMethod ⟨"WebCourt$Rounds", "<init>", "(LWebCourt$Court;LWebCourt$Ways;)V"⟩) ∈ gtb := gtb_c2 58 (by decide +kernel) rfl
theorem hd_yX6_init : yX6_init.cls ≠ "java/lang/invoke/MethodHandle" ∧ yX6_init.cls ≠ "java/lang/invoke/VarHandle" ∧ (parseMethodDescriptor yX6_init.desc).map (fun d => d.parameters.length) = some 2 := by decide +kernel
theorem wd_473 : (Cond.fieldLink "WebCourt" (62 : Nat) "WebCourt" "rounds" "LWebCourt$Rounds;") ∈ gtb := gtb_c2 124 (by decide +kernel) rfl
theorem wd_420 : (Cond.classLink "WebCourt" (66 : Nat) "WebCourt$Counsel") ∈ gtb := gtb_c2 71 (by decide +kernel) rfl
theorem wd_421 : (Cond.instantiable "WebCourt$Counsel" (3 : Nat)) ∈ gtb := gtb_c2 72 (by decide +kernel) rfl
theorem wd_119 : (Cond.initialized "WebCourt$Counsel") ∈ gtb := gtb_c1 10 (by decide +kernel) rfl
theorem wd_422 : (Cond.methodLink "WebCourt" (68 : Nat) ⟨"WebCourt$Counsel", "<init>", "(LWebCourt$Court;)V"⟩) ∈ gtb := gtb_c2 73 (by decide +kernel) rfl
theorem wd_423 : (Cond.instanceMethod ⟨"WebCourt$Counsel", "<init>", "(LWebCourt$Court;)V"⟩) ∈ gtb := gtb_c2 74 (by decide +kernel) rfl
theorem hd_yX1_init : yX1_init.cls ≠ "java/lang/invoke/MethodHandle" ∧ yX1_init.cls ≠ "java/lang/invoke/VarHandle" ∧ (parseMethodDescriptor yX1_init.desc).map (fun d => d.parameters.length) = some 1 := by decide +kernel
theorem wd_474 : (Cond.fieldLink "WebCourt" (69 : Nat) "WebCourt" "counsel" "LWebCourt$Counsel;") ∈ gtb := gtb_c2 125 (by decide +kernel) rfl
theorem wd_436 : (Cond.classLink "WebCourt" (73 : Nat) "WebCourt$Hearsay") ∈ gtb := gtb_c2 87 (by decide +kernel) rfl
theorem wd_437 : (Cond.instantiable "WebCourt$Hearsay" (7 : Nat)) ∈ gtb := gtb_c2 88 (by decide +kernel) rfl
theorem wd_120 : (Cond.initialized "WebCourt$Hearsay") ∈ gtb := gtb_c1 11 (by decide +kernel) rfl
theorem hd_yX3_init : yX3_init.cls ≠ "java/lang/invoke/MethodHandle" ∧ yX3_init.cls ≠ "java/lang/invoke/VarHandle" ∧ (parseMethodDescriptor yX3_init.desc).map (fun d => d.parameters.length) = some 0 := by decide +kernel
theorem wd_439 : (Cond.instanceMethod ⟨"WebCourt$Hearsay", "<init>", "()V"⟩) ∈ gtb := gtb_c2 90 (by decide +kernel) rfl
theorem wd_475 : (Cond.fieldLink "WebCourt" (76 : Nat) "WebCourt" "hearsay" "LWebCourt$Hearsay;") ∈ gtb := gtb_c2 126 (by decide +kernel) rfl
theorem wd_467 : (Cond.classLink "WebCourt" (80 : Nat) "[[I") ∈ gtb := gtb_c2 118 (by decide +kernel) rfl
theorem wd_476 : (Cond.fieldLink "WebCourt" (82 : Nat) "WebCourt" "boxes" "[[I") ∈ gtb := gtb_c2 127 (by decide +kernel) rfl
theorem wd_477 : (Cond.fieldLink "WebCourt" (85 : Nat) "WebCourt" "lying" "[I") ∈ gtb := gtb_c2 128 (by decide +kernel) rfl
set_option maxHeartbeats 8000000 in
set_option maxRecDepth 100000 in
theorem K_X10 (l : Launch) (D : va_G) (cy : Nat → ClassId) (h0 : Nat) : Mc (S := (Nat → Nat) × St) l D cy yX10_init (.code yX10_init cX10_init 1 none) { frames := 3, cells := 90, slots := 4463, locals := 60 } [.ref h0] [(h0, .inr (10, [.null, .null, .null, .null, .null, .null, .null, .null, .null, .null, .int 0, .int 0, .null]))] (fun (q : (Nat → Nat) × St) => cW cy q.1 q.2) (fun q => q.2 = cu0 q.1) 90 4463 := by
  refine Mc.of (own := RX10) rfl rfl (by decide) (Nat.le_of_ble_eq_true rfl) ?_
  intro p e s m below meth c A Q ls C hQ hin hret hO hl
  obtain ⟨hx, hb, hml, hown, ht, hK, hA⟩ := id C
  have hl : lv_has ls 1 [(0, .ref h0)] := hl
  have hO : Wo D A ([(h0, .inr (10, [.null, .null, .null, .null, .null, .null, .null, .null, .null, .null, .int 0, .int 0, .null]))] ++ ([] : va_W)) s.heap s.heap [] := hO
  refine lv_aload_n hx hb dX10_init_0 rfl (lv_at hl 0 rfl) ?_
  refine oI C wd_134 wd_135 wd_136 hl.1 dX10_init_1 (Nat.le_of_ble_eq_true rfl) (Nat.le_of_ble_eq_true rfl) ?_
  refine lv_aload_n hx hb dX10_init_4 rfl (lv_at hl 0 rfl) ?_
  refine nOb (ci := 7) (fs := [.null, .int 0, .int 0, .int 0, .int 0, .long 0, .int 0]) C hO inFX7 tyX7 tyX7_ok wd_137 wd_138 wd_111 rfl (fun j hj => by rcases (show j = 0 ∨ j = 1 ∨ j = 2 ∨ j = 3 ∨ j = 4 ∨ j = 5 ∨ j = 6 by omega) with rfl | rfl | rfl | rfl | rfl | rfl | rfl <;> rfl) (Nat.le_of_ble_eq_true rfl) (Nat.le_of_ble_eq_true rfl) dX10_init_5 (fun q1 H hO => ?_)
  have hO := hO.swap
  have hO : Wo D A ([(h0, .inr (10, [.null, .null, .null, .null, .null, .null, .null, .null, .null, .null, .int 0, .int 0, .null])), (q1, .inr (7, [.null, .int 0, .int 0, .int 0, .int 0, .long 0, .int 0]))] ++ ([] : va_W)) s.heap H [] := hO
  refine lv_dup hx hb dX10_init_8 rfl ?_
  refine dIN (As := []) (rest := [.ref q1, .ref h0]) (wc := [(q1, .inr (7, [.null, .int 0, .int 0, .int 0, .int 0, .long 0, .int 0]))]) (wr := [(h0, .inr (10, [.null, .null, .null, .null, .null, .null, .null, .null, .null, .null, .int 0, .int 0, .null]))]) C hQ hO [1] [0] rfl rfl (by decide) (by decide) (by decide) (K_X7 l D cy q1) ⟨va_cnB (host := "WebCourt") 0 ht (gGood wd_141) rfl rfl rfl hQ.2.1 (ht _ wd_111) hd_yX7_init ⟨Nat.le_of_ble_eq_true rfl, Nat.le_of_ble_eq_true rfl⟩, rfl, ht _ wd_140⟩ rfl hl.1 (Nat.le_of_ble_eq_true rfl) dX10_init_9 rfl ⟨Nat.le_of_ble_eq_true rfl, Nat.le_of_ble_eq_true rfl⟩ (fun u2 H locs h_u2 hO => ?_)
  have hO : Wo D A ([(h0, .inr (10, [.null, .null, .null, .null, .null, .null, .null, .null, .null, .null, .int 0, .int 0, .null])), (q1, .inr (7, [.ref (u2 0), .int 0, .int 0, .int 0, .int 0, .long 0, .int 0])), ((u2 0), .inl (cy 0, 1600, .inl (fun _ => 0)))] ++ ([] : va_W)) s.heap H locs := hO
  refine pFF (k := 0) (ws' := [(h0, .inr (10, [.ref q1, .null, .null, .null, .null, .null, .null, .null, .null, .null, .int 0, .int 0, .null])), (q1, .inr (7, [.ref (u2 0), .int 0, .int 0, .int 0, .int 0, .long 0, .int 0])), ((u2 0), .inl (cy 0, 1600, .inl (fun _ => 0)))] ++ ([] : va_W)) (ty := tyX10 0) (v := .ref q1) C hin hO 0 rfl rfl inFX10 (by decide) wd_468 rfl rfl tyX10 tyX10_ok nmX10 rfl (by decide +kernel) rfl rfl (Nat.le_of_ble_eq_true rfl) rfl dX10_init_12 (fun H locs hO => ?_)
  refine lv_aload_n hx hb dX10_init_15 rfl (lv_at hl 0 rfl) ?_
  refine nOb (ci := 9) (fs := [.null, .null, .null, .null, .null, .null, .null, .null, .null, .int 0, .int 0, .int 0, .int 0, .int 0, .int 0, .int 0, .int 0, .int 0]) C hO inFX9 tyX9 tyX9_ok wd_171 wd_172 wd_112 rfl (fun j hj => by rcases (show j = 0 ∨ j = 1 ∨ j = 2 ∨ j = 3 ∨ j = 4 ∨ j = 5 ∨ j = 6 ∨ j = 7 ∨ j = 8 ∨ j = 9 ∨ j = 10 ∨ j = 11 ∨ j = 12 ∨ j = 13 ∨ j = 14 ∨ j = 15 ∨ j = 16 ∨ j = 17 by omega) with rfl | rfl | rfl | rfl | rfl | rfl | rfl | rfl | rfl | rfl | rfl | rfl | rfl | rfl | rfl | rfl | rfl | rfl <;> rfl) (Nat.le_of_ble_eq_true rfl) (Nat.le_of_ble_eq_true rfl) dX10_init_16 (fun q3 H hO => ?_)
  have hO := hO.swap
  have hO : Wo D A ([(h0, .inr (10, [.ref q1, .null, .null, .null, .null, .null, .null, .null, .null, .null, .int 0, .int 0, .null])), (q1, .inr (7, [.ref (u2 0), .int 0, .int 0, .int 0, .int 0, .long 0, .int 0])), ((u2 0), .inl (cy 0, 1600, .inl (fun _ => 0))), (q3, .inr (9, [.null, .null, .null, .null, .null, .null, .null, .null, .null, .int 0, .int 0, .int 0, .int 0, .int 0, .int 0, .int 0, .int 0, .int 0]))] ++ ([] : va_W)) s.heap H locs := hO
  refine lv_dup hx hb dX10_init_19 rfl ?_
  refine dIN (As := []) (rest := [.ref q3, .ref h0]) (wc := [(q3, .inr (9, [.null, .null, .null, .null, .null, .null, .null, .null, .null, .int 0, .int 0, .int 0, .int 0, .int 0, .int 0, .int 0, .int 0, .int 0]))]) (wr := [(h0, .inr (10, [.ref q1, .null, .null, .null, .null, .null, .null, .null, .null, .null, .int 0, .int 0, .null])), (q1, .inr (7, [.ref (u2 0), .int 0, .int 0, .int 0, .int 0, .long 0, .int 0])), ((u2 0), .inl (cy 0, 1600, .inl (fun _ => 0)))]) C hQ hO [3] [0, 1, 2] rfl rfl (by decide) (by decide) (by decide) (K_X9 l D cy q3) ⟨va_cnB (host := "WebCourt") 0 ht (gGood wd_175) rfl rfl rfl hQ.2.2.1 (ht _ wd_112) hd_yX9_init ⟨Nat.le_of_ble_eq_true rfl, Nat.le_of_ble_eq_true rfl⟩, rfl, ht _ wd_174⟩ rfl hl.1 (Nat.le_of_ble_eq_true rfl) dX10_init_20 rfl ⟨Nat.le_of_ble_eq_true rfl, Nat.le_of_ble_eq_true rfl⟩ (fun u4 H locs h_u4 hO => ?_)
  have hO : Wo D A ([(h0, .inr (10, [.ref q1, .null, .null, .null, .null, .null, .null, .null, .null, .null, .int 0, .int 0, .null])), (q1, .inr (7, [.ref (u2 0), .int 0, .int 0, .int 0, .int 0, .long 0, .int 0])), ((u2 0), .inl (cy 0, 1600, .inl (fun _ => 0))), (q3, .inr (9, [.ref (u4 0), .ref (u4 1), .ref (u4 2), .ref (u4 3), .ref (u4 4), .ref (u4 5), .ref (u4 6), .ref (u4 7), .ref (u4 8), .int 0, .int 0, .int 0, .int 0, .int 0, .int 0, .int 0, .int 0, .int 0])), ((u4 0), .inl (cy 2, 8, .inr (.inl (fun _ => 0)))), ((u4 1), .inl (cy 2, 8, .inr (.inl (fun _ => 0)))), ((u4 2), .inl (cy 2, 6, .inr (.inl (fun _ => 0)))), ((u4 3), .inl (cy 1, 14, .inl (fun _ => 0))), ((u4 4), .inl (cy 1, 14, .inl (fun _ => 0))), ((u4 5), .inl (cy 1, 8, .inl (fun _ => 0))), ((u4 6), .inl (cy 1, 6, .inl (fun _ => 0))), ((u4 7), .inl (cy 1, 6, .inl (fun _ => 0))), ((u4 8), .inr (4, [.ref (u4 9), .ref (u4 10), .int 0, .int 0, .int 0, .int 0, .int 0, .int 0, .int 0, .int 0, .int 0])), ((u4 9), .inl (cy 1, 300, .inl (fun _ => 0))), ((u4 10), .inl (cy 1, 31, .inl (fun _ => 0)))] ++ ([] : va_W)) s.heap H locs := hO
  refine pF (k := 12) (ws' := [(h0, .inr (10, [.ref q1, .null, .null, .null, .null, .null, .null, .null, .null, .null, .int 0, .int 0, .ref q3])), (q1, .inr (7, [.ref (u2 0), .int 0, .int 0, .int 0, .int 0, .long 0, .int 0])), ((u2 0), .inl (cy 0, 1600, .inl (fun _ => 0))), (q3, .inr (9, [.ref (u4 0), .ref (u4 1), .ref (u4 2), .ref (u4 3), .ref (u4 4), .ref (u4 5), .ref (u4 6), .ref (u4 7), .ref (u4 8), .int 0, .int 0, .int 0, .int 0, .int 0, .int 0, .int 0, .int 0, .int 0])), ((u4 0), .inl (cy 2, 8, .inr (.inl (fun _ => 0)))), ((u4 1), .inl (cy 2, 8, .inr (.inl (fun _ => 0)))), ((u4 2), .inl (cy 2, 6, .inr (.inl (fun _ => 0)))), ((u4 3), .inl (cy 1, 14, .inl (fun _ => 0))), ((u4 4), .inl (cy 1, 14, .inl (fun _ => 0))), ((u4 5), .inl (cy 1, 8, .inl (fun _ => 0))), ((u4 6), .inl (cy 1, 6, .inl (fun _ => 0))), ((u4 7), .inl (cy 1, 6, .inl (fun _ => 0))), ((u4 8), .inr (4, [.ref (u4 9), .ref (u4 10), .int 0, .int 0, .int 0, .int 0, .int 0, .int 0, .int 0, .int 0, .int 0])), ((u4 9), .inl (cy 1, 300, .inl (fun _ => 0))), ((u4 10), .inl (cy 1, 31, .inl (fun _ => 0)))] ++ ([] : va_W)) (ty := tyX10 12) (v := .ref q3) C hO 0 rfl rfl inFX10 (by decide) wd_480 rfl tyX10 tyX10_ok nmX10 rfl (by decide +kernel) rfl rfl (Nat.le_of_ble_eq_true rfl) rfl dX10_init_23 (fun H locs hO => ?_)
  refine lv_aload_n hx hb dX10_init_26 rfl (lv_at hl 0 rfl) ?_
  refine nOb (ci := 5) (fs := [.null, .null, .int 0, .int 0]) C hO inFX5 tyX5 tyX5_ok wd_326 wd_327 wd_114 rfl (fun j hj => by rcases (show j = 0 ∨ j = 1 ∨ j = 2 ∨ j = 3 by omega) with rfl | rfl | rfl | rfl <;> rfl) (Nat.le_of_ble_eq_true rfl) (Nat.le_of_ble_eq_true rfl) dX10_init_27 (fun q5 H hO => ?_)
  have hO := hO.swap
  have hO : Wo D A ([(h0, .inr (10, [.ref q1, .null, .null, .null, .null, .null, .null, .null, .null, .null, .int 0, .int 0, .ref q3])), (q1, .inr (7, [.ref (u2 0), .int 0, .int 0, .int 0, .int 0, .long 0, .int 0])), ((u2 0), .inl (cy 0, 1600, .inl (fun _ => 0))), (q3, .inr (9, [.ref (u4 0), .ref (u4 1), .ref (u4 2), .ref (u4 3), .ref (u4 4), .ref (u4 5), .ref (u4 6), .ref (u4 7), .ref (u4 8), .int 0, .int 0, .int 0, .int 0, .int 0, .int 0, .int 0, .int 0, .int 0])), ((u4 0), .inl (cy 2, 8, .inr (.inl (fun _ => 0)))), ((u4 1), .inl (cy 2, 8, .inr (.inl (fun _ => 0)))), ((u4 2), .inl (cy 2, 6, .inr (.inl (fun _ => 0)))), ((u4 3), .inl (cy 1, 14, .inl (fun _ => 0))), ((u4 4), .inl (cy 1, 14, .inl (fun _ => 0))), ((u4 5), .inl (cy 1, 8, .inl (fun _ => 0))), ((u4 6), .inl (cy 1, 6, .inl (fun _ => 0))), ((u4 7), .inl (cy 1, 6, .inl (fun _ => 0))), ((u4 8), .inr (4, [.ref (u4 9), .ref (u4 10), .int 0, .int 0, .int 0, .int 0, .int 0, .int 0, .int 0, .int 0, .int 0])), ((u4 9), .inl (cy 1, 300, .inl (fun _ => 0))), ((u4 10), .inl (cy 1, 31, .inl (fun _ => 0))), (q5, .inr (5, [.null, .null, .int 0, .int 0]))] ++ ([] : va_W)) s.heap H locs := hO
  refine lv_dup hx hb dX10_init_30 rfl ?_
  refine lv_aload_n hx hb dX10_init_31 rfl (lv_at hl 0 rfl) ?_
  refine gf_RX10_12 (v := .ref q1) C hO 0 rfl rfl dX10_init_32 ?_
  refine lv_aload_n hx hb dX10_init_35 rfl (lv_at hl 0 rfl) ?_
  refine gf_RX10_19 (v := .ref q3) C hO 0 rfl rfl dX10_init_36 ?_
  refine dI (As := [.ref q1, .ref q3]) (rest := [.ref q5, .ref h0]) (wc := [(q5, .inr (5, [.null, .null, .int 0, .int 0]))]) (wr := [(h0, .inr (10, [.ref q1, .null, .null, .null, .null, .null, .null, .null, .null, .null, .int 0, .int 0, .ref q3])), (q1, .inr (7, [.ref (u2 0), .int 0, .int 0, .int 0, .int 0, .long 0, .int 0])), ((u2 0), .inl (cy 0, 1600, .inl (fun _ => 0))), (q3, .inr (9, [.ref (u4 0), .ref (u4 1), .ref (u4 2), .ref (u4 3), .ref (u4 4), .ref (u4 5), .ref (u4 6), .ref (u4 7), .ref (u4 8), .int 0, .int 0, .int 0, .int 0, .int 0, .int 0, .int 0, .int 0, .int 0])), ((u4 0), .inl (cy 2, 8, .inr (.inl (fun _ => 0)))), ((u4 1), .inl (cy 2, 8, .inr (.inl (fun _ => 0)))), ((u4 2), .inl (cy 2, 6, .inr (.inl (fun _ => 0)))), ((u4 3), .inl (cy 1, 14, .inl (fun _ => 0))), ((u4 4), .inl (cy 1, 14, .inl (fun _ => 0))), ((u4 5), .inl (cy 1, 8, .inl (fun _ => 0))), ((u4 6), .inl (cy 1, 6, .inl (fun _ => 0))), ((u4 7), .inl (cy 1, 6, .inl (fun _ => 0))), ((u4 8), .inr (4, [.ref (u4 9), .ref (u4 10), .int 0, .int 0, .int 0, .int 0, .int 0, .int 0, .int 0, .int 0, .int 0])), ((u4 9), .inl (cy 1, 300, .inl (fun _ => 0))), ((u4 10), .inl (cy 1, 31, .inl (fun _ => 0)))]) C hQ hO [15] [0, 1, 2, 3, 4, 5, 6, 7, 8, 9, 10, 11, 12, 13, 14] rfl rfl (by decide) (by decide) (by decide) (K_X5 l D cy q5 q1 q3) (cwI 2 ht (gGood wd_330) rfl rfl rfl (ht _ wd_114) (ht _ wd_328) (ht _ wd_329) rfl hd_yX5_init ⟨Nat.le_of_ble_eq_true rfl, Nat.le_of_ble_eq_true rfl⟩) rfl hl.1 (Nat.le_of_ble_eq_true rfl) dX10_init_39 rfl ⟨Nat.le_of_ble_eq_true rfl, Nat.le_of_ble_eq_true rfl⟩ (fun u6 H locs h_u6 hO => ?_)
  have hO : Wo D A ([(h0, .inr (10, [.ref q1, .null, .null, .null, .null, .null, .null, .null, .null, .null, .int 0, .int 0, .ref q3])), (q1, .inr (7, [.ref (u2 0), .int 0, .int 0, .int 0, .int 0, .long 0, .int 0])), ((u2 0), .inl (cy 0, 1600, .inl (fun _ => 0))), (q3, .inr (9, [.ref (u4 0), .ref (u4 1), .ref (u4 2), .ref (u4 3), .ref (u4 4), .ref (u4 5), .ref (u4 6), .ref (u4 7), .ref (u4 8), .int 0, .int 0, .int 0, .int 0, .int 0, .int 0, .int 0, .int 0, .int 0])), ((u4 0), .inl (cy 2, 8, .inr (.inl (fun _ => 0)))), ((u4 1), .inl (cy 2, 8, .inr (.inl (fun _ => 0)))), ((u4 2), .inl (cy 2, 6, .inr (.inl (fun _ => 0)))), ((u4 3), .inl (cy 1, 14, .inl (fun _ => 0))), ((u4 4), .inl (cy 1, 14, .inl (fun _ => 0))), ((u4 5), .inl (cy 1, 8, .inl (fun _ => 0))), ((u4 6), .inl (cy 1, 6, .inl (fun _ => 0))), ((u4 7), .inl (cy 1, 6, .inl (fun _ => 0))), ((u4 8), .inr (4, [.ref (u4 9), .ref (u4 10), .int 0, .int 0, .int 0, .int 0, .int 0, .int 0, .int 0, .int 0, .int 0])), ((u4 9), .inl (cy 1, 300, .inl (fun _ => 0))), ((u4 10), .inl (cy 1, 31, .inl (fun _ => 0))), (q5, .inr (5, [.ref q1, .ref q3, .int 0, .int (-1)]))] ++ ([] : va_W)) s.heap H locs := hO
  refine pFF (k := 1) (ws' := [(h0, .inr (10, [.ref q1, .ref q5, .null, .null, .null, .null, .null, .null, .null, .null, .int 0, .int 0, .ref q3])), (q1, .inr (7, [.ref (u2 0), .int 0, .int 0, .int 0, .int 0, .long 0, .int 0])), ((u2 0), .inl (cy 0, 1600, .inl (fun _ => 0))), (q3, .inr (9, [.ref (u4 0), .ref (u4 1), .ref (u4 2), .ref (u4 3), .ref (u4 4), .ref (u4 5), .ref (u4 6), .ref (u4 7), .ref (u4 8), .int 0, .int 0, .int 0, .int 0, .int 0, .int 0, .int 0, .int 0, .int 0])), ((u4 0), .inl (cy 2, 8, .inr (.inl (fun _ => 0)))), ((u4 1), .inl (cy 2, 8, .inr (.inl (fun _ => 0)))), ((u4 2), .inl (cy 2, 6, .inr (.inl (fun _ => 0)))), ((u4 3), .inl (cy 1, 14, .inl (fun _ => 0))), ((u4 4), .inl (cy 1, 14, .inl (fun _ => 0))), ((u4 5), .inl (cy 1, 8, .inl (fun _ => 0))), ((u4 6), .inl (cy 1, 6, .inl (fun _ => 0))), ((u4 7), .inl (cy 1, 6, .inl (fun _ => 0))), ((u4 8), .inr (4, [.ref (u4 9), .ref (u4 10), .int 0, .int 0, .int 0, .int 0, .int 0, .int 0, .int 0, .int 0, .int 0])), ((u4 9), .inl (cy 1, 300, .inl (fun _ => 0))), ((u4 10), .inl (cy 1, 31, .inl (fun _ => 0))), (q5, .inr (5, [.ref q1, .ref q3, .int 0, .int (-1)]))] ++ ([] : va_W)) (ty := tyX10 1) (v := .ref q5) C hin hO 0 rfl rfl inFX10 (by decide) wd_469 rfl rfl tyX10 tyX10_ok nmX10 rfl (by decide +kernel) rfl rfl (Nat.le_of_ble_eq_true rfl) rfl dX10_init_42 (fun H locs hO => ?_)
  refine lv_aload_n hx hb dX10_init_45 rfl (lv_at hl 0 rfl) ?_
  refine nOb (ci := 2) (fs := [.null, .null]) C hO inFX2 tyX2 tyX2_ok wd_347 wd_348 wd_115 rfl (fun j hj => by rcases (show j = 0 ∨ j = 1 by omega) with rfl | rfl <;> rfl) (Nat.le_of_ble_eq_true rfl) (Nat.le_of_ble_eq_true rfl) dX10_init_46 (fun q7 H hO => ?_)
  have hO := hO.swap
  have hO : Wo D A ([(h0, .inr (10, [.ref q1, .ref q5, .null, .null, .null, .null, .null, .null, .null, .null, .int 0, .int 0, .ref q3])), (q1, .inr (7, [.ref (u2 0), .int 0, .int 0, .int 0, .int 0, .long 0, .int 0])), ((u2 0), .inl (cy 0, 1600, .inl (fun _ => 0))), (q3, .inr (9, [.ref (u4 0), .ref (u4 1), .ref (u4 2), .ref (u4 3), .ref (u4 4), .ref (u4 5), .ref (u4 6), .ref (u4 7), .ref (u4 8), .int 0, .int 0, .int 0, .int 0, .int 0, .int 0, .int 0, .int 0, .int 0])), ((u4 0), .inl (cy 2, 8, .inr (.inl (fun _ => 0)))), ((u4 1), .inl (cy 2, 8, .inr (.inl (fun _ => 0)))), ((u4 2), .inl (cy 2, 6, .inr (.inl (fun _ => 0)))), ((u4 3), .inl (cy 1, 14, .inl (fun _ => 0))), ((u4 4), .inl (cy 1, 14, .inl (fun _ => 0))), ((u4 5), .inl (cy 1, 8, .inl (fun _ => 0))), ((u4 6), .inl (cy 1, 6, .inl (fun _ => 0))), ((u4 7), .inl (cy 1, 6, .inl (fun _ => 0))), ((u4 8), .inr (4, [.ref (u4 9), .ref (u4 10), .int 0, .int 0, .int 0, .int 0, .int 0, .int 0, .int 0, .int 0, .int 0])), ((u4 9), .inl (cy 1, 300, .inl (fun _ => 0))), ((u4 10), .inl (cy 1, 31, .inl (fun _ => 0))), (q5, .inr (5, [.ref q1, .ref q3, .int 0, .int (-1)])), (q7, .inr (2, [.null, .null]))] ++ ([] : va_W)) s.heap H locs := hO
  refine lv_dup hx hb dX10_init_49 rfl ?_
  refine nOb (ci := 9) (fs := [.null, .null, .null, .null, .null, .null, .null, .null, .null, .int 0, .int 0, .int 0, .int 0, .int 0, .int 0, .int 0, .int 0, .int 0]) C hO inFX9 tyX9 tyX9_ok wd_171 wd_172 wd_112 rfl (fun j hj => by rcases (show j = 0 ∨ j = 1 ∨ j = 2 ∨ j = 3 ∨ j = 4 ∨ j = 5 ∨ j = 6 ∨ j = 7 ∨ j = 8 ∨ j = 9 ∨ j = 10 ∨ j = 11 ∨ j = 12 ∨ j = 13 ∨ j = 14 ∨ j = 15 ∨ j = 16 ∨ j = 17 by omega) with rfl | rfl | rfl | rfl | rfl | rfl | rfl | rfl | rfl | rfl | rfl | rfl | rfl | rfl | rfl | rfl | rfl | rfl <;> rfl) (Nat.le_of_ble_eq_true rfl) (Nat.le_of_ble_eq_true rfl) dX10_init_50 (fun q8 H hO => ?_)
  have hO := hO.swap
  have hO : Wo D A ([(h0, .inr (10, [.ref q1, .ref q5, .null, .null, .null, .null, .null, .null, .null, .null, .int 0, .int 0, .ref q3])), (q1, .inr (7, [.ref (u2 0), .int 0, .int 0, .int 0, .int 0, .long 0, .int 0])), ((u2 0), .inl (cy 0, 1600, .inl (fun _ => 0))), (q3, .inr (9, [.ref (u4 0), .ref (u4 1), .ref (u4 2), .ref (u4 3), .ref (u4 4), .ref (u4 5), .ref (u4 6), .ref (u4 7), .ref (u4 8), .int 0, .int 0, .int 0, .int 0, .int 0, .int 0, .int 0, .int 0, .int 0])), ((u4 0), .inl (cy 2, 8, .inr (.inl (fun _ => 0)))), ((u4 1), .inl (cy 2, 8, .inr (.inl (fun _ => 0)))), ((u4 2), .inl (cy 2, 6, .inr (.inl (fun _ => 0)))), ((u4 3), .inl (cy 1, 14, .inl (fun _ => 0))), ((u4 4), .inl (cy 1, 14, .inl (fun _ => 0))), ((u4 5), .inl (cy 1, 8, .inl (fun _ => 0))), ((u4 6), .inl (cy 1, 6, .inl (fun _ => 0))), ((u4 7), .inl (cy 1, 6, .inl (fun _ => 0))), ((u4 8), .inr (4, [.ref (u4 9), .ref (u4 10), .int 0, .int 0, .int 0, .int 0, .int 0, .int 0, .int 0, .int 0, .int 0])), ((u4 9), .inl (cy 1, 300, .inl (fun _ => 0))), ((u4 10), .inl (cy 1, 31, .inl (fun _ => 0))), (q5, .inr (5, [.ref q1, .ref q3, .int 0, .int (-1)])), (q7, .inr (2, [.null, .null])), (q8, .inr (9, [.null, .null, .null, .null, .null, .null, .null, .null, .null, .int 0, .int 0, .int 0, .int 0, .int 0, .int 0, .int 0, .int 0, .int 0]))] ++ ([] : va_W)) s.heap H locs := hO
  refine lv_dup hx hb dX10_init_53 rfl ?_
  refine dIN (As := []) (rest := [.ref q8, .ref q7, .ref q7, .ref h0]) (wc := [(q8, .inr (9, [.null, .null, .null, .null, .null, .null, .null, .null, .null, .int 0, .int 0, .int 0, .int 0, .int 0, .int 0, .int 0, .int 0, .int 0]))]) (wr := [(h0, .inr (10, [.ref q1, .ref q5, .null, .null, .null, .null, .null, .null, .null, .null, .int 0, .int 0, .ref q3])), (q1, .inr (7, [.ref (u2 0), .int 0, .int 0, .int 0, .int 0, .long 0, .int 0])), ((u2 0), .inl (cy 0, 1600, .inl (fun _ => 0))), (q3, .inr (9, [.ref (u4 0), .ref (u4 1), .ref (u4 2), .ref (u4 3), .ref (u4 4), .ref (u4 5), .ref (u4 6), .ref (u4 7), .ref (u4 8), .int 0, .int 0, .int 0, .int 0, .int 0, .int 0, .int 0, .int 0, .int 0])), ((u4 0), .inl (cy 2, 8, .inr (.inl (fun _ => 0)))), ((u4 1), .inl (cy 2, 8, .inr (.inl (fun _ => 0)))), ((u4 2), .inl (cy 2, 6, .inr (.inl (fun _ => 0)))), ((u4 3), .inl (cy 1, 14, .inl (fun _ => 0))), ((u4 4), .inl (cy 1, 14, .inl (fun _ => 0))), ((u4 5), .inl (cy 1, 8, .inl (fun _ => 0))), ((u4 6), .inl (cy 1, 6, .inl (fun _ => 0))), ((u4 7), .inl (cy 1, 6, .inl (fun _ => 0))), ((u4 8), .inr (4, [.ref (u4 9), .ref (u4 10), .int 0, .int 0, .int 0, .int 0, .int 0, .int 0, .int 0, .int 0, .int 0])), ((u4 9), .inl (cy 1, 300, .inl (fun _ => 0))), ((u4 10), .inl (cy 1, 31, .inl (fun _ => 0))), (q5, .inr (5, [.ref q1, .ref q3, .int 0, .int (-1)])), (q7, .inr (2, [.null, .null]))]) C hQ hO [17] [0, 1, 2, 3, 4, 5, 6, 7, 8, 9, 10, 11, 12, 13, 14, 15, 16] rfl rfl (by decide) (by decide) (by decide) (K_X9 l D cy q8) ⟨va_cnB (host := "WebCourt") 0 ht (gGood wd_175) rfl rfl rfl hQ.2.2.1 (ht _ wd_112) hd_yX9_init ⟨Nat.le_of_ble_eq_true rfl, Nat.le_of_ble_eq_true rfl⟩, rfl, ht _ wd_174⟩ rfl hl.1 (Nat.le_of_ble_eq_true rfl) dX10_init_54 rfl ⟨Nat.le_of_ble_eq_true rfl, Nat.le_of_ble_eq_true rfl⟩ (fun u9 H locs h_u9 hO => ?_)
  have hO : Wo D A ([(h0, .inr (10, [.ref q1, .ref q5, .null, .null, .null, .null, .null, .null, .null, .null, .int 0, .int 0, .ref q3])), (q1, .inr (7, [.ref (u2 0), .int 0, .int 0, .int 0, .int 0, .long 0, .int 0])), ((u2 0), .inl (cy 0, 1600, .inl (fun _ => 0))), (q3, .inr (9, [.ref (u4 0), .ref (u4 1), .ref (u4 2), .ref (u4 3), .ref (u4 4), .ref (u4 5), .ref (u4 6), .ref (u4 7), .ref (u4 8), .int 0, .int 0, .int 0, .int 0, .int 0, .int 0, .int 0, .int 0, .int 0])), ((u4 0), .inl (cy 2, 8, .inr (.inl (fun _ => 0)))), ((u4 1), .inl (cy 2, 8, .inr (.inl (fun _ => 0)))), ((u4 2), .inl (cy 2, 6, .inr (.inl (fun _ => 0)))), ((u4 3), .inl (cy 1, 14, .inl (fun _ => 0))), ((u4 4), .inl (cy 1, 14, .inl (fun _ => 0))), ((u4 5), .inl (cy 1, 8, .inl (fun _ => 0))), ((u4 6), .inl (cy 1, 6, .inl (fun _ => 0))), ((u4 7), .inl (cy 1, 6, .inl (fun _ => 0))), ((u4 8), .inr (4, [.ref (u4 9), .ref (u4 10), .int 0, .int 0, .int 0, .int 0, .int 0, .int 0, .int 0, .int 0, .int 0])), ((u4 9), .inl (cy 1, 300, .inl (fun _ => 0))), ((u4 10), .inl (cy 1, 31, .inl (fun _ => 0))), (q5, .inr (5, [.ref q1, .ref q3, .int 0, .int (-1)])), (q7, .inr (2, [.null, .null])), (q8, .inr (9, [.ref (u9 0), .ref (u9 1), .ref (u9 2), .ref (u9 3), .ref (u9 4), .ref (u9 5), .ref (u9 6), .ref (u9 7), .ref (u9 8), .int 0, .int 0, .int 0, .int 0, .int 0, .int 0, .int 0, .int 0, .int 0])), ((u9 0), .inl (cy 2, 8, .inr (.inl (fun _ => 0)))), ((u9 1), .inl (cy 2, 8, .inr (.inl (fun _ => 0)))), ((u9 2), .inl (cy 2, 6, .inr (.inl (fun _ => 0)))), ((u9 3), .inl (cy 1, 14, .inl (fun _ => 0))), ((u9 4), .inl (cy 1, 14, .inl (fun _ => 0))), ((u9 5), .inl (cy 1, 8, .inl (fun _ => 0))), ((u9 6), .inl (cy 1, 6, .inl (fun _ => 0))), ((u9 7), .inl (cy 1, 6, .inl (fun _ => 0))), ((u9 8), .inr (4, [.ref (u9 9), .ref (u9 10), .int 0, .int 0, .int 0, .int 0, .int 0, .int 0, .int 0, .int 0, .int 0])), ((u9 9), .inl (cy 1, 300, .inl (fun _ => 0))), ((u9 10), .inl (cy 1, 31, .inl (fun _ => 0)))] ++ ([] : va_W)) s.heap H locs := hO
  refine dI (As := [.ref q8]) (rest := [.ref q7, .ref h0]) (wc := [(q7, .inr (2, [.null, .null]))]) (wr := [(h0, .inr (10, [.ref q1, .ref q5, .null, .null, .null, .null, .null, .null, .null, .null, .int 0, .int 0, .ref q3])), (q1, .inr (7, [.ref (u2 0), .int 0, .int 0, .int 0, .int 0, .long 0, .int 0])), ((u2 0), .inl (cy 0, 1600, .inl (fun _ => 0))), (q3, .inr (9, [.ref (u4 0), .ref (u4 1), .ref (u4 2), .ref (u4 3), .ref (u4 4), .ref (u4 5), .ref (u4 6), .ref (u4 7), .ref (u4 8), .int 0, .int 0, .int 0, .int 0, .int 0, .int 0, .int 0, .int 0, .int 0])), ((u4 0), .inl (cy 2, 8, .inr (.inl (fun _ => 0)))), ((u4 1), .inl (cy 2, 8, .inr (.inl (fun _ => 0)))), ((u4 2), .inl (cy 2, 6, .inr (.inl (fun _ => 0)))), ((u4 3), .inl (cy 1, 14, .inl (fun _ => 0))), ((u4 4), .inl (cy 1, 14, .inl (fun _ => 0))), ((u4 5), .inl (cy 1, 8, .inl (fun _ => 0))), ((u4 6), .inl (cy 1, 6, .inl (fun _ => 0))), ((u4 7), .inl (cy 1, 6, .inl (fun _ => 0))), ((u4 8), .inr (4, [.ref (u4 9), .ref (u4 10), .int 0, .int 0, .int 0, .int 0, .int 0, .int 0, .int 0, .int 0, .int 0])), ((u4 9), .inl (cy 1, 300, .inl (fun _ => 0))), ((u4 10), .inl (cy 1, 31, .inl (fun _ => 0))), (q5, .inr (5, [.ref q1, .ref q3, .int 0, .int (-1)])), (q8, .inr (9, [.ref (u9 0), .ref (u9 1), .ref (u9 2), .ref (u9 3), .ref (u9 4), .ref (u9 5), .ref (u9 6), .ref (u9 7), .ref (u9 8), .int 0, .int 0, .int 0, .int 0, .int 0, .int 0, .int 0, .int 0, .int 0])), ((u9 0), .inl (cy 2, 8, .inr (.inl (fun _ => 0)))), ((u9 1), .inl (cy 2, 8, .inr (.inl (fun _ => 0)))), ((u9 2), .inl (cy 2, 6, .inr (.inl (fun _ => 0)))), ((u9 3), .inl (cy 1, 14, .inl (fun _ => 0))), ((u9 4), .inl (cy 1, 14, .inl (fun _ => 0))), ((u9 5), .inl (cy 1, 8, .inl (fun _ => 0))), ((u9 6), .inl (cy 1, 6, .inl (fun _ => 0))), ((u9 7), .inl (cy 1, 6, .inl (fun _ => 0))), ((u9 8), .inr (4, [.ref (u9 9), .ref (u9 10), .int 0, .int 0, .int 0, .int 0, .int 0, .int 0, .int 0, .int 0, .int 0])), ((u9 9), .inl (cy 1, 300, .inl (fun _ => 0))), ((u9 10), .inl (cy 1, 31, .inl (fun _ => 0)))]) C hQ hO [16] [0, 1, 2, 3, 4, 5, 6, 7, 8, 9, 10, 11, 12, 13, 14, 15, 17, 18, 19, 20, 21, 22, 23, 24, 25, 26, 27, 28] rfl rfl (by decide) (by decide) (by decide) (K_X2 l D cy q7 q8) (cwI 1 ht (gGood wd_351) rfl rfl rfl (ht _ wd_115) (ht _ wd_349) (ht _ wd_350) rfl hd_yX2_init ⟨Nat.le_of_ble_eq_true rfl, Nat.le_of_ble_eq_true rfl⟩) rfl hl.1 (Nat.le_of_ble_eq_true rfl) dX10_init_57 rfl ⟨Nat.le_of_ble_eq_true rfl, Nat.le_of_ble_eq_true rfl⟩ (fun u10 H locs h_u10 hO => ?_)
  have hO : Wo D A ([(h0, .inr (10, [.ref q1, .ref q5, .null, .null, .null, .null, .null, .null, .null, .null, .int 0, .int 0, .ref q3])), (q1, .inr (7, [.ref (u2 0), .int 0, .int 0, .int 0, .int 0, .long 0, .int 0])), ((u2 0), .inl (cy 0, 1600, .inl (fun _ => 0))), (q3, .inr (9, [.ref (u4 0), .ref (u4 1), .ref (u4 2), .ref (u4 3), .ref (u4 4), .ref (u4 5), .ref (u4 6), .ref (u4 7), .ref (u4 8), .int 0, .int 0, .int 0, .int 0, .int 0, .int 0, .int 0, .int 0, .int 0])), ((u4 0), .inl (cy 2, 8, .inr (.inl (fun _ => 0)))), ((u4 1), .inl (cy 2, 8, .inr (.inl (fun _ => 0)))), ((u4 2), .inl (cy 2, 6, .inr (.inl (fun _ => 0)))), ((u4 3), .inl (cy 1, 14, .inl (fun _ => 0))), ((u4 4), .inl (cy 1, 14, .inl (fun _ => 0))), ((u4 5), .inl (cy 1, 8, .inl (fun _ => 0))), ((u4 6), .inl (cy 1, 6, .inl (fun _ => 0))), ((u4 7), .inl (cy 1, 6, .inl (fun _ => 0))), ((u4 8), .inr (4, [.ref (u4 9), .ref (u4 10), .int 0, .int 0, .int 0, .int 0, .int 0, .int 0, .int 0, .int 0, .int 0])), ((u4 9), .inl (cy 1, 300, .inl (fun _ => 0))), ((u4 10), .inl (cy 1, 31, .inl (fun _ => 0))), (q5, .inr (5, [.ref q1, .ref q3, .int 0, .int (-1)])), (q8, .inr (9, [.ref (u9 0), .ref (u9 1), .ref (u9 2), .ref (u9 3), .ref (u9 4), .ref (u9 5), .ref (u9 6), .ref (u9 7), .ref (u9 8), .int 0, .int 0, .int 0, .int 0, .int 0, .int 0, .int 0, .int 0, .int 0])), ((u9 0), .inl (cy 2, 8, .inr (.inl (fun _ => 0)))), ((u9 1), .inl (cy 2, 8, .inr (.inl (fun _ => 0)))), ((u9 2), .inl (cy 2, 6, .inr (.inl (fun _ => 0)))), ((u9 3), .inl (cy 1, 14, .inl (fun _ => 0))), ((u9 4), .inl (cy 1, 14, .inl (fun _ => 0))), ((u9 5), .inl (cy 1, 8, .inl (fun _ => 0))), ((u9 6), .inl (cy 1, 6, .inl (fun _ => 0))), ((u9 7), .inl (cy 1, 6, .inl (fun _ => 0))), ((u9 8), .inr (4, [.ref (u9 9), .ref (u9 10), .int 0, .int 0, .int 0, .int 0, .int 0, .int 0, .int 0, .int 0, .int 0])), ((u9 9), .inl (cy 1, 300, .inl (fun _ => 0))), ((u9 10), .inl (cy 1, 31, .inl (fun _ => 0))), (q7, .inr (2, [.ref (u10 0), .ref q8])), ((u10 0), .inl (cy 1, 29, .inl (upd (fun _ => 0) (0 : Int32).toNatClampNeg (-1))))] ++ ([] : va_W)) s.heap H locs := hO
  refine pFF (k := 2) (ws' := [(h0, .inr (10, [.ref q1, .ref q5, .ref q7, .null, .null, .null, .null, .null, .null, .null, .int 0, .int 0, .ref q3])), (q1, .inr (7, [.ref (u2 0), .int 0, .int 0, .int 0, .int 0, .long 0, .int 0])), ((u2 0), .inl (cy 0, 1600, .inl (fun _ => 0))), (q3, .inr (9, [.ref (u4 0), .ref (u4 1), .ref (u4 2), .ref (u4 3), .ref (u4 4), .ref (u4 5), .ref (u4 6), .ref (u4 7), .ref (u4 8), .int 0, .int 0, .int 0, .int 0, .int 0, .int 0, .int 0, .int 0, .int 0])), ((u4 0), .inl (cy 2, 8, .inr (.inl (fun _ => 0)))), ((u4 1), .inl (cy 2, 8, .inr (.inl (fun _ => 0)))), ((u4 2), .inl (cy 2, 6, .inr (.inl (fun _ => 0)))), ((u4 3), .inl (cy 1, 14, .inl (fun _ => 0))), ((u4 4), .inl (cy 1, 14, .inl (fun _ => 0))), ((u4 5), .inl (cy 1, 8, .inl (fun _ => 0))), ((u4 6), .inl (cy 1, 6, .inl (fun _ => 0))), ((u4 7), .inl (cy 1, 6, .inl (fun _ => 0))), ((u4 8), .inr (4, [.ref (u4 9), .ref (u4 10), .int 0, .int 0, .int 0, .int 0, .int 0, .int 0, .int 0, .int 0, .int 0])), ((u4 9), .inl (cy 1, 300, .inl (fun _ => 0))), ((u4 10), .inl (cy 1, 31, .inl (fun _ => 0))), (q5, .inr (5, [.ref q1, .ref q3, .int 0, .int (-1)])), (q8, .inr (9, [.ref (u9 0), .ref (u9 1), .ref (u9 2), .ref (u9 3), .ref (u9 4), .ref (u9 5), .ref (u9 6), .ref (u9 7), .ref (u9 8), .int 0, .int 0, .int 0, .int 0, .int 0, .int 0, .int 0, .int 0, .int 0])), ((u9 0), .inl (cy 2, 8, .inr (.inl (fun _ => 0)))), ((u9 1), .inl (cy 2, 8, .inr (.inl (fun _ => 0)))), ((u9 2), .inl (cy 2, 6, .inr (.inl (fun _ => 0)))), ((u9 3), .inl (cy 1, 14, .inl (fun _ => 0))), ((u9 4), .inl (cy 1, 14, .inl (fun _ => 0))), ((u9 5), .inl (cy 1, 8, .inl (fun _ => 0))), ((u9 6), .inl (cy 1, 6, .inl (fun _ => 0))), ((u9 7), .inl (cy 1, 6, .inl (fun _ => 0))), ((u9 8), .inr (4, [.ref (u9 9), .ref (u9 10), .int 0, .int 0, .int 0, .int 0, .int 0, .int 0, .int 0, .int 0, .int 0])), ((u9 9), .inl (cy 1, 300, .inl (fun _ => 0))), ((u9 10), .inl (cy 1, 31, .inl (fun _ => 0))), (q7, .inr (2, [.ref (u10 0), .ref q8])), ((u10 0), .inl (cy 1, 29, .inl (upd (fun _ => 0) (0 : Int32).toNatClampNeg (-1))))] ++ ([] : va_W)) (ty := tyX10 2) (v := .ref q7) C hin hO 0 rfl rfl inFX10 (by decide) wd_470 rfl rfl tyX10 tyX10_ok nmX10 rfl (by decide +kernel) rfl rfl (Nat.le_of_ble_eq_true rfl) rfl dX10_init_60 (fun H locs hO => ?_)
  refine lv_aload_n hx hb dX10_init_63 rfl (lv_at hl 0 rfl) ?_
  refine nOb (ci := 0) (fs := [.null, .int 0, .int 0, .int 0]) C hO inFX0 tyX0 tyX0_ok wd_368 wd_369 wd_116 rfl (fun j hj => by rcases (show j = 0 ∨ j = 1 ∨ j = 2 ∨ j = 3 by omega) with rfl | rfl | rfl | rfl <;> rfl) (Nat.le_of_ble_eq_true rfl) (Nat.le_of_ble_eq_true rfl) dX10_init_64 (fun q11 H hO => ?_)
  have hO := hO.swap
  have hO : Wo D A ([(h0, .inr (10, [.ref q1, .ref q5, .ref q7, .null, .null, .null, .null, .null, .null, .null, .int 0, .int 0, .ref q3])), (q1, .inr (7, [.ref (u2 0), .int 0, .int 0, .int 0, .int 0, .long 0, .int 0])), ((u2 0), .inl (cy 0, 1600, .inl (fun _ => 0))), (q3, .inr (9, [.ref (u4 0), .ref (u4 1), .ref (u4 2), .ref (u4 3), .ref (u4 4), .ref (u4 5), .ref (u4 6), .ref (u4 7), .ref (u4 8), .int 0, .int 0, .int 0, .int 0, .int 0, .int 0, .int 0, .int 0, .int 0])), ((u4 0), .inl (cy 2, 8, .inr (.inl (fun _ => 0)))), ((u4 1), .inl (cy 2, 8, .inr (.inl (fun _ => 0)))), ((u4 2), .inl (cy 2, 6, .inr (.inl (fun _ => 0)))), ((u4 3), .inl (cy 1, 14, .inl (fun _ => 0))), ((u4 4), .inl (cy 1, 14, .inl (fun _ => 0))), ((u4 5), .inl (cy 1, 8, .inl (fun _ => 0))), ((u4 6), .inl (cy 1, 6, .inl (fun _ => 0))), ((u4 7), .inl (cy 1, 6, .inl (fun _ => 0))), ((u4 8), .inr (4, [.ref (u4 9), .ref (u4 10), .int 0, .int 0, .int 0, .int 0, .int 0, .int 0, .int 0, .int 0, .int 0])), ((u4 9), .inl (cy 1, 300, .inl (fun _ => 0))), ((u4 10), .inl (cy 1, 31, .inl (fun _ => 0))), (q5, .inr (5, [.ref q1, .ref q3, .int 0, .int (-1)])), (q8, .inr (9, [.ref (u9 0), .ref (u9 1), .ref (u9 2), .ref (u9 3), .ref (u9 4), .ref (u9 5), .ref (u9 6), .ref (u9 7), .ref (u9 8), .int 0, .int 0, .int 0, .int 0, .int 0, .int 0, .int 0, .int 0, .int 0])), ((u9 0), .inl (cy 2, 8, .inr (.inl (fun _ => 0)))), ((u9 1), .inl (cy 2, 8, .inr (.inl (fun _ => 0)))), ((u9 2), .inl (cy 2, 6, .inr (.inl (fun _ => 0)))), ((u9 3), .inl (cy 1, 14, .inl (fun _ => 0))), ((u9 4), .inl (cy 1, 14, .inl (fun _ => 0))), ((u9 5), .inl (cy 1, 8, .inl (fun _ => 0))), ((u9 6), .inl (cy 1, 6, .inl (fun _ => 0))), ((u9 7), .inl (cy 1, 6, .inl (fun _ => 0))), ((u9 8), .inr (4, [.ref (u9 9), .ref (u9 10), .int 0, .int 0, .int 0, .int 0, .int 0, .int 0, .int 0, .int 0, .int 0])), ((u9 9), .inl (cy 1, 300, .inl (fun _ => 0))), ((u9 10), .inl (cy 1, 31, .inl (fun _ => 0))), (q7, .inr (2, [.ref (u10 0), .ref q8])), ((u10 0), .inl (cy 1, 29, .inl (upd (fun _ => 0) (0 : Int32).toNatClampNeg (-1)))), (q11, .inr (0, [.null, .int 0, .int 0, .int 0]))] ++ ([] : va_W)) s.heap H locs := hO
  refine lv_dup hx hb dX10_init_67 rfl ?_
  refine dIN (As := []) (rest := [.ref q11, .ref h0]) (wc := [(q11, .inr (0, [.null, .int 0, .int 0, .int 0]))]) (wr := [(h0, .inr (10, [.ref q1, .ref q5, .ref q7, .null, .null, .null, .null, .null, .null, .null, .int 0, .int 0, .ref q3])), (q1, .inr (7, [.ref (u2 0), .int 0, .int 0, .int 0, .int 0, .long 0, .int 0])), ((u2 0), .inl (cy 0, 1600, .inl (fun _ => 0))), (q3, .inr (9, [.ref (u4 0), .ref (u4 1), .ref (u4 2), .ref (u4 3), .ref (u4 4), .ref (u4 5), .ref (u4 6), .ref (u4 7), .ref (u4 8), .int 0, .int 0, .int 0, .int 0, .int 0, .int 0, .int 0, .int 0, .int 0])), ((u4 0), .inl (cy 2, 8, .inr (.inl (fun _ => 0)))), ((u4 1), .inl (cy 2, 8, .inr (.inl (fun _ => 0)))), ((u4 2), .inl (cy 2, 6, .inr (.inl (fun _ => 0)))), ((u4 3), .inl (cy 1, 14, .inl (fun _ => 0))), ((u4 4), .inl (cy 1, 14, .inl (fun _ => 0))), ((u4 5), .inl (cy 1, 8, .inl (fun _ => 0))), ((u4 6), .inl (cy 1, 6, .inl (fun _ => 0))), ((u4 7), .inl (cy 1, 6, .inl (fun _ => 0))), ((u4 8), .inr (4, [.ref (u4 9), .ref (u4 10), .int 0, .int 0, .int 0, .int 0, .int 0, .int 0, .int 0, .int 0, .int 0])), ((u4 9), .inl (cy 1, 300, .inl (fun _ => 0))), ((u4 10), .inl (cy 1, 31, .inl (fun _ => 0))), (q5, .inr (5, [.ref q1, .ref q3, .int 0, .int (-1)])), (q8, .inr (9, [.ref (u9 0), .ref (u9 1), .ref (u9 2), .ref (u9 3), .ref (u9 4), .ref (u9 5), .ref (u9 6), .ref (u9 7), .ref (u9 8), .int 0, .int 0, .int 0, .int 0, .int 0, .int 0, .int 0, .int 0, .int 0])), ((u9 0), .inl (cy 2, 8, .inr (.inl (fun _ => 0)))), ((u9 1), .inl (cy 2, 8, .inr (.inl (fun _ => 0)))), ((u9 2), .inl (cy 2, 6, .inr (.inl (fun _ => 0)))), ((u9 3), .inl (cy 1, 14, .inl (fun _ => 0))), ((u9 4), .inl (cy 1, 14, .inl (fun _ => 0))), ((u9 5), .inl (cy 1, 8, .inl (fun _ => 0))), ((u9 6), .inl (cy 1, 6, .inl (fun _ => 0))), ((u9 7), .inl (cy 1, 6, .inl (fun _ => 0))), ((u9 8), .inr (4, [.ref (u9 9), .ref (u9 10), .int 0, .int 0, .int 0, .int 0, .int 0, .int 0, .int 0, .int 0, .int 0])), ((u9 9), .inl (cy 1, 300, .inl (fun _ => 0))), ((u9 10), .inl (cy 1, 31, .inl (fun _ => 0))), (q7, .inr (2, [.ref (u10 0), .ref q8])), ((u10 0), .inl (cy 1, 29, .inl (upd (fun _ => 0) (0 : Int32).toNatClampNeg (-1))))]) C hQ hO [30] [0, 1, 2, 3, 4, 5, 6, 7, 8, 9, 10, 11, 12, 13, 14, 15, 16, 17, 18, 19, 20, 21, 22, 23, 24, 25, 26, 27, 28, 29] rfl rfl (by decide) (by decide) (by decide) (K_X0 l D cy q11) ⟨va_cnB (host := "WebCourt") 0 ht (gGood wd_372) rfl rfl rfl hQ.2.2.2.2.1 (ht _ wd_116) hd_yX0_init ⟨Nat.le_of_ble_eq_true rfl, Nat.le_of_ble_eq_true rfl⟩, rfl, ht _ wd_371⟩ rfl hl.1 (Nat.le_of_ble_eq_true rfl) dX10_init_68 rfl ⟨Nat.le_of_ble_eq_true rfl, Nat.le_of_ble_eq_true rfl⟩ (fun u12 H locs h_u12 hO => ?_)
  have hO : Wo D A (([(h0, .inr (10, [.ref q1, .ref q5, .ref q7, .null, .null, .null, .null, .null, .null, .null, .int 0, .int 0, .ref q3])), (q1, .inr (7, [.ref (u2 0), .int 0, .int 0, .int 0, .int 0, .long 0, .int 0])), ((u2 0), .inl (cy 0, 1600, .inl (fun _ => 0))), (q3, .inr (9, [.ref (u4 0), .ref (u4 1), .ref (u4 2), .ref (u4 3), .ref (u4 4), .ref (u4 5), .ref (u4 6), .ref (u4 7), .ref (u4 8), .int 0, .int 0, .int 0, .int 0, .int 0, .int 0, .int 0, .int 0, .int 0])), ((u4 0), .inl (cy 2, 8, .inr (.inl (fun _ => 0)))), ((u4 1), .inl (cy 2, 8, .inr (.inl (fun _ => 0)))), ((u4 2), .inl (cy 2, 6, .inr (.inl (fun _ => 0)))), ((u4 3), .inl (cy 1, 14, .inl (fun _ => 0))), ((u4 4), .inl (cy 1, 14, .inl (fun _ => 0))), ((u4 5), .inl (cy 1, 8, .inl (fun _ => 0))), ((u4 6), .inl (cy 1, 6, .inl (fun _ => 0))), ((u4 7), .inl (cy 1, 6, .inl (fun _ => 0))), ((u4 8), .inr (4, [.ref (u4 9), .ref (u4 10), .int 0, .int 0, .int 0, .int 0, .int 0, .int 0, .int 0, .int 0, .int 0])), ((u4 9), .inl (cy 1, 300, .inl (fun _ => 0))), ((u4 10), .inl (cy 1, 31, .inl (fun _ => 0))), (q5, .inr (5, [.ref q1, .ref q3, .int 0, .int (-1)])), (q8, .inr (9, [.ref (u9 0), .ref (u9 1), .ref (u9 2), .ref (u9 3), .ref (u9 4), .ref (u9 5), .ref (u9 6), .ref (u9 7), .ref (u9 8), .int 0, .int 0, .int 0, .int 0, .int 0, .int 0, .int 0, .int 0, .int 0])), ((u9 0), .inl (cy 2, 8, .inr (.inl (fun _ => 0)))), ((u9 1), .inl (cy 2, 8, .inr (.inl (fun _ => 0)))), ((u9 2), .inl (cy 2, 6, .inr (.inl (fun _ => 0)))), ((u9 3), .inl (cy 1, 14, .inl (fun _ => 0))), ((u9 4), .inl (cy 1, 14, .inl (fun _ => 0))), ((u9 5), .inl (cy 1, 8, .inl (fun _ => 0))), ((u9 6), .inl (cy 1, 6, .inl (fun _ => 0))), ((u9 7), .inl (cy 1, 6, .inl (fun _ => 0))), ((u9 8), .inr (4, [.ref (u9 9), .ref (u9 10), .int 0, .int 0, .int 0, .int 0, .int 0, .int 0, .int 0, .int 0, .int 0])), ((u9 9), .inl (cy 1, 300, .inl (fun _ => 0))), ((u9 10), .inl (cy 1, 31, .inl (fun _ => 0))), (q7, .inr (2, [.ref (u10 0), .ref q8])), ((u10 0), .inl (cy 1, 29, .inl (upd (fun _ => 0) (0 : Int32).toNatClampNeg (-1)))), (q11, .inr (0, [.ref (u12.1 0), .int 0, .int 0, .int 0])), ((u12.1 0), .inl (cy 4, 41, .inr (.inr (.inr (.inr (fun i => if i < 41 then some (u12.2 i) else none))))))] ++ ((List.range 41).map (fun i => (u12.2 i, .inl (cy 1, 29, .inl (fun _ => 0)))) : va_W)) ++ ([] : va_W)) s.heap H locs := by have h9 := hO; rw [show ∀ a b c d : va_W, (a ++ (b ++ c)) ++ d = ((a ++ b) ++ c) ++ d from fun a b c d => by rw [List.append_assoc a b c]] at h9; exact h9
  have hO : Wo D A ([(h0, .inr (10, [.ref q1, .ref q5, .ref q7, .null, .null, .null, .null, .null, .null, .null, .int 0, .int 0, .ref q3])), (q1, .inr (7, [.ref (u2 0), .int 0, .int 0, .int 0, .int 0, .long 0, .int 0])), ((u2 0), .inl (cy 0, 1600, .inl (fun _ => 0))), (q3, .inr (9, [.ref (u4 0), .ref (u4 1), .ref (u4 2), .ref (u4 3), .ref (u4 4), .ref (u4 5), .ref (u4 6), .ref (u4 7), .ref (u4 8), .int 0, .int 0, .int 0, .int 0, .int 0, .int 0, .int 0, .int 0, .int 0])), ((u4 0), .inl (cy 2, 8, .inr (.inl (fun _ => 0)))), ((u4 1), .inl (cy 2, 8, .inr (.inl (fun _ => 0)))), ((u4 2), .inl (cy 2, 6, .inr (.inl (fun _ => 0)))), ((u4 3), .inl (cy 1, 14, .inl (fun _ => 0))), ((u4 4), .inl (cy 1, 14, .inl (fun _ => 0))), ((u4 5), .inl (cy 1, 8, .inl (fun _ => 0))), ((u4 6), .inl (cy 1, 6, .inl (fun _ => 0))), ((u4 7), .inl (cy 1, 6, .inl (fun _ => 0))), ((u4 8), .inr (4, [.ref (u4 9), .ref (u4 10), .int 0, .int 0, .int 0, .int 0, .int 0, .int 0, .int 0, .int 0, .int 0])), ((u4 9), .inl (cy 1, 300, .inl (fun _ => 0))), ((u4 10), .inl (cy 1, 31, .inl (fun _ => 0))), (q5, .inr (5, [.ref q1, .ref q3, .int 0, .int (-1)])), (q8, .inr (9, [.ref (u9 0), .ref (u9 1), .ref (u9 2), .ref (u9 3), .ref (u9 4), .ref (u9 5), .ref (u9 6), .ref (u9 7), .ref (u9 8), .int 0, .int 0, .int 0, .int 0, .int 0, .int 0, .int 0, .int 0, .int 0])), ((u9 0), .inl (cy 2, 8, .inr (.inl (fun _ => 0)))), ((u9 1), .inl (cy 2, 8, .inr (.inl (fun _ => 0)))), ((u9 2), .inl (cy 2, 6, .inr (.inl (fun _ => 0)))), ((u9 3), .inl (cy 1, 14, .inl (fun _ => 0))), ((u9 4), .inl (cy 1, 14, .inl (fun _ => 0))), ((u9 5), .inl (cy 1, 8, .inl (fun _ => 0))), ((u9 6), .inl (cy 1, 6, .inl (fun _ => 0))), ((u9 7), .inl (cy 1, 6, .inl (fun _ => 0))), ((u9 8), .inr (4, [.ref (u9 9), .ref (u9 10), .int 0, .int 0, .int 0, .int 0, .int 0, .int 0, .int 0, .int 0, .int 0])), ((u9 9), .inl (cy 1, 300, .inl (fun _ => 0))), ((u9 10), .inl (cy 1, 31, .inl (fun _ => 0))), (q7, .inr (2, [.ref (u10 0), .ref q8])), ((u10 0), .inl (cy 1, 29, .inl (upd (fun _ => 0) (0 : Int32).toNatClampNeg (-1)))), (q11, .inr (0, [.ref (u12.1 0), .int 0, .int 0, .int 0])), ((u12.1 0), .inl (cy 4, 41, .inr (.inr (.inr (.inr (fun i => if i < 41 then some (u12.2 i) else none))))))] ++ ((List.range 41).map (fun i => (u12.2 i, .inl (cy 1, 29, .inl (fun _ => 0)))) : va_W)) s.heap H locs := by have h9 := hO; rw [List.append_nil] at h9; exact h9
  refine pFF (k := 3) (ws' := [(h0, .inr (10, [.ref q1, .ref q5, .ref q7, .ref q11, .null, .null, .null, .null, .null, .null, .int 0, .int 0, .ref q3])), (q1, .inr (7, [.ref (u2 0), .int 0, .int 0, .int 0, .int 0, .long 0, .int 0])), ((u2 0), .inl (cy 0, 1600, .inl (fun _ => 0))), (q3, .inr (9, [.ref (u4 0), .ref (u4 1), .ref (u4 2), .ref (u4 3), .ref (u4 4), .ref (u4 5), .ref (u4 6), .ref (u4 7), .ref (u4 8), .int 0, .int 0, .int 0, .int 0, .int 0, .int 0, .int 0, .int 0, .int 0])), ((u4 0), .inl (cy 2, 8, .inr (.inl (fun _ => 0)))), ((u4 1), .inl (cy 2, 8, .inr (.inl (fun _ => 0)))), ((u4 2), .inl (cy 2, 6, .inr (.inl (fun _ => 0)))), ((u4 3), .inl (cy 1, 14, .inl (fun _ => 0))), ((u4 4), .inl (cy 1, 14, .inl (fun _ => 0))), ((u4 5), .inl (cy 1, 8, .inl (fun _ => 0))), ((u4 6), .inl (cy 1, 6, .inl (fun _ => 0))), ((u4 7), .inl (cy 1, 6, .inl (fun _ => 0))), ((u4 8), .inr (4, [.ref (u4 9), .ref (u4 10), .int 0, .int 0, .int 0, .int 0, .int 0, .int 0, .int 0, .int 0, .int 0])), ((u4 9), .inl (cy 1, 300, .inl (fun _ => 0))), ((u4 10), .inl (cy 1, 31, .inl (fun _ => 0))), (q5, .inr (5, [.ref q1, .ref q3, .int 0, .int (-1)])), (q8, .inr (9, [.ref (u9 0), .ref (u9 1), .ref (u9 2), .ref (u9 3), .ref (u9 4), .ref (u9 5), .ref (u9 6), .ref (u9 7), .ref (u9 8), .int 0, .int 0, .int 0, .int 0, .int 0, .int 0, .int 0, .int 0, .int 0])), ((u9 0), .inl (cy 2, 8, .inr (.inl (fun _ => 0)))), ((u9 1), .inl (cy 2, 8, .inr (.inl (fun _ => 0)))), ((u9 2), .inl (cy 2, 6, .inr (.inl (fun _ => 0)))), ((u9 3), .inl (cy 1, 14, .inl (fun _ => 0))), ((u9 4), .inl (cy 1, 14, .inl (fun _ => 0))), ((u9 5), .inl (cy 1, 8, .inl (fun _ => 0))), ((u9 6), .inl (cy 1, 6, .inl (fun _ => 0))), ((u9 7), .inl (cy 1, 6, .inl (fun _ => 0))), ((u9 8), .inr (4, [.ref (u9 9), .ref (u9 10), .int 0, .int 0, .int 0, .int 0, .int 0, .int 0, .int 0, .int 0, .int 0])), ((u9 9), .inl (cy 1, 300, .inl (fun _ => 0))), ((u9 10), .inl (cy 1, 31, .inl (fun _ => 0))), (q7, .inr (2, [.ref (u10 0), .ref q8])), ((u10 0), .inl (cy 1, 29, .inl (upd (fun _ => 0) (0 : Int32).toNatClampNeg (-1)))), (q11, .inr (0, [.ref (u12.1 0), .int 0, .int 0, .int 0])), ((u12.1 0), .inl (cy 4, 41, .inr (.inr (.inr (.inr (fun i => if i < 41 then some (u12.2 i) else none))))))] ++ ((List.range 41).map (fun i => (u12.2 i, .inl (cy 1, 29, .inl (fun _ => 0)))) : va_W)) (ty := tyX10 3) (v := .ref q11) C hin hO 0 rfl rfl inFX10 (by decide) wd_471 rfl rfl tyX10 tyX10_ok nmX10 rfl (by decide +kernel) rfl rfl (Nat.le_of_ble_eq_true rfl) rfl dX10_init_71 (fun H locs hO => ?_)
  refine lv_aload_n hx hb dX10_init_74 rfl (lv_at hl 0 rfl) ?_
  refine nOb (ci := 8) (fs := [.null, .null]) C hO inFX8 tyX8 tyX8_ok wd_391 wd_392 wd_117 rfl (fun j hj => by rcases (show j = 0 ∨ j = 1 by omega) with rfl | rfl <;> rfl) (Nat.le_of_ble_eq_true rfl) (Nat.le_of_ble_eq_true rfl) dX10_init_75 (fun q13 H hO => ?_)
  have hO := hO.swap
  have hO : Wo D A ([(h0, .inr (10, [.ref q1, .ref q5, .ref q7, .ref q11, .null, .null, .null, .null, .null, .null, .int 0, .int 0, .ref q3])), (q1, .inr (7, [.ref (u2 0), .int 0, .int 0, .int 0, .int 0, .long 0, .int 0])), ((u2 0), .inl (cy 0, 1600, .inl (fun _ => 0))), (q3, .inr (9, [.ref (u4 0), .ref (u4 1), .ref (u4 2), .ref (u4 3), .ref (u4 4), .ref (u4 5), .ref (u4 6), .ref (u4 7), .ref (u4 8), .int 0, .int 0, .int 0, .int 0, .int 0, .int 0, .int 0, .int 0, .int 0])), ((u4 0), .inl (cy 2, 8, .inr (.inl (fun _ => 0)))), ((u4 1), .inl (cy 2, 8, .inr (.inl (fun _ => 0)))), ((u4 2), .inl (cy 2, 6, .inr (.inl (fun _ => 0)))), ((u4 3), .inl (cy 1, 14, .inl (fun _ => 0))), ((u4 4), .inl (cy 1, 14, .inl (fun _ => 0))), ((u4 5), .inl (cy 1, 8, .inl (fun _ => 0))), ((u4 6), .inl (cy 1, 6, .inl (fun _ => 0))), ((u4 7), .inl (cy 1, 6, .inl (fun _ => 0))), ((u4 8), .inr (4, [.ref (u4 9), .ref (u4 10), .int 0, .int 0, .int 0, .int 0, .int 0, .int 0, .int 0, .int 0, .int 0])), ((u4 9), .inl (cy 1, 300, .inl (fun _ => 0))), ((u4 10), .inl (cy 1, 31, .inl (fun _ => 0))), (q5, .inr (5, [.ref q1, .ref q3, .int 0, .int (-1)])), (q8, .inr (9, [.ref (u9 0), .ref (u9 1), .ref (u9 2), .ref (u9 3), .ref (u9 4), .ref (u9 5), .ref (u9 6), .ref (u9 7), .ref (u9 8), .int 0, .int 0, .int 0, .int 0, .int 0, .int 0, .int 0, .int 0, .int 0])), ((u9 0), .inl (cy 2, 8, .inr (.inl (fun _ => 0)))), ((u9 1), .inl (cy 2, 8, .inr (.inl (fun _ => 0)))), ((u9 2), .inl (cy 2, 6, .inr (.inl (fun _ => 0)))), ((u9 3), .inl (cy 1, 14, .inl (fun _ => 0))), ((u9 4), .inl (cy 1, 14, .inl (fun _ => 0))), ((u9 5), .inl (cy 1, 8, .inl (fun _ => 0))), ((u9 6), .inl (cy 1, 6, .inl (fun _ => 0))), ((u9 7), .inl (cy 1, 6, .inl (fun _ => 0))), ((u9 8), .inr (4, [.ref (u9 9), .ref (u9 10), .int 0, .int 0, .int 0, .int 0, .int 0, .int 0, .int 0, .int 0, .int 0])), ((u9 9), .inl (cy 1, 300, .inl (fun _ => 0))), ((u9 10), .inl (cy 1, 31, .inl (fun _ => 0))), (q7, .inr (2, [.ref (u10 0), .ref q8])), ((u10 0), .inl (cy 1, 29, .inl (upd (fun _ => 0) (0 : Int32).toNatClampNeg (-1)))), (q11, .inr (0, [.ref (u12.1 0), .int 0, .int 0, .int 0])), ((u12.1 0), .inl (cy 4, 41, .inr (.inr (.inr (.inr (fun i => if i < 41 then some (u12.2 i) else none)))))), (q13, .inr (8, [.null, .null]))] ++ ((List.range 41).map (fun i => (u12.2 i, .inl (cy 1, 29, .inl (fun _ => 0)))) : va_W)) s.heap H locs := hO
  refine lv_dup hx hb dX10_init_78 rfl ?_
  refine lv_aload_n hx hb dX10_init_79 rfl (lv_at hl 0 rfl) ?_
  refine gf_RX10_37 (v := .ref q7) C hO 0 rfl rfl dX10_init_80 ?_
  refine dI (As := [.ref q7]) (rest := [.ref q13, .ref h0]) (wc := [(q13, .inr (8, [.null, .null]))]) (wr := [(h0, .inr (10, [.ref q1, .ref q5, .ref q7, .ref q11, .null, .null, .null, .null, .null, .null, .int 0, .int 0, .ref q3])), (q1, .inr (7, [.ref (u2 0), .int 0, .int 0, .int 0, .int 0, .long 0, .int 0])), ((u2 0), .inl (cy 0, 1600, .inl (fun _ => 0))), (q3, .inr (9, [.ref (u4 0), .ref (u4 1), .ref (u4 2), .ref (u4 3), .ref (u4 4), .ref (u4 5), .ref (u4 6), .ref (u4 7), .ref (u4 8), .int 0, .int 0, .int 0, .int 0, .int 0, .int 0, .int 0, .int 0, .int 0])), ((u4 0), .inl (cy 2, 8, .inr (.inl (fun _ => 0)))), ((u4 1), .inl (cy 2, 8, .inr (.inl (fun _ => 0)))), ((u4 2), .inl (cy 2, 6, .inr (.inl (fun _ => 0)))), ((u4 3), .inl (cy 1, 14, .inl (fun _ => 0))), ((u4 4), .inl (cy 1, 14, .inl (fun _ => 0))), ((u4 5), .inl (cy 1, 8, .inl (fun _ => 0))), ((u4 6), .inl (cy 1, 6, .inl (fun _ => 0))), ((u4 7), .inl (cy 1, 6, .inl (fun _ => 0))), ((u4 8), .inr (4, [.ref (u4 9), .ref (u4 10), .int 0, .int 0, .int 0, .int 0, .int 0, .int 0, .int 0, .int 0, .int 0])), ((u4 9), .inl (cy 1, 300, .inl (fun _ => 0))), ((u4 10), .inl (cy 1, 31, .inl (fun _ => 0))), (q5, .inr (5, [.ref q1, .ref q3, .int 0, .int (-1)])), (q8, .inr (9, [.ref (u9 0), .ref (u9 1), .ref (u9 2), .ref (u9 3), .ref (u9 4), .ref (u9 5), .ref (u9 6), .ref (u9 7), .ref (u9 8), .int 0, .int 0, .int 0, .int 0, .int 0, .int 0, .int 0, .int 0, .int 0])), ((u9 0), .inl (cy 2, 8, .inr (.inl (fun _ => 0)))), ((u9 1), .inl (cy 2, 8, .inr (.inl (fun _ => 0)))), ((u9 2), .inl (cy 2, 6, .inr (.inl (fun _ => 0)))), ((u9 3), .inl (cy 1, 14, .inl (fun _ => 0))), ((u9 4), .inl (cy 1, 14, .inl (fun _ => 0))), ((u9 5), .inl (cy 1, 8, .inl (fun _ => 0))), ((u9 6), .inl (cy 1, 6, .inl (fun _ => 0))), ((u9 7), .inl (cy 1, 6, .inl (fun _ => 0))), ((u9 8), .inr (4, [.ref (u9 9), .ref (u9 10), .int 0, .int 0, .int 0, .int 0, .int 0, .int 0, .int 0, .int 0, .int 0])), ((u9 9), .inl (cy 1, 300, .inl (fun _ => 0))), ((u9 10), .inl (cy 1, 31, .inl (fun _ => 0))), (q7, .inr (2, [.ref (u10 0), .ref q8])), ((u10 0), .inl (cy 1, 29, .inl (upd (fun _ => 0) (0 : Int32).toNatClampNeg (-1)))), (q11, .inr (0, [.ref (u12.1 0), .int 0, .int 0, .int 0])), ((u12.1 0), .inl (cy 4, 41, .inr (.inr (.inr (.inr (fun i => if i < 41 then some (u12.2 i) else none))))))]) C hQ hO [32] [0, 1, 2, 3, 4, 5, 6, 7, 8, 9, 10, 11, 12, 13, 14, 15, 16, 17, 18, 19, 20, 21, 22, 23, 24, 25, 26, 27, 28, 29, 30, 31] rfl rfl (by decide) (by decide) (by decide) (K_X8 l D cy q13 q7) (cwI 1 ht (gGood wd_395) rfl rfl rfl (ht _ wd_117) (ht _ wd_393) (ht _ wd_394) rfl hd_yX8_init ⟨Nat.le_of_ble_eq_true rfl, Nat.le_of_ble_eq_true rfl⟩) rfl hl.1 (Nat.le_of_ble_eq_true rfl) dX10_init_83 rfl ⟨Nat.le_of_ble_eq_true rfl, Nat.le_of_ble_eq_true rfl⟩ (fun u14 H locs h_u14 hO => ?_)
  have hO : Wo D A ([(h0, .inr (10, [.ref q1, .ref q5, .ref q7, .ref q11, .null, .null, .null, .null, .null, .null, .int 0, .int 0, .ref q3])), (q1, .inr (7, [.ref (u2 0), .int 0, .int 0, .int 0, .int 0, .long 0, .int 0])), ((u2 0), .inl (cy 0, 1600, .inl (fun _ => 0))), (q3, .inr (9, [.ref (u4 0), .ref (u4 1), .ref (u4 2), .ref (u4 3), .ref (u4 4), .ref (u4 5), .ref (u4 6), .ref (u4 7), .ref (u4 8), .int 0, .int 0, .int 0, .int 0, .int 0, .int 0, .int 0, .int 0, .int 0])), ((u4 0), .inl (cy 2, 8, .inr (.inl (fun _ => 0)))), ((u4 1), .inl (cy 2, 8, .inr (.inl (fun _ => 0)))), ((u4 2), .inl (cy 2, 6, .inr (.inl (fun _ => 0)))), ((u4 3), .inl (cy 1, 14, .inl (fun _ => 0))), ((u4 4), .inl (cy 1, 14, .inl (fun _ => 0))), ((u4 5), .inl (cy 1, 8, .inl (fun _ => 0))), ((u4 6), .inl (cy 1, 6, .inl (fun _ => 0))), ((u4 7), .inl (cy 1, 6, .inl (fun _ => 0))), ((u4 8), .inr (4, [.ref (u4 9), .ref (u4 10), .int 0, .int 0, .int 0, .int 0, .int 0, .int 0, .int 0, .int 0, .int 0])), ((u4 9), .inl (cy 1, 300, .inl (fun _ => 0))), ((u4 10), .inl (cy 1, 31, .inl (fun _ => 0))), (q5, .inr (5, [.ref q1, .ref q3, .int 0, .int (-1)])), (q8, .inr (9, [.ref (u9 0), .ref (u9 1), .ref (u9 2), .ref (u9 3), .ref (u9 4), .ref (u9 5), .ref (u9 6), .ref (u9 7), .ref (u9 8), .int 0, .int 0, .int 0, .int 0, .int 0, .int 0, .int 0, .int 0, .int 0])), ((u9 0), .inl (cy 2, 8, .inr (.inl (fun _ => 0)))), ((u9 1), .inl (cy 2, 8, .inr (.inl (fun _ => 0)))), ((u9 2), .inl (cy 2, 6, .inr (.inl (fun _ => 0)))), ((u9 3), .inl (cy 1, 14, .inl (fun _ => 0))), ((u9 4), .inl (cy 1, 14, .inl (fun _ => 0))), ((u9 5), .inl (cy 1, 8, .inl (fun _ => 0))), ((u9 6), .inl (cy 1, 6, .inl (fun _ => 0))), ((u9 7), .inl (cy 1, 6, .inl (fun _ => 0))), ((u9 8), .inr (4, [.ref (u9 9), .ref (u9 10), .int 0, .int 0, .int 0, .int 0, .int 0, .int 0, .int 0, .int 0, .int 0])), ((u9 9), .inl (cy 1, 300, .inl (fun _ => 0))), ((u9 10), .inl (cy 1, 31, .inl (fun _ => 0))), (q7, .inr (2, [.ref (u10 0), .ref q8])), ((u10 0), .inl (cy 1, 29, .inl (upd (fun _ => 0) (0 : Int32).toNatClampNeg (-1)))), (q11, .inr (0, [.ref (u12.1 0), .int 0, .int 0, .int 0])), ((u12.1 0), .inl (cy 4, 41, .inr (.inr (.inr (.inr (fun i => if i < 41 then some (u12.2 i) else none)))))), (q13, .inr (8, [.ref q7, .ref (u14 0)])), ((u14 0), .inl (cy 1, 64, .inl (fun _ => 0)))] ++ ((List.range 41).map (fun i => (u12.2 i, .inl (cy 1, 29, .inl (fun _ => 0)))) : va_W)) s.heap H locs := hO
  refine pFF (k := 4) (ws' := [(h0, .inr (10, [.ref q1, .ref q5, .ref q7, .ref q11, .ref q13, .null, .null, .null, .null, .null, .int 0, .int 0, .ref q3])), (q1, .inr (7, [.ref (u2 0), .int 0, .int 0, .int 0, .int 0, .long 0, .int 0])), ((u2 0), .inl (cy 0, 1600, .inl (fun _ => 0))), (q3, .inr (9, [.ref (u4 0), .ref (u4 1), .ref (u4 2), .ref (u4 3), .ref (u4 4), .ref (u4 5), .ref (u4 6), .ref (u4 7), .ref (u4 8), .int 0, .int 0, .int 0, .int 0, .int 0, .int 0, .int 0, .int 0, .int 0])), ((u4 0), .inl (cy 2, 8, .inr (.inl (fun _ => 0)))), ((u4 1), .inl (cy 2, 8, .inr (.inl (fun _ => 0)))), ((u4 2), .inl (cy 2, 6, .inr (.inl (fun _ => 0)))), ((u4 3), .inl (cy 1, 14, .inl (fun _ => 0))), ((u4 4), .inl (cy 1, 14, .inl (fun _ => 0))), ((u4 5), .inl (cy 1, 8, .inl (fun _ => 0))), ((u4 6), .inl (cy 1, 6, .inl (fun _ => 0))), ((u4 7), .inl (cy 1, 6, .inl (fun _ => 0))), ((u4 8), .inr (4, [.ref (u4 9), .ref (u4 10), .int 0, .int 0, .int 0, .int 0, .int 0, .int 0, .int 0, .int 0, .int 0])), ((u4 9), .inl (cy 1, 300, .inl (fun _ => 0))), ((u4 10), .inl (cy 1, 31, .inl (fun _ => 0))), (q5, .inr (5, [.ref q1, .ref q3, .int 0, .int (-1)])), (q8, .inr (9, [.ref (u9 0), .ref (u9 1), .ref (u9 2), .ref (u9 3), .ref (u9 4), .ref (u9 5), .ref (u9 6), .ref (u9 7), .ref (u9 8), .int 0, .int 0, .int 0, .int 0, .int 0, .int 0, .int 0, .int 0, .int 0])), ((u9 0), .inl (cy 2, 8, .inr (.inl (fun _ => 0)))), ((u9 1), .inl (cy 2, 8, .inr (.inl (fun _ => 0)))), ((u9 2), .inl (cy 2, 6, .inr (.inl (fun _ => 0)))), ((u9 3), .inl (cy 1, 14, .inl (fun _ => 0))), ((u9 4), .inl (cy 1, 14, .inl (fun _ => 0))), ((u9 5), .inl (cy 1, 8, .inl (fun _ => 0))), ((u9 6), .inl (cy 1, 6, .inl (fun _ => 0))), ((u9 7), .inl (cy 1, 6, .inl (fun _ => 0))), ((u9 8), .inr (4, [.ref (u9 9), .ref (u9 10), .int 0, .int 0, .int 0, .int 0, .int 0, .int 0, .int 0, .int 0, .int 0])), ((u9 9), .inl (cy 1, 300, .inl (fun _ => 0))), ((u9 10), .inl (cy 1, 31, .inl (fun _ => 0))), (q7, .inr (2, [.ref (u10 0), .ref q8])), ((u10 0), .inl (cy 1, 29, .inl (upd (fun _ => 0) (0 : Int32).toNatClampNeg (-1)))), (q11, .inr (0, [.ref (u12.1 0), .int 0, .int 0, .int 0])), ((u12.1 0), .inl (cy 4, 41, .inr (.inr (.inr (.inr (fun i => if i < 41 then some (u12.2 i) else none)))))), (q13, .inr (8, [.ref q7, .ref (u14 0)])), ((u14 0), .inl (cy 1, 64, .inl (fun _ => 0)))] ++ ((List.range 41).map (fun i => (u12.2 i, .inl (cy 1, 29, .inl (fun _ => 0)))) : va_W)) (ty := tyX10 4) (v := .ref q13) C hin hO 0 rfl rfl inFX10 (by decide) wd_472 rfl rfl tyX10 tyX10_ok nmX10 rfl (by decide +kernel) rfl rfl (Nat.le_of_ble_eq_true rfl) rfl dX10_init_86 (fun H locs hO => ?_)
  refine lv_aload_n hx hb dX10_init_89 rfl (lv_at hl 0 rfl) ?_
  refine nOb (ci := 6) (fs := [.null, .null, .null]) C hO inFX6 tyX6 tyX6_ok wd_404 wd_405 wd_118 rfl (fun j hj => by rcases (show j = 0 ∨ j = 1 ∨ j = 2 by omega) with rfl | rfl | rfl <;> rfl) (Nat.le_of_ble_eq_true rfl) (Nat.le_of_ble_eq_true rfl) dX10_init_90 (fun q15 H hO => ?_)
  have hO := hO.swap
  have hO : Wo D A ([(h0, .inr (10, [.ref q1, .ref q5, .ref q7, .ref q11, .ref q13, .null, .null, .null, .null, .null, .int 0, .int 0, .ref q3])), (q1, .inr (7, [.ref (u2 0), .int 0, .int 0, .int 0, .int 0, .long 0, .int 0])), ((u2 0), .inl (cy 0, 1600, .inl (fun _ => 0))), (q3, .inr (9, [.ref (u4 0), .ref (u4 1), .ref (u4 2), .ref (u4 3), .ref (u4 4), .ref (u4 5), .ref (u4 6), .ref (u4 7), .ref (u4 8), .int 0, .int 0, .int 0, .int 0, .int 0, .int 0, .int 0, .int 0, .int 0])), ((u4 0), .inl (cy 2, 8, .inr (.inl (fun _ => 0)))), ((u4 1), .inl (cy 2, 8, .inr (.inl (fun _ => 0)))), ((u4 2), .inl (cy 2, 6, .inr (.inl (fun _ => 0)))), ((u4 3), .inl (cy 1, 14, .inl (fun _ => 0))), ((u4 4), .inl (cy 1, 14, .inl (fun _ => 0))), ((u4 5), .inl (cy 1, 8, .inl (fun _ => 0))), ((u4 6), .inl (cy 1, 6, .inl (fun _ => 0))), ((u4 7), .inl (cy 1, 6, .inl (fun _ => 0))), ((u4 8), .inr (4, [.ref (u4 9), .ref (u4 10), .int 0, .int 0, .int 0, .int 0, .int 0, .int 0, .int 0, .int 0, .int 0])), ((u4 9), .inl (cy 1, 300, .inl (fun _ => 0))), ((u4 10), .inl (cy 1, 31, .inl (fun _ => 0))), (q5, .inr (5, [.ref q1, .ref q3, .int 0, .int (-1)])), (q8, .inr (9, [.ref (u9 0), .ref (u9 1), .ref (u9 2), .ref (u9 3), .ref (u9 4), .ref (u9 5), .ref (u9 6), .ref (u9 7), .ref (u9 8), .int 0, .int 0, .int 0, .int 0, .int 0, .int 0, .int 0, .int 0, .int 0])), ((u9 0), .inl (cy 2, 8, .inr (.inl (fun _ => 0)))), ((u9 1), .inl (cy 2, 8, .inr (.inl (fun _ => 0)))), ((u9 2), .inl (cy 2, 6, .inr (.inl (fun _ => 0)))), ((u9 3), .inl (cy 1, 14, .inl (fun _ => 0))), ((u9 4), .inl (cy 1, 14, .inl (fun _ => 0))), ((u9 5), .inl (cy 1, 8, .inl (fun _ => 0))), ((u9 6), .inl (cy 1, 6, .inl (fun _ => 0))), ((u9 7), .inl (cy 1, 6, .inl (fun _ => 0))), ((u9 8), .inr (4, [.ref (u9 9), .ref (u9 10), .int 0, .int 0, .int 0, .int 0, .int 0, .int 0, .int 0, .int 0, .int 0])), ((u9 9), .inl (cy 1, 300, .inl (fun _ => 0))), ((u9 10), .inl (cy 1, 31, .inl (fun _ => 0))), (q7, .inr (2, [.ref (u10 0), .ref q8])), ((u10 0), .inl (cy 1, 29, .inl (upd (fun _ => 0) (0 : Int32).toNatClampNeg (-1)))), (q11, .inr (0, [.ref (u12.1 0), .int 0, .int 0, .int 0])), ((u12.1 0), .inl (cy 4, 41, .inr (.inr (.inr (.inr (fun i => if i < 41 then some (u12.2 i) else none)))))), (q13, .inr (8, [.ref q7, .ref (u14 0)])), ((u14 0), .inl (cy 1, 64, .inl (fun _ => 0))), (q15, .inr (6, [.null, .null, .null]))] ++ ((List.range 41).map (fun i => (u12.2 i, .inl (cy 1, 29, .inl (fun _ => 0)))) : va_W)) s.heap H locs := hO
  refine lv_dup hx hb dX10_init_93 rfl ?_
  refine lv_aload_n hx hb dX10_init_94 rfl (lv_at hl 0 rfl) ?_
  refine gf_RX10_37 (v := .ref q7) C hO 0 rfl rfl dX10_init_95 ?_
  refine lv_aload_n hx hb dX10_init_98 rfl (lv_at hl 0 rfl) ?_
  refine gf_RX10_53 (v := .ref q13) C hO 0 rfl rfl dX10_init_99 ?_
  refine dI (As := [.ref q7, .ref q13]) (rest := [.ref q15, .ref h0]) (wc := [(q15, .inr (6, [.null, .null, .null]))]) (wr := [(h0, .inr (10, [.ref q1, .ref q5, .ref q7, .ref q11, .ref q13, .null, .null, .null, .null, .null, .int 0, .int 0, .ref q3])), (q1, .inr (7, [.ref (u2 0), .int 0, .int 0, .int 0, .int 0, .long 0, .int 0])), ((u2 0), .inl (cy 0, 1600, .inl (fun _ => 0))), (q3, .inr (9, [.ref (u4 0), .ref (u4 1), .ref (u4 2), .ref (u4 3), .ref (u4 4), .ref (u4 5), .ref (u4 6), .ref (u4 7), .ref (u4 8), .int 0, .int 0, .int 0, .int 0, .int 0, .int 0, .int 0, .int 0, .int 0])), ((u4 0), .inl (cy 2, 8, .inr (.inl (fun _ => 0)))), ((u4 1), .inl (cy 2, 8, .inr (.inl (fun _ => 0)))), ((u4 2), .inl (cy 2, 6, .inr (.inl (fun _ => 0)))), ((u4 3), .inl (cy 1, 14, .inl (fun _ => 0))), ((u4 4), .inl (cy 1, 14, .inl (fun _ => 0))), ((u4 5), .inl (cy 1, 8, .inl (fun _ => 0))), ((u4 6), .inl (cy 1, 6, .inl (fun _ => 0))), ((u4 7), .inl (cy 1, 6, .inl (fun _ => 0))), ((u4 8), .inr (4, [.ref (u4 9), .ref (u4 10), .int 0, .int 0, .int 0, .int 0, .int 0, .int 0, .int 0, .int 0, .int 0])), ((u4 9), .inl (cy 1, 300, .inl (fun _ => 0))), ((u4 10), .inl (cy 1, 31, .inl (fun _ => 0))), (q5, .inr (5, [.ref q1, .ref q3, .int 0, .int (-1)])), (q8, .inr (9, [.ref (u9 0), .ref (u9 1), .ref (u9 2), .ref (u9 3), .ref (u9 4), .ref (u9 5), .ref (u9 6), .ref (u9 7), .ref (u9 8), .int 0, .int 0, .int 0, .int 0, .int 0, .int 0, .int 0, .int 0, .int 0])), ((u9 0), .inl (cy 2, 8, .inr (.inl (fun _ => 0)))), ((u9 1), .inl (cy 2, 8, .inr (.inl (fun _ => 0)))), ((u9 2), .inl (cy 2, 6, .inr (.inl (fun _ => 0)))), ((u9 3), .inl (cy 1, 14, .inl (fun _ => 0))), ((u9 4), .inl (cy 1, 14, .inl (fun _ => 0))), ((u9 5), .inl (cy 1, 8, .inl (fun _ => 0))), ((u9 6), .inl (cy 1, 6, .inl (fun _ => 0))), ((u9 7), .inl (cy 1, 6, .inl (fun _ => 0))), ((u9 8), .inr (4, [.ref (u9 9), .ref (u9 10), .int 0, .int 0, .int 0, .int 0, .int 0, .int 0, .int 0, .int 0, .int 0])), ((u9 9), .inl (cy 1, 300, .inl (fun _ => 0))), ((u9 10), .inl (cy 1, 31, .inl (fun _ => 0))), (q7, .inr (2, [.ref (u10 0), .ref q8])), ((u10 0), .inl (cy 1, 29, .inl (upd (fun _ => 0) (0 : Int32).toNatClampNeg (-1)))), (q11, .inr (0, [.ref (u12.1 0), .int 0, .int 0, .int 0])), ((u12.1 0), .inl (cy 4, 41, .inr (.inr (.inr (.inr (fun i => if i < 41 then some (u12.2 i) else none)))))), (q13, .inr (8, [.ref q7, .ref (u14 0)])), ((u14 0), .inl (cy 1, 64, .inl (fun _ => 0)))]) C hQ hO [34] [0, 1, 2, 3, 4, 5, 6, 7, 8, 9, 10, 11, 12, 13, 14, 15, 16, 17, 18, 19, 20, 21, 22, 23, 24, 25, 26, 27, 28, 29, 30, 31, 32, 33] rfl rfl (by decide) (by decide) (by decide) (K_X6 l D cy q15 q7 q13) (cwI 2 ht (gGood wd_408) rfl rfl rfl (ht _ wd_118) (ht _ wd_406) (ht _ wd_407) rfl hd_yX6_init ⟨Nat.le_of_ble_eq_true rfl, Nat.le_of_ble_eq_true rfl⟩) rfl hl.1 (Nat.le_of_ble_eq_true rfl) dX10_init_102 rfl ⟨Nat.le_of_ble_eq_true rfl, Nat.le_of_ble_eq_true rfl⟩ (fun u16 H locs h_u16 hO => ?_)
  have hO : Wo D A ([(h0, .inr (10, [.ref q1, .ref q5, .ref q7, .ref q11, .ref q13, .null, .null, .null, .null, .null, .int 0, .int 0, .ref q3])), (q1, .inr (7, [.ref (u2 0), .int 0, .int 0, .int 0, .int 0, .long 0, .int 0])), ((u2 0), .inl (cy 0, 1600, .inl (fun _ => 0))), (q3, .inr (9, [.ref (u4 0), .ref (u4 1), .ref (u4 2), .ref (u4 3), .ref (u4 4), .ref (u4 5), .ref (u4 6), .ref (u4 7), .ref (u4 8), .int 0, .int 0, .int 0, .int 0, .int 0, .int 0, .int 0, .int 0, .int 0])), ((u4 0), .inl (cy 2, 8, .inr (.inl (fun _ => 0)))), ((u4 1), .inl (cy 2, 8, .inr (.inl (fun _ => 0)))), ((u4 2), .inl (cy 2, 6, .inr (.inl (fun _ => 0)))), ((u4 3), .inl (cy 1, 14, .inl (fun _ => 0))), ((u4 4), .inl (cy 1, 14, .inl (fun _ => 0))), ((u4 5), .inl (cy 1, 8, .inl (fun _ => 0))), ((u4 6), .inl (cy 1, 6, .inl (fun _ => 0))), ((u4 7), .inl (cy 1, 6, .inl (fun _ => 0))), ((u4 8), .inr (4, [.ref (u4 9), .ref (u4 10), .int 0, .int 0, .int 0, .int 0, .int 0, .int 0, .int 0, .int 0, .int 0])), ((u4 9), .inl (cy 1, 300, .inl (fun _ => 0))), ((u4 10), .inl (cy 1, 31, .inl (fun _ => 0))), (q5, .inr (5, [.ref q1, .ref q3, .int 0, .int (-1)])), (q8, .inr (9, [.ref (u9 0), .ref (u9 1), .ref (u9 2), .ref (u9 3), .ref (u9 4), .ref (u9 5), .ref (u9 6), .ref (u9 7), .ref (u9 8), .int 0, .int 0, .int 0, .int 0, .int 0, .int 0, .int 0, .int 0, .int 0])), ((u9 0), .inl (cy 2, 8, .inr (.inl (fun _ => 0)))), ((u9 1), .inl (cy 2, 8, .inr (.inl (fun _ => 0)))), ((u9 2), .inl (cy 2, 6, .inr (.inl (fun _ => 0)))), ((u9 3), .inl (cy 1, 14, .inl (fun _ => 0))), ((u9 4), .inl (cy 1, 14, .inl (fun _ => 0))), ((u9 5), .inl (cy 1, 8, .inl (fun _ => 0))), ((u9 6), .inl (cy 1, 6, .inl (fun _ => 0))), ((u9 7), .inl (cy 1, 6, .inl (fun _ => 0))), ((u9 8), .inr (4, [.ref (u9 9), .ref (u9 10), .int 0, .int 0, .int 0, .int 0, .int 0, .int 0, .int 0, .int 0, .int 0])), ((u9 9), .inl (cy 1, 300, .inl (fun _ => 0))), ((u9 10), .inl (cy 1, 31, .inl (fun _ => 0))), (q7, .inr (2, [.ref (u10 0), .ref q8])), ((u10 0), .inl (cy 1, 29, .inl (upd (fun _ => 0) (0 : Int32).toNatClampNeg (-1)))), (q11, .inr (0, [.ref (u12.1 0), .int 0, .int 0, .int 0])), ((u12.1 0), .inl (cy 4, 41, .inr (.inr (.inr (.inr (fun i => if i < 41 then some (u12.2 i) else none)))))), (q13, .inr (8, [.ref q7, .ref (u14 0)])), ((u14 0), .inl (cy 1, 64, .inl (fun _ => 0))), (q15, .inr (6, [.ref q7, .ref q13, .ref (u16 0)])), ((u16 0), .inl (cy 1, 384, .inl (fun _ => 0)))] ++ ((List.range 41).map (fun i => (u12.2 i, .inl (cy 1, 29, .inl (fun _ => 0)))) : va_W)) s.heap H locs := hO
  refine pFF (k := 5) (ws' := [(h0, .inr (10, [.ref q1, .ref q5, .ref q7, .ref q11, .ref q13, .ref q15, .null, .null, .null, .null, .int 0, .int 0, .ref q3])), (q1, .inr (7, [.ref (u2 0), .int 0, .int 0, .int 0, .int 0, .long 0, .int 0])), ((u2 0), .inl (cy 0, 1600, .inl (fun _ => 0))), (q3, .inr (9, [.ref (u4 0), .ref (u4 1), .ref (u4 2), .ref (u4 3), .ref (u4 4), .ref (u4 5), .ref (u4 6), .ref (u4 7), .ref (u4 8), .int 0, .int 0, .int 0, .int 0, .int 0, .int 0, .int 0, .int 0, .int 0])), ((u4 0), .inl (cy 2, 8, .inr (.inl (fun _ => 0)))), ((u4 1), .inl (cy 2, 8, .inr (.inl (fun _ => 0)))), ((u4 2), .inl (cy 2, 6, .inr (.inl (fun _ => 0)))), ((u4 3), .inl (cy 1, 14, .inl (fun _ => 0))), ((u4 4), .inl (cy 1, 14, .inl (fun _ => 0))), ((u4 5), .inl (cy 1, 8, .inl (fun _ => 0))), ((u4 6), .inl (cy 1, 6, .inl (fun _ => 0))), ((u4 7), .inl (cy 1, 6, .inl (fun _ => 0))), ((u4 8), .inr (4, [.ref (u4 9), .ref (u4 10), .int 0, .int 0, .int 0, .int 0, .int 0, .int 0, .int 0, .int 0, .int 0])), ((u4 9), .inl (cy 1, 300, .inl (fun _ => 0))), ((u4 10), .inl (cy 1, 31, .inl (fun _ => 0))), (q5, .inr (5, [.ref q1, .ref q3, .int 0, .int (-1)])), (q8, .inr (9, [.ref (u9 0), .ref (u9 1), .ref (u9 2), .ref (u9 3), .ref (u9 4), .ref (u9 5), .ref (u9 6), .ref (u9 7), .ref (u9 8), .int 0, .int 0, .int 0, .int 0, .int 0, .int 0, .int 0, .int 0, .int 0])), ((u9 0), .inl (cy 2, 8, .inr (.inl (fun _ => 0)))), ((u9 1), .inl (cy 2, 8, .inr (.inl (fun _ => 0)))), ((u9 2), .inl (cy 2, 6, .inr (.inl (fun _ => 0)))), ((u9 3), .inl (cy 1, 14, .inl (fun _ => 0))), ((u9 4), .inl (cy 1, 14, .inl (fun _ => 0))), ((u9 5), .inl (cy 1, 8, .inl (fun _ => 0))), ((u9 6), .inl (cy 1, 6, .inl (fun _ => 0))), ((u9 7), .inl (cy 1, 6, .inl (fun _ => 0))), ((u9 8), .inr (4, [.ref (u9 9), .ref (u9 10), .int 0, .int 0, .int 0, .int 0, .int 0, .int 0, .int 0, .int 0, .int 0])), ((u9 9), .inl (cy 1, 300, .inl (fun _ => 0))), ((u9 10), .inl (cy 1, 31, .inl (fun _ => 0))), (q7, .inr (2, [.ref (u10 0), .ref q8])), ((u10 0), .inl (cy 1, 29, .inl (upd (fun _ => 0) (0 : Int32).toNatClampNeg (-1)))), (q11, .inr (0, [.ref (u12.1 0), .int 0, .int 0, .int 0])), ((u12.1 0), .inl (cy 4, 41, .inr (.inr (.inr (.inr (fun i => if i < 41 then some (u12.2 i) else none)))))), (q13, .inr (8, [.ref q7, .ref (u14 0)])), ((u14 0), .inl (cy 1, 64, .inl (fun _ => 0))), (q15, .inr (6, [.ref q7, .ref q13, .ref (u16 0)])), ((u16 0), .inl (cy 1, 384, .inl (fun _ => 0)))] ++ ((List.range 41).map (fun i => (u12.2 i, .inl (cy 1, 29, .inl (fun _ => 0)))) : va_W)) (ty := tyX10 5) (v := .ref q15) C hin hO 0 rfl rfl inFX10 (by decide) wd_473 rfl rfl tyX10 tyX10_ok nmX10 rfl (by decide +kernel) rfl rfl (Nat.le_of_ble_eq_true rfl) rfl dX10_init_105 (fun H locs hO => ?_)
  refine lv_aload_n hx hb dX10_init_108 rfl (lv_at hl 0 rfl) ?_
  refine nOb (ci := 1) (fs := [.null, .null, .null]) C hO inFX1 tyX1 tyX1_ok wd_420 wd_421 wd_119 rfl (fun j hj => by rcases (show j = 0 ∨ j = 1 ∨ j = 2 by omega) with rfl | rfl | rfl <;> rfl) (Nat.le_of_ble_eq_true rfl) (Nat.le_of_ble_eq_true rfl) dX10_init_109 (fun q17 H hO => ?_)
  have hO := hO.swap
  have hO : Wo D A ([(h0, .inr (10, [.ref q1, .ref q5, .ref q7, .ref q11, .ref q13, .ref q15, .null, .null, .null, .null, .int 0, .int 0, .ref q3])), (q1, .inr (7, [.ref (u2 0), .int 0, .int 0, .int 0, .int 0, .long 0, .int 0])), ((u2 0), .inl (cy 0, 1600, .inl (fun _ => 0))), (q3, .inr (9, [.ref (u4 0), .ref (u4 1), .ref (u4 2), .ref (u4 3), .ref (u4 4), .ref (u4 5), .ref (u4 6), .ref (u4 7), .ref (u4 8), .int 0, .int 0, .int 0, .int 0, .int 0, .int 0, .int 0, .int 0, .int 0])), ((u4 0), .inl (cy 2, 8, .inr (.inl (fun _ => 0)))), ((u4 1), .inl (cy 2, 8, .inr (.inl (fun _ => 0)))), ((u4 2), .inl (cy 2, 6, .inr (.inl (fun _ => 0)))), ((u4 3), .inl (cy 1, 14, .inl (fun _ => 0))), ((u4 4), .inl (cy 1, 14, .inl (fun _ => 0))), ((u4 5), .inl (cy 1, 8, .inl (fun _ => 0))), ((u4 6), .inl (cy 1, 6, .inl (fun _ => 0))), ((u4 7), .inl (cy 1, 6, .inl (fun _ => 0))), ((u4 8), .inr (4, [.ref (u4 9), .ref (u4 10), .int 0, .int 0, .int 0, .int 0, .int 0, .int 0, .int 0, .int 0, .int 0])), ((u4 9), .inl (cy 1, 300, .inl (fun _ => 0))), ((u4 10), .inl (cy 1, 31, .inl (fun _ => 0))), (q5, .inr (5, [.ref q1, .ref q3, .int 0, .int (-1)])), (q8, .inr (9, [.ref (u9 0), .ref (u9 1), .ref (u9 2), .ref (u9 3), .ref (u9 4), .ref (u9 5), .ref (u9 6), .ref (u9 7), .ref (u9 8), .int 0, .int 0, .int 0, .int 0, .int 0, .int 0, .int 0, .int 0, .int 0])), ((u9 0), .inl (cy 2, 8, .inr (.inl (fun _ => 0)))), ((u9 1), .inl (cy 2, 8, .inr (.inl (fun _ => 0)))), ((u9 2), .inl (cy 2, 6, .inr (.inl (fun _ => 0)))), ((u9 3), .inl (cy 1, 14, .inl (fun _ => 0))), ((u9 4), .inl (cy 1, 14, .inl (fun _ => 0))), ((u9 5), .inl (cy 1, 8, .inl (fun _ => 0))), ((u9 6), .inl (cy 1, 6, .inl (fun _ => 0))), ((u9 7), .inl (cy 1, 6, .inl (fun _ => 0))), ((u9 8), .inr (4, [.ref (u9 9), .ref (u9 10), .int 0, .int 0, .int 0, .int 0, .int 0, .int 0, .int 0, .int 0, .int 0])), ((u9 9), .inl (cy 1, 300, .inl (fun _ => 0))), ((u9 10), .inl (cy 1, 31, .inl (fun _ => 0))), (q7, .inr (2, [.ref (u10 0), .ref q8])), ((u10 0), .inl (cy 1, 29, .inl (upd (fun _ => 0) (0 : Int32).toNatClampNeg (-1)))), (q11, .inr (0, [.ref (u12.1 0), .int 0, .int 0, .int 0])), ((u12.1 0), .inl (cy 4, 41, .inr (.inr (.inr (.inr (fun i => if i < 41 then some (u12.2 i) else none)))))), (q13, .inr (8, [.ref q7, .ref (u14 0)])), ((u14 0), .inl (cy 1, 64, .inl (fun _ => 0))), (q15, .inr (6, [.ref q7, .ref q13, .ref (u16 0)])), ((u16 0), .inl (cy 1, 384, .inl (fun _ => 0))), (q17, .inr (1, [.null, .null, .null]))] ++ ((List.range 41).map (fun i => (u12.2 i, .inl (cy 1, 29, .inl (fun _ => 0)))) : va_W)) s.heap H locs := hO
  refine lv_dup hx hb dX10_init_112 rfl ?_
  refine lv_aload_n hx hb dX10_init_113 rfl (lv_at hl 0 rfl) ?_
  refine gf_RX10_37 (v := .ref q7) C hO 0 rfl rfl dX10_init_114 ?_
  refine dI (As := [.ref q7]) (rest := [.ref q17, .ref h0]) (wc := [(q17, .inr (1, [.null, .null, .null]))]) (wr := [(h0, .inr (10, [.ref q1, .ref q5, .ref q7, .ref q11, .ref q13, .ref q15, .null, .null, .null, .null, .int 0, .int 0, .ref q3])), (q1, .inr (7, [.ref (u2 0), .int 0, .int 0, .int 0, .int 0, .long 0, .int 0])), ((u2 0), .inl (cy 0, 1600, .inl (fun _ => 0))), (q3, .inr (9, [.ref (u4 0), .ref (u4 1), .ref (u4 2), .ref (u4 3), .ref (u4 4), .ref (u4 5), .ref (u4 6), .ref (u4 7), .ref (u4 8), .int 0, .int 0, .int 0, .int 0, .int 0, .int 0, .int 0, .int 0, .int 0])), ((u4 0), .inl (cy 2, 8, .inr (.inl (fun _ => 0)))), ((u4 1), .inl (cy 2, 8, .inr (.inl (fun _ => 0)))), ((u4 2), .inl (cy 2, 6, .inr (.inl (fun _ => 0)))), ((u4 3), .inl (cy 1, 14, .inl (fun _ => 0))), ((u4 4), .inl (cy 1, 14, .inl (fun _ => 0))), ((u4 5), .inl (cy 1, 8, .inl (fun _ => 0))), ((u4 6), .inl (cy 1, 6, .inl (fun _ => 0))), ((u4 7), .inl (cy 1, 6, .inl (fun _ => 0))), ((u4 8), .inr (4, [.ref (u4 9), .ref (u4 10), .int 0, .int 0, .int 0, .int 0, .int 0, .int 0, .int 0, .int 0, .int 0])), ((u4 9), .inl (cy 1, 300, .inl (fun _ => 0))), ((u4 10), .inl (cy 1, 31, .inl (fun _ => 0))), (q5, .inr (5, [.ref q1, .ref q3, .int 0, .int (-1)])), (q8, .inr (9, [.ref (u9 0), .ref (u9 1), .ref (u9 2), .ref (u9 3), .ref (u9 4), .ref (u9 5), .ref (u9 6), .ref (u9 7), .ref (u9 8), .int 0, .int 0, .int 0, .int 0, .int 0, .int 0, .int 0, .int 0, .int 0])), ((u9 0), .inl (cy 2, 8, .inr (.inl (fun _ => 0)))), ((u9 1), .inl (cy 2, 8, .inr (.inl (fun _ => 0)))), ((u9 2), .inl (cy 2, 6, .inr (.inl (fun _ => 0)))), ((u9 3), .inl (cy 1, 14, .inl (fun _ => 0))), ((u9 4), .inl (cy 1, 14, .inl (fun _ => 0))), ((u9 5), .inl (cy 1, 8, .inl (fun _ => 0))), ((u9 6), .inl (cy 1, 6, .inl (fun _ => 0))), ((u9 7), .inl (cy 1, 6, .inl (fun _ => 0))), ((u9 8), .inr (4, [.ref (u9 9), .ref (u9 10), .int 0, .int 0, .int 0, .int 0, .int 0, .int 0, .int 0, .int 0, .int 0])), ((u9 9), .inl (cy 1, 300, .inl (fun _ => 0))), ((u9 10), .inl (cy 1, 31, .inl (fun _ => 0))), (q7, .inr (2, [.ref (u10 0), .ref q8])), ((u10 0), .inl (cy 1, 29, .inl (upd (fun _ => 0) (0 : Int32).toNatClampNeg (-1)))), (q11, .inr (0, [.ref (u12.1 0), .int 0, .int 0, .int 0])), ((u12.1 0), .inl (cy 4, 41, .inr (.inr (.inr (.inr (fun i => if i < 41 then some (u12.2 i) else none)))))), (q13, .inr (8, [.ref q7, .ref (u14 0)])), ((u14 0), .inl (cy 1, 64, .inl (fun _ => 0))), (q15, .inr (6, [.ref q7, .ref q13, .ref (u16 0)])), ((u16 0), .inl (cy 1, 384, .inl (fun _ => 0)))]) C hQ hO [36] [0, 1, 2, 3, 4, 5, 6, 7, 8, 9, 10, 11, 12, 13, 14, 15, 16, 17, 18, 19, 20, 21, 22, 23, 24, 25, 26, 27, 28, 29, 30, 31, 32, 33, 34, 35] rfl rfl (by decide) (by decide) (by decide) (K_X1 l D cy q17 q7) (cwI 1 ht (gGood wd_424) rfl rfl rfl (ht _ wd_119) (ht _ wd_422) (ht _ wd_423) rfl hd_yX1_init ⟨Nat.le_of_ble_eq_true rfl, Nat.le_of_ble_eq_true rfl⟩) rfl hl.1 (Nat.le_of_ble_eq_true rfl) dX10_init_117 rfl ⟨Nat.le_of_ble_eq_true rfl, Nat.le_of_ble_eq_true rfl⟩ (fun u18 H locs h_u18 hO => ?_)
  have hO : Wo D A ([(h0, .inr (10, [.ref q1, .ref q5, .ref q7, .ref q11, .ref q13, .ref q15, .null, .null, .null, .null, .int 0, .int 0, .ref q3])), (q1, .inr (7, [.ref (u2 0), .int 0, .int 0, .int 0, .int 0, .long 0, .int 0])), ((u2 0), .inl (cy 0, 1600, .inl (fun _ => 0))), (q3, .inr (9, [.ref (u4 0), .ref (u4 1), .ref (u4 2), .ref (u4 3), .ref (u4 4), .ref (u4 5), .ref (u4 6), .ref (u4 7), .ref (u4 8), .int 0, .int 0, .int 0, .int 0, .int 0, .int 0, .int 0, .int 0, .int 0])), ((u4 0), .inl (cy 2, 8, .inr (.inl (fun _ => 0)))), ((u4 1), .inl (cy 2, 8, .inr (.inl (fun _ => 0)))), ((u4 2), .inl (cy 2, 6, .inr (.inl (fun _ => 0)))), ((u4 3), .inl (cy 1, 14, .inl (fun _ => 0))), ((u4 4), .inl (cy 1, 14, .inl (fun _ => 0))), ((u4 5), .inl (cy 1, 8, .inl (fun _ => 0))), ((u4 6), .inl (cy 1, 6, .inl (fun _ => 0))), ((u4 7), .inl (cy 1, 6, .inl (fun _ => 0))), ((u4 8), .inr (4, [.ref (u4 9), .ref (u4 10), .int 0, .int 0, .int 0, .int 0, .int 0, .int 0, .int 0, .int 0, .int 0])), ((u4 9), .inl (cy 1, 300, .inl (fun _ => 0))), ((u4 10), .inl (cy 1, 31, .inl (fun _ => 0))), (q5, .inr (5, [.ref q1, .ref q3, .int 0, .int (-1)])), (q8, .inr (9, [.ref (u9 0), .ref (u9 1), .ref (u9 2), .ref (u9 3), .ref (u9 4), .ref (u9 5), .ref (u9 6), .ref (u9 7), .ref (u9 8), .int 0, .int 0, .int 0, .int 0, .int 0, .int 0, .int 0, .int 0, .int 0])), ((u9 0), .inl (cy 2, 8, .inr (.inl (fun _ => 0)))), ((u9 1), .inl (cy 2, 8, .inr (.inl (fun _ => 0)))), ((u9 2), .inl (cy 2, 6, .inr (.inl (fun _ => 0)))), ((u9 3), .inl (cy 1, 14, .inl (fun _ => 0))), ((u9 4), .inl (cy 1, 14, .inl (fun _ => 0))), ((u9 5), .inl (cy 1, 8, .inl (fun _ => 0))), ((u9 6), .inl (cy 1, 6, .inl (fun _ => 0))), ((u9 7), .inl (cy 1, 6, .inl (fun _ => 0))), ((u9 8), .inr (4, [.ref (u9 9), .ref (u9 10), .int 0, .int 0, .int 0, .int 0, .int 0, .int 0, .int 0, .int 0, .int 0])), ((u9 9), .inl (cy 1, 300, .inl (fun _ => 0))), ((u9 10), .inl (cy 1, 31, .inl (fun _ => 0))), (q7, .inr (2, [.ref (u10 0), .ref q8])), ((u10 0), .inl (cy 1, 29, .inl (upd (fun _ => 0) (0 : Int32).toNatClampNeg (-1)))), (q11, .inr (0, [.ref (u12.1 0), .int 0, .int 0, .int 0])), ((u12.1 0), .inl (cy 4, 41, .inr (.inr (.inr (.inr (fun i => if i < 41 then some (u12.2 i) else none)))))), (q13, .inr (8, [.ref q7, .ref (u14 0)])), ((u14 0), .inl (cy 1, 64, .inl (fun _ => 0))), (q15, .inr (6, [.ref q7, .ref q13, .ref (u16 0)])), ((u16 0), .inl (cy 1, 384, .inl (fun _ => 0))), (q17, .inr (1, [.ref q7, .ref (u18 0), .ref (u18 1)])), ((u18 0), .inl (cy 1, 8, .inl (fun _ => 0))), ((u18 1), .inl (cy 1, 8, .inl (fun _ => 0)))] ++ ((List.range 41).map (fun i => (u12.2 i, .inl (cy 1, 29, .inl (fun _ => 0)))) : va_W)) s.heap H locs := hO
  refine pFF (k := 6) (ws' := [(h0, .inr (10, [.ref q1, .ref q5, .ref q7, .ref q11, .ref q13, .ref q15, .ref q17, .null, .null, .null, .int 0, .int 0, .ref q3])), (q1, .inr (7, [.ref (u2 0), .int 0, .int 0, .int 0, .int 0, .long 0, .int 0])), ((u2 0), .inl (cy 0, 1600, .inl (fun _ => 0))), (q3, .inr (9, [.ref (u4 0), .ref (u4 1), .ref (u4 2), .ref (u4 3), .ref (u4 4), .ref (u4 5), .ref (u4 6), .ref (u4 7), .ref (u4 8), .int 0, .int 0, .int 0, .int 0, .int 0, .int 0, .int 0, .int 0, .int 0])), ((u4 0), .inl (cy 2, 8, .inr (.inl (fun _ => 0)))), ((u4 1), .inl (cy 2, 8, .inr (.inl (fun _ => 0)))), ((u4 2), .inl (cy 2, 6, .inr (.inl (fun _ => 0)))), ((u4 3), .inl (cy 1, 14, .inl (fun _ => 0))), ((u4 4), .inl (cy 1, 14, .inl (fun _ => 0))), ((u4 5), .inl (cy 1, 8, .inl (fun _ => 0))), ((u4 6), .inl (cy 1, 6, .inl (fun _ => 0))), ((u4 7), .inl (cy 1, 6, .inl (fun _ => 0))), ((u4 8), .inr (4, [.ref (u4 9), .ref (u4 10), .int 0, .int 0, .int 0, .int 0, .int 0, .int 0, .int 0, .int 0, .int 0])), ((u4 9), .inl (cy 1, 300, .inl (fun _ => 0))), ((u4 10), .inl (cy 1, 31, .inl (fun _ => 0))), (q5, .inr (5, [.ref q1, .ref q3, .int 0, .int (-1)])), (q8, .inr (9, [.ref (u9 0), .ref (u9 1), .ref (u9 2), .ref (u9 3), .ref (u9 4), .ref (u9 5), .ref (u9 6), .ref (u9 7), .ref (u9 8), .int 0, .int 0, .int 0, .int 0, .int 0, .int 0, .int 0, .int 0, .int 0])), ((u9 0), .inl (cy 2, 8, .inr (.inl (fun _ => 0)))), ((u9 1), .inl (cy 2, 8, .inr (.inl (fun _ => 0)))), ((u9 2), .inl (cy 2, 6, .inr (.inl (fun _ => 0)))), ((u9 3), .inl (cy 1, 14, .inl (fun _ => 0))), ((u9 4), .inl (cy 1, 14, .inl (fun _ => 0))), ((u9 5), .inl (cy 1, 8, .inl (fun _ => 0))), ((u9 6), .inl (cy 1, 6, .inl (fun _ => 0))), ((u9 7), .inl (cy 1, 6, .inl (fun _ => 0))), ((u9 8), .inr (4, [.ref (u9 9), .ref (u9 10), .int 0, .int 0, .int 0, .int 0, .int 0, .int 0, .int 0, .int 0, .int 0])), ((u9 9), .inl (cy 1, 300, .inl (fun _ => 0))), ((u9 10), .inl (cy 1, 31, .inl (fun _ => 0))), (q7, .inr (2, [.ref (u10 0), .ref q8])), ((u10 0), .inl (cy 1, 29, .inl (upd (fun _ => 0) (0 : Int32).toNatClampNeg (-1)))), (q11, .inr (0, [.ref (u12.1 0), .int 0, .int 0, .int 0])), ((u12.1 0), .inl (cy 4, 41, .inr (.inr (.inr (.inr (fun i => if i < 41 then some (u12.2 i) else none)))))), (q13, .inr (8, [.ref q7, .ref (u14 0)])), ((u14 0), .inl (cy 1, 64, .inl (fun _ => 0))), (q15, .inr (6, [.ref q7, .ref q13, .ref (u16 0)])), ((u16 0), .inl (cy 1, 384, .inl (fun _ => 0))), (q17, .inr (1, [.ref q7, .ref (u18 0), .ref (u18 1)])), ((u18 0), .inl (cy 1, 8, .inl (fun _ => 0))), ((u18 1), .inl (cy 1, 8, .inl (fun _ => 0)))] ++ ((List.range 41).map (fun i => (u12.2 i, .inl (cy 1, 29, .inl (fun _ => 0)))) : va_W)) (ty := tyX10 6) (v := .ref q17) C hin hO 0 rfl rfl inFX10 (by decide) wd_474 rfl rfl tyX10 tyX10_ok nmX10 rfl (by decide +kernel) rfl rfl (Nat.le_of_ble_eq_true rfl) rfl dX10_init_120 (fun H locs hO => ?_)
  refine lv_aload_n hx hb dX10_init_123 rfl (lv_at hl 0 rfl) ?_
  refine nOb (ci := 3) (fs := [.null, .null, .null, .null, .null, .int 0, .int 0]) C hO inFX3 tyX3 tyX3_ok wd_436 wd_437 wd_120 rfl (fun j hj => by rcases (show j = 0 ∨ j = 1 ∨ j = 2 ∨ j = 3 ∨ j = 4 ∨ j = 5 ∨ j = 6 by omega) with rfl | rfl | rfl | rfl | rfl | rfl | rfl <;> rfl) (Nat.le_of_ble_eq_true rfl) (Nat.le_of_ble_eq_true rfl) dX10_init_124 (fun q19 H hO => ?_)
  have hO := hO.swap
  have hO : Wo D A ([(h0, .inr (10, [.ref q1, .ref q5, .ref q7, .ref q11, .ref q13, .ref q15, .ref q17, .null, .null, .null, .int 0, .int 0, .ref q3])), (q1, .inr (7, [.ref (u2 0), .int 0, .int 0, .int 0, .int 0, .long 0, .int 0])), ((u2 0), .inl (cy 0, 1600, .inl (fun _ => 0))), (q3, .inr (9, [.ref (u4 0), .ref (u4 1), .ref (u4 2), .ref (u4 3), .ref (u4 4), .ref (u4 5), .ref (u4 6), .ref (u4 7), .ref (u4 8), .int 0, .int 0, .int 0, .int 0, .int 0, .int 0, .int 0, .int 0, .int 0])), ((u4 0), .inl (cy 2, 8, .inr (.inl (fun _ => 0)))), ((u4 1), .inl (cy 2, 8, .inr (.inl (fun _ => 0)))), ((u4 2), .inl (cy 2, 6, .inr (.inl (fun _ => 0)))), ((u4 3), .inl (cy 1, 14, .inl (fun _ => 0))), ((u4 4), .inl (cy 1, 14, .inl (fun _ => 0))), ((u4 5), .inl (cy 1, 8, .inl (fun _ => 0))), ((u4 6), .inl (cy 1, 6, .inl (fun _ => 0))), ((u4 7), .inl (cy 1, 6, .inl (fun _ => 0))), ((u4 8), .inr (4, [.ref (u4 9), .ref (u4 10), .int 0, .int 0, .int 0, .int 0, .int 0, .int 0, .int 0, .int 0, .int 0])), ((u4 9), .inl (cy 1, 300, .inl (fun _ => 0))), ((u4 10), .inl (cy 1, 31, .inl (fun _ => 0))), (q5, .inr (5, [.ref q1, .ref q3, .int 0, .int (-1)])), (q8, .inr (9, [.ref (u9 0), .ref (u9 1), .ref (u9 2), .ref (u9 3), .ref (u9 4), .ref (u9 5), .ref (u9 6), .ref (u9 7), .ref (u9 8), .int 0, .int 0, .int 0, .int 0, .int 0, .int 0, .int 0, .int 0, .int 0])), ((u9 0), .inl (cy 2, 8, .inr (.inl (fun _ => 0)))), ((u9 1), .inl (cy 2, 8, .inr (.inl (fun _ => 0)))), ((u9 2), .inl (cy 2, 6, .inr (.inl (fun _ => 0)))), ((u9 3), .inl (cy 1, 14, .inl (fun _ => 0))), ((u9 4), .inl (cy 1, 14, .inl (fun _ => 0))), ((u9 5), .inl (cy 1, 8, .inl (fun _ => 0))), ((u9 6), .inl (cy 1, 6, .inl (fun _ => 0))), ((u9 7), .inl (cy 1, 6, .inl (fun _ => 0))), ((u9 8), .inr (4, [.ref (u9 9), .ref (u9 10), .int 0, .int 0, .int 0, .int 0, .int 0, .int 0, .int 0, .int 0, .int 0])), ((u9 9), .inl (cy 1, 300, .inl (fun _ => 0))), ((u9 10), .inl (cy 1, 31, .inl (fun _ => 0))), (q7, .inr (2, [.ref (u10 0), .ref q8])), ((u10 0), .inl (cy 1, 29, .inl (upd (fun _ => 0) (0 : Int32).toNatClampNeg (-1)))), (q11, .inr (0, [.ref (u12.1 0), .int 0, .int 0, .int 0])), ((u12.1 0), .inl (cy 4, 41, .inr (.inr (.inr (.inr (fun i => if i < 41 then some (u12.2 i) else none)))))), (q13, .inr (8, [.ref q7, .ref (u14 0)])), ((u14 0), .inl (cy 1, 64, .inl (fun _ => 0))), (q15, .inr (6, [.ref q7, .ref q13, .ref (u16 0)])), ((u16 0), .inl (cy 1, 384, .inl (fun _ => 0))), (q17, .inr (1, [.ref q7, .ref (u18 0), .ref (u18 1)])), ((u18 0), .inl (cy 1, 8, .inl (fun _ => 0))), ((u18 1), .inl (cy 1, 8, .inl (fun _ => 0))), (q19, .inr (3, [.null, .null, .null, .null, .null, .int 0, .int 0]))] ++ ((List.range 41).map (fun i => (u12.2 i, .inl (cy 1, 29, .inl (fun _ => 0)))) : va_W)) s.heap H locs := hO
  refine lv_dup hx hb dX10_init_127 rfl ?_
  refine dIN (As := []) (rest := [.ref q19, .ref h0]) (wc := [(q19, .inr (3, [.null, .null, .null, .null, .null, .int 0, .int 0]))]) (wr := [(h0, .inr (10, [.ref q1, .ref q5, .ref q7, .ref q11, .ref q13, .ref q15, .ref q17, .null, .null, .null, .int 0, .int 0, .ref q3])), (q1, .inr (7, [.ref (u2 0), .int 0, .int 0, .int 0, .int 0, .long 0, .int 0])), ((u2 0), .inl (cy 0, 1600, .inl (fun _ => 0))), (q3, .inr (9, [.ref (u4 0), .ref (u4 1), .ref (u4 2), .ref (u4 3), .ref (u4 4), .ref (u4 5), .ref (u4 6), .ref (u4 7), .ref (u4 8), .int 0, .int 0, .int 0, .int 0, .int 0, .int 0, .int 0, .int 0, .int 0])), ((u4 0), .inl (cy 2, 8, .inr (.inl (fun _ => 0)))), ((u4 1), .inl (cy 2, 8, .inr (.inl (fun _ => 0)))), ((u4 2), .inl (cy 2, 6, .inr (.inl (fun _ => 0)))), ((u4 3), .inl (cy 1, 14, .inl (fun _ => 0))), ((u4 4), .inl (cy 1, 14, .inl (fun _ => 0))), ((u4 5), .inl (cy 1, 8, .inl (fun _ => 0))), ((u4 6), .inl (cy 1, 6, .inl (fun _ => 0))), ((u4 7), .inl (cy 1, 6, .inl (fun _ => 0))), ((u4 8), .inr (4, [.ref (u4 9), .ref (u4 10), .int 0, .int 0, .int 0, .int 0, .int 0, .int 0, .int 0, .int 0, .int 0])), ((u4 9), .inl (cy 1, 300, .inl (fun _ => 0))), ((u4 10), .inl (cy 1, 31, .inl (fun _ => 0))), (q5, .inr (5, [.ref q1, .ref q3, .int 0, .int (-1)])), (q8, .inr (9, [.ref (u9 0), .ref (u9 1), .ref (u9 2), .ref (u9 3), .ref (u9 4), .ref (u9 5), .ref (u9 6), .ref (u9 7), .ref (u9 8), .int 0, .int 0, .int 0, .int 0, .int 0, .int 0, .int 0, .int 0, .int 0])), ((u9 0), .inl (cy 2, 8, .inr (.inl (fun _ => 0)))), ((u9 1), .inl (cy 2, 8, .inr (.inl (fun _ => 0)))), ((u9 2), .inl (cy 2, 6, .inr (.inl (fun _ => 0)))), ((u9 3), .inl (cy 1, 14, .inl (fun _ => 0))), ((u9 4), .inl (cy 1, 14, .inl (fun _ => 0))), ((u9 5), .inl (cy 1, 8, .inl (fun _ => 0))), ((u9 6), .inl (cy 1, 6, .inl (fun _ => 0))), ((u9 7), .inl (cy 1, 6, .inl (fun _ => 0))), ((u9 8), .inr (4, [.ref (u9 9), .ref (u9 10), .int 0, .int 0, .int 0, .int 0, .int 0, .int 0, .int 0, .int 0, .int 0])), ((u9 9), .inl (cy 1, 300, .inl (fun _ => 0))), ((u9 10), .inl (cy 1, 31, .inl (fun _ => 0))), (q7, .inr (2, [.ref (u10 0), .ref q8])), ((u10 0), .inl (cy 1, 29, .inl (upd (fun _ => 0) (0 : Int32).toNatClampNeg (-1)))), (q11, .inr (0, [.ref (u12.1 0), .int 0, .int 0, .int 0])), ((u12.1 0), .inl (cy 4, 41, .inr (.inr (.inr (.inr (fun i => if i < 41 then some (u12.2 i) else none)))))), (q13, .inr (8, [.ref q7, .ref (u14 0)])), ((u14 0), .inl (cy 1, 64, .inl (fun _ => 0))), (q15, .inr (6, [.ref q7, .ref q13, .ref (u16 0)])), ((u16 0), .inl (cy 1, 384, .inl (fun _ => 0))), (q17, .inr (1, [.ref q7, .ref (u18 0), .ref (u18 1)])), ((u18 0), .inl (cy 1, 8, .inl (fun _ => 0))), ((u18 1), .inl (cy 1, 8, .inl (fun _ => 0)))]) C hQ hO [39] [0, 1, 2, 3, 4, 5, 6, 7, 8, 9, 10, 11, 12, 13, 14, 15, 16, 17, 18, 19, 20, 21, 22, 23, 24, 25, 26, 27, 28, 29, 30, 31, 32, 33, 34, 35, 36, 37, 38] rfl rfl (by decide) (by decide) (by decide) (K_X3 l D cy q19) ⟨va_cnB (host := "WebCourt") 0 ht (gGood wd_440) rfl rfl rfl hQ.2.2.2.2.2.1 (ht _ wd_120) hd_yX3_init ⟨Nat.le_of_ble_eq_true rfl, Nat.le_of_ble_eq_true rfl⟩, rfl, ht _ wd_439⟩ rfl hl.1 (Nat.le_of_ble_eq_true rfl) dX10_init_128 rfl ⟨Nat.le_of_ble_eq_true rfl, Nat.le_of_ble_eq_true rfl⟩ (fun u20 H locs h_u20 hO => ?_)
  have hO : Wo D A ([(h0, .inr (10, [.ref q1, .ref q5, .ref q7, .ref q11, .ref q13, .ref q15, .ref q17, .null, .null, .null, .int 0, .int 0, .ref q3])), (q1, .inr (7, [.ref (u2 0), .int 0, .int 0, .int 0, .int 0, .long 0, .int 0])), ((u2 0), .inl (cy 0, 1600, .inl (fun _ => 0))), (q3, .inr (9, [.ref (u4 0), .ref (u4 1), .ref (u4 2), .ref (u4 3), .ref (u4 4), .ref (u4 5), .ref (u4 6), .ref (u4 7), .ref (u4 8), .int 0, .int 0, .int 0, .int 0, .int 0, .int 0, .int 0, .int 0, .int 0])), ((u4 0), .inl (cy 2, 8, .inr (.inl (fun _ => 0)))), ((u4 1), .inl (cy 2, 8, .inr (.inl (fun _ => 0)))), ((u4 2), .inl (cy 2, 6, .inr (.inl (fun _ => 0)))), ((u4 3), .inl (cy 1, 14, .inl (fun _ => 0))), ((u4 4), .inl (cy 1, 14, .inl (fun _ => 0))), ((u4 5), .inl (cy 1, 8, .inl (fun _ => 0))), ((u4 6), .inl (cy 1, 6, .inl (fun _ => 0))), ((u4 7), .inl (cy 1, 6, .inl (fun _ => 0))), ((u4 8), .inr (4, [.ref (u4 9), .ref (u4 10), .int 0, .int 0, .int 0, .int 0, .int 0, .int 0, .int 0, .int 0, .int 0])), ((u4 9), .inl (cy 1, 300, .inl (fun _ => 0))), ((u4 10), .inl (cy 1, 31, .inl (fun _ => 0))), (q5, .inr (5, [.ref q1, .ref q3, .int 0, .int (-1)])), (q8, .inr (9, [.ref (u9 0), .ref (u9 1), .ref (u9 2), .ref (u9 3), .ref (u9 4), .ref (u9 5), .ref (u9 6), .ref (u9 7), .ref (u9 8), .int 0, .int 0, .int 0, .int 0, .int 0, .int 0, .int 0, .int 0, .int 0])), ((u9 0), .inl (cy 2, 8, .inr (.inl (fun _ => 0)))), ((u9 1), .inl (cy 2, 8, .inr (.inl (fun _ => 0)))), ((u9 2), .inl (cy 2, 6, .inr (.inl (fun _ => 0)))), ((u9 3), .inl (cy 1, 14, .inl (fun _ => 0))), ((u9 4), .inl (cy 1, 14, .inl (fun _ => 0))), ((u9 5), .inl (cy 1, 8, .inl (fun _ => 0))), ((u9 6), .inl (cy 1, 6, .inl (fun _ => 0))), ((u9 7), .inl (cy 1, 6, .inl (fun _ => 0))), ((u9 8), .inr (4, [.ref (u9 9), .ref (u9 10), .int 0, .int 0, .int 0, .int 0, .int 0, .int 0, .int 0, .int 0, .int 0])), ((u9 9), .inl (cy 1, 300, .inl (fun _ => 0))), ((u9 10), .inl (cy 1, 31, .inl (fun _ => 0))), (q7, .inr (2, [.ref (u10 0), .ref q8])), ((u10 0), .inl (cy 1, 29, .inl (upd (fun _ => 0) (0 : Int32).toNatClampNeg (-1)))), (q11, .inr (0, [.ref (u12.1 0), .int 0, .int 0, .int 0])), ((u12.1 0), .inl (cy 4, 41, .inr (.inr (.inr (.inr (fun i => if i < 41 then some (u12.2 i) else none)))))), (q13, .inr (8, [.ref q7, .ref (u14 0)])), ((u14 0), .inl (cy 1, 64, .inl (fun _ => 0))), (q15, .inr (6, [.ref q7, .ref q13, .ref (u16 0)])), ((u16 0), .inl (cy 1, 384, .inl (fun _ => 0))), (q17, .inr (1, [.ref q7, .ref (u18 0), .ref (u18 1)])), ((u18 0), .inl (cy 1, 8, .inl (fun _ => 0))), ((u18 1), .inl (cy 1, 8, .inl (fun _ => 0))), (q19, .inr (3, [.ref (u20 0), .ref (u20 1), .ref (u20 2), .ref (u20 3), .ref (u20 4), .int 0, .int 0])), ((u20 0), .inl (cy 1, 30, .inl (fun _ => 0))), ((u20 1), .inl (cy 1, 30, .inl (fun _ => 0))), ((u20 2), .inl (cy 3, 30, .inl (fun _ => 0))), ((u20 3), .inl (cy 1, 30, .inl (fun _ => 0))), ((u20 4), .inl (cy 1, 30, .inl (fun _ => 0)))] ++ ((List.range 41).map (fun i => (u12.2 i, .inl (cy 1, 29, .inl (fun _ => 0)))) : va_W)) s.heap H locs := hO
  refine pFF (k := 7) (ws' := [(h0, .inr (10, [.ref q1, .ref q5, .ref q7, .ref q11, .ref q13, .ref q15, .ref q17, .ref q19, .null, .null, .int 0, .int 0, .ref q3])), (q1, .inr (7, [.ref (u2 0), .int 0, .int 0, .int 0, .int 0, .long 0, .int 0])), ((u2 0), .inl (cy 0, 1600, .inl (fun _ => 0))), (q3, .inr (9, [.ref (u4 0), .ref (u4 1), .ref (u4 2), .ref (u4 3), .ref (u4 4), .ref (u4 5), .ref (u4 6), .ref (u4 7), .ref (u4 8), .int 0, .int 0, .int 0, .int 0, .int 0, .int 0, .int 0, .int 0, .int 0])), ((u4 0), .inl (cy 2, 8, .inr (.inl (fun _ => 0)))), ((u4 1), .inl (cy 2, 8, .inr (.inl (fun _ => 0)))), ((u4 2), .inl (cy 2, 6, .inr (.inl (fun _ => 0)))), ((u4 3), .inl (cy 1, 14, .inl (fun _ => 0))), ((u4 4), .inl (cy 1, 14, .inl (fun _ => 0))), ((u4 5), .inl (cy 1, 8, .inl (fun _ => 0))), ((u4 6), .inl (cy 1, 6, .inl (fun _ => 0))), ((u4 7), .inl (cy 1, 6, .inl (fun _ => 0))), ((u4 8), .inr (4, [.ref (u4 9), .ref (u4 10), .int 0, .int 0, .int 0, .int 0, .int 0, .int 0, .int 0, .int 0, .int 0])), ((u4 9), .inl (cy 1, 300, .inl (fun _ => 0))), ((u4 10), .inl (cy 1, 31, .inl (fun _ => 0))), (q5, .inr (5, [.ref q1, .ref q3, .int 0, .int (-1)])), (q8, .inr (9, [.ref (u9 0), .ref (u9 1), .ref (u9 2), .ref (u9 3), .ref (u9 4), .ref (u9 5), .ref (u9 6), .ref (u9 7), .ref (u9 8), .int 0, .int 0, .int 0, .int 0, .int 0, .int 0, .int 0, .int 0, .int 0])), ((u9 0), .inl (cy 2, 8, .inr (.inl (fun _ => 0)))), ((u9 1), .inl (cy 2, 8, .inr (.inl (fun _ => 0)))), ((u9 2), .inl (cy 2, 6, .inr (.inl (fun _ => 0)))), ((u9 3), .inl (cy 1, 14, .inl (fun _ => 0))), ((u9 4), .inl (cy 1, 14, .inl (fun _ => 0))), ((u9 5), .inl (cy 1, 8, .inl (fun _ => 0))), ((u9 6), .inl (cy 1, 6, .inl (fun _ => 0))), ((u9 7), .inl (cy 1, 6, .inl (fun _ => 0))), ((u9 8), .inr (4, [.ref (u9 9), .ref (u9 10), .int 0, .int 0, .int 0, .int 0, .int 0, .int 0, .int 0, .int 0, .int 0])), ((u9 9), .inl (cy 1, 300, .inl (fun _ => 0))), ((u9 10), .inl (cy 1, 31, .inl (fun _ => 0))), (q7, .inr (2, [.ref (u10 0), .ref q8])), ((u10 0), .inl (cy 1, 29, .inl (upd (fun _ => 0) (0 : Int32).toNatClampNeg (-1)))), (q11, .inr (0, [.ref (u12.1 0), .int 0, .int 0, .int 0])), ((u12.1 0), .inl (cy 4, 41, .inr (.inr (.inr (.inr (fun i => if i < 41 then some (u12.2 i) else none)))))), (q13, .inr (8, [.ref q7, .ref (u14 0)])), ((u14 0), .inl (cy 1, 64, .inl (fun _ => 0))), (q15, .inr (6, [.ref q7, .ref q13, .ref (u16 0)])), ((u16 0), .inl (cy 1, 384, .inl (fun _ => 0))), (q17, .inr (1, [.ref q7, .ref (u18 0), .ref (u18 1)])), ((u18 0), .inl (cy 1, 8, .inl (fun _ => 0))), ((u18 1), .inl (cy 1, 8, .inl (fun _ => 0))), (q19, .inr (3, [.ref (u20 0), .ref (u20 1), .ref (u20 2), .ref (u20 3), .ref (u20 4), .int 0, .int 0])), ((u20 0), .inl (cy 1, 30, .inl (fun _ => 0))), ((u20 1), .inl (cy 1, 30, .inl (fun _ => 0))), ((u20 2), .inl (cy 3, 30, .inl (fun _ => 0))), ((u20 3), .inl (cy 1, 30, .inl (fun _ => 0))), ((u20 4), .inl (cy 1, 30, .inl (fun _ => 0)))] ++ ((List.range 41).map (fun i => (u12.2 i, .inl (cy 1, 29, .inl (fun _ => 0)))) : va_W)) (ty := tyX10 7) (v := .ref q19) C hin hO 0 rfl rfl inFX10 (by decide) wd_475 rfl rfl tyX10 tyX10_ok nmX10 rfl (by decide +kernel) rfl rfl (Nat.le_of_ble_eq_true rfl) rfl dX10_init_131 (fun H locs hO => ?_)
  refine lv_aload_n hx hb dX10_init_134 rfl (lv_at hl 0 rfl) ?_
  refine lv_iconst (v := 3) hx hb dX10_init_135 (by decide) ?_
  refine lv_bipush (v := 29) hx hb dX10_init_136 (by decide) ?_
  refine nRows (N := 3) (K := 29) C hQ hO wd_467 wd_220 (by decide) (by decide) rfl rfl (Nat.le_of_ble_eq_true rfl) (Nat.le_of_ble_eq_true rfl) (Nat.le_of_ble_eq_true rfl) (Nat.le_of_ble_eq_true rfl) dX10_init_138 (fun q21 r22 H hO => ?_)
  have hO : Wo D A ((([(h0, .inr (10, [.ref q1, .ref q5, .ref q7, .ref q11, .ref q13, .ref q15, .ref q17, .ref q19, .null, .null, .int 0, .int 0, .ref q3])), (q1, .inr (7, [.ref (u2 0), .int 0, .int 0, .int 0, .int 0, .long 0, .int 0])), ((u2 0), .inl (cy 0, 1600, .inl (fun _ => 0))), (q3, .inr (9, [.ref (u4 0), .ref (u4 1), .ref (u4 2), .ref (u4 3), .ref (u4 4), .ref (u4 5), .ref (u4 6), .ref (u4 7), .ref (u4 8), .int 0, .int 0, .int 0, .int 0, .int 0, .int 0, .int 0, .int 0, .int 0])), ((u4 0), .inl (cy 2, 8, .inr (.inl (fun _ => 0)))), ((u4 1), .inl (cy 2, 8, .inr (.inl (fun _ => 0)))), ((u4 2), .inl (cy 2, 6, .inr (.inl (fun _ => 0)))), ((u4 3), .inl (cy 1, 14, .inl (fun _ => 0))), ((u4 4), .inl (cy 1, 14, .inl (fun _ => 0))), ((u4 5), .inl (cy 1, 8, .inl (fun _ => 0))), ((u4 6), .inl (cy 1, 6, .inl (fun _ => 0))), ((u4 7), .inl (cy 1, 6, .inl (fun _ => 0))), ((u4 8), .inr (4, [.ref (u4 9), .ref (u4 10), .int 0, .int 0, .int 0, .int 0, .int 0, .int 0, .int 0, .int 0, .int 0])), ((u4 9), .inl (cy 1, 300, .inl (fun _ => 0))), ((u4 10), .inl (cy 1, 31, .inl (fun _ => 0))), (q5, .inr (5, [.ref q1, .ref q3, .int 0, .int (-1)])), (q8, .inr (9, [.ref (u9 0), .ref (u9 1), .ref (u9 2), .ref (u9 3), .ref (u9 4), .ref (u9 5), .ref (u9 6), .ref (u9 7), .ref (u9 8), .int 0, .int 0, .int 0, .int 0, .int 0, .int 0, .int 0, .int 0, .int 0])), ((u9 0), .inl (cy 2, 8, .inr (.inl (fun _ => 0)))), ((u9 1), .inl (cy 2, 8, .inr (.inl (fun _ => 0)))), ((u9 2), .inl (cy 2, 6, .inr (.inl (fun _ => 0)))), ((u9 3), .inl (cy 1, 14, .inl (fun _ => 0))), ((u9 4), .inl (cy 1, 14, .inl (fun _ => 0))), ((u9 5), .inl (cy 1, 8, .inl (fun _ => 0))), ((u9 6), .inl (cy 1, 6, .inl (fun _ => 0))), ((u9 7), .inl (cy 1, 6, .inl (fun _ => 0))), ((u9 8), .inr (4, [.ref (u9 9), .ref (u9 10), .int 0, .int 0, .int 0, .int 0, .int 0, .int 0, .int 0, .int 0, .int 0])), ((u9 9), .inl (cy 1, 300, .inl (fun _ => 0))), ((u9 10), .inl (cy 1, 31, .inl (fun _ => 0))), (q7, .inr (2, [.ref (u10 0), .ref q8])), ((u10 0), .inl (cy 1, 29, .inl (upd (fun _ => 0) (0 : Int32).toNatClampNeg (-1)))), (q11, .inr (0, [.ref (u12.1 0), .int 0, .int 0, .int 0])), ((u12.1 0), .inl (cy 4, 41, .inr (.inr (.inr (.inr (fun i => if i < 41 then some (u12.2 i) else none)))))), (q13, .inr (8, [.ref q7, .ref (u14 0)])), ((u14 0), .inl (cy 1, 64, .inl (fun _ => 0))), (q15, .inr (6, [.ref q7, .ref q13, .ref (u16 0)])), ((u16 0), .inl (cy 1, 384, .inl (fun _ => 0))), (q17, .inr (1, [.ref q7, .ref (u18 0), .ref (u18 1)])), ((u18 0), .inl (cy 1, 8, .inl (fun _ => 0))), ((u18 1), .inl (cy 1, 8, .inl (fun _ => 0))), (q19, .inr (3, [.ref (u20 0), .ref (u20 1), .ref (u20 2), .ref (u20 3), .ref (u20 4), .int 0, .int 0])), ((u20 0), .inl (cy 1, 30, .inl (fun _ => 0))), ((u20 1), .inl (cy 1, 30, .inl (fun _ => 0))), ((u20 2), .inl (cy 3, 30, .inl (fun _ => 0))), ((u20 3), .inl (cy 1, 30, .inl (fun _ => 0))), ((u20 4), .inl (cy 1, 30, .inl (fun _ => 0)))] ++ ((List.range 41).map (fun i => (u12.2 i, .inl (cy 1, 29, .inl (fun _ => 0)))) : va_W)) ++ [(q21, .inl (cy 4, 3, .inr (.inr (.inr (.inr (fun i => if i < 3 then some (r22 i) else none))))))]) ++ ((List.range 3).map (fun i => (r22 i, .inl (cy 1, 29, .inl (fun _ => 0)))) : va_W)) s.heap H locs := hO
  have hO : Wo D A ((([(h0, .inr (10, [.ref q1, .ref q5, .ref q7, .ref q11, .ref q13, .ref q15, .ref q17, .ref q19, .null, .null, .int 0, .int 0, .ref q3])), (q1, .inr (7, [.ref (u2 0), .int 0, .int 0, .int 0, .int 0, .long 0, .int 0])), ((u2 0), .inl (cy 0, 1600, .inl (fun _ => 0))), (q3, .inr (9, [.ref (u4 0), .ref (u4 1), .ref (u4 2), .ref (u4 3), .ref (u4 4), .ref (u4 5), .ref (u4 6), .ref (u4 7), .ref (u4 8), .int 0, .int 0, .int 0, .int 0, .int 0, .int 0, .int 0, .int 0, .int 0])), ((u4 0), .inl (cy 2, 8, .inr (.inl (fun _ => 0)))), ((u4 1), .inl (cy 2, 8, .inr (.inl (fun _ => 0)))), ((u4 2), .inl (cy 2, 6, .inr (.inl (fun _ => 0)))), ((u4 3), .inl (cy 1, 14, .inl (fun _ => 0))), ((u4 4), .inl (cy 1, 14, .inl (fun _ => 0))), ((u4 5), .inl (cy 1, 8, .inl (fun _ => 0))), ((u4 6), .inl (cy 1, 6, .inl (fun _ => 0))), ((u4 7), .inl (cy 1, 6, .inl (fun _ => 0))), ((u4 8), .inr (4, [.ref (u4 9), .ref (u4 10), .int 0, .int 0, .int 0, .int 0, .int 0, .int 0, .int 0, .int 0, .int 0])), ((u4 9), .inl (cy 1, 300, .inl (fun _ => 0))), ((u4 10), .inl (cy 1, 31, .inl (fun _ => 0))), (q5, .inr (5, [.ref q1, .ref q3, .int 0, .int (-1)])), (q8, .inr (9, [.ref (u9 0), .ref (u9 1), .ref (u9 2), .ref (u9 3), .ref (u9 4), .ref (u9 5), .ref (u9 6), .ref (u9 7), .ref (u9 8), .int 0, .int 0, .int 0, .int 0, .int 0, .int 0, .int 0, .int 0, .int 0])), ((u9 0), .inl (cy 2, 8, .inr (.inl (fun _ => 0)))), ((u9 1), .inl (cy 2, 8, .inr (.inl (fun _ => 0)))), ((u9 2), .inl (cy 2, 6, .inr (.inl (fun _ => 0)))), ((u9 3), .inl (cy 1, 14, .inl (fun _ => 0))), ((u9 4), .inl (cy 1, 14, .inl (fun _ => 0))), ((u9 5), .inl (cy 1, 8, .inl (fun _ => 0))), ((u9 6), .inl (cy 1, 6, .inl (fun _ => 0))), ((u9 7), .inl (cy 1, 6, .inl (fun _ => 0))), ((u9 8), .inr (4, [.ref (u9 9), .ref (u9 10), .int 0, .int 0, .int 0, .int 0, .int 0, .int 0, .int 0, .int 0, .int 0])), ((u9 9), .inl (cy 1, 300, .inl (fun _ => 0))), ((u9 10), .inl (cy 1, 31, .inl (fun _ => 0))), (q7, .inr (2, [.ref (u10 0), .ref q8])), ((u10 0), .inl (cy 1, 29, .inl (upd (fun _ => 0) (0 : Int32).toNatClampNeg (-1)))), (q11, .inr (0, [.ref (u12.1 0), .int 0, .int 0, .int 0])), ((u12.1 0), .inl (cy 4, 41, .inr (.inr (.inr (.inr (fun i => if i < 41 then some (u12.2 i) else none)))))), (q13, .inr (8, [.ref q7, .ref (u14 0)])), ((u14 0), .inl (cy 1, 64, .inl (fun _ => 0))), (q15, .inr (6, [.ref q7, .ref q13, .ref (u16 0)])), ((u16 0), .inl (cy 1, 384, .inl (fun _ => 0))), (q17, .inr (1, [.ref q7, .ref (u18 0), .ref (u18 1)])), ((u18 0), .inl (cy 1, 8, .inl (fun _ => 0))), ((u18 1), .inl (cy 1, 8, .inl (fun _ => 0))), (q19, .inr (3, [.ref (u20 0), .ref (u20 1), .ref (u20 2), .ref (u20 3), .ref (u20 4), .int 0, .int 0])), ((u20 0), .inl (cy 1, 30, .inl (fun _ => 0))), ((u20 1), .inl (cy 1, 30, .inl (fun _ => 0))), ((u20 2), .inl (cy 3, 30, .inl (fun _ => 0))), ((u20 3), .inl (cy 1, 30, .inl (fun _ => 0))), ((u20 4), .inl (cy 1, 30, .inl (fun _ => 0)))] ++ [(q21, .inl (cy 4, 3, .inr (.inr (.inr (.inr (fun i => if i < 3 then some (r22 i) else none))))))]) ++ ((List.range 41).map (fun i => (u12.2 i, .inl (cy 1, 29, .inl (fun _ => 0)))) : va_W)) ++ ((List.range 3).map (fun i => (r22 i, .inl (cy 1, 29, .inl (fun _ => 0)))) : va_W)) s.heap H locs := ⟨va_Psw hO.1, va_Dsw hO.2.1, hO.2.2⟩
  have hO : Wo D A ([(h0, .inr (10, [.ref q1, .ref q5, .ref q7, .ref q11, .ref q13, .ref q15, .ref q17, .ref q19, .null, .null, .int 0, .int 0, .ref q3])), (q1, .inr (7, [.ref (u2 0), .int 0, .int 0, .int 0, .int 0, .long 0, .int 0])), ((u2 0), .inl (cy 0, 1600, .inl (fun _ => 0))), (q3, .inr (9, [.ref (u4 0), .ref (u4 1), .ref (u4 2), .ref (u4 3), .ref (u4 4), .ref (u4 5), .ref (u4 6), .ref (u4 7), .ref (u4 8), .int 0, .int 0, .int 0, .int 0, .int 0, .int 0, .int 0, .int 0, .int 0])), ((u4 0), .inl (cy 2, 8, .inr (.inl (fun _ => 0)))), ((u4 1), .inl (cy 2, 8, .inr (.inl (fun _ => 0)))), ((u4 2), .inl (cy 2, 6, .inr (.inl (fun _ => 0)))), ((u4 3), .inl (cy 1, 14, .inl (fun _ => 0))), ((u4 4), .inl (cy 1, 14, .inl (fun _ => 0))), ((u4 5), .inl (cy 1, 8, .inl (fun _ => 0))), ((u4 6), .inl (cy 1, 6, .inl (fun _ => 0))), ((u4 7), .inl (cy 1, 6, .inl (fun _ => 0))), ((u4 8), .inr (4, [.ref (u4 9), .ref (u4 10), .int 0, .int 0, .int 0, .int 0, .int 0, .int 0, .int 0, .int 0, .int 0])), ((u4 9), .inl (cy 1, 300, .inl (fun _ => 0))), ((u4 10), .inl (cy 1, 31, .inl (fun _ => 0))), (q5, .inr (5, [.ref q1, .ref q3, .int 0, .int (-1)])), (q8, .inr (9, [.ref (u9 0), .ref (u9 1), .ref (u9 2), .ref (u9 3), .ref (u9 4), .ref (u9 5), .ref (u9 6), .ref (u9 7), .ref (u9 8), .int 0, .int 0, .int 0, .int 0, .int 0, .int 0, .int 0, .int 0, .int 0])), ((u9 0), .inl (cy 2, 8, .inr (.inl (fun _ => 0)))), ((u9 1), .inl (cy 2, 8, .inr (.inl (fun _ => 0)))), ((u9 2), .inl (cy 2, 6, .inr (.inl (fun _ => 0)))), ((u9 3), .inl (cy 1, 14, .inl (fun _ => 0))), ((u9 4), .inl (cy 1, 14, .inl (fun _ => 0))), ((u9 5), .inl (cy 1, 8, .inl (fun _ => 0))), ((u9 6), .inl (cy 1, 6, .inl (fun _ => 0))), ((u9 7), .inl (cy 1, 6, .inl (fun _ => 0))), ((u9 8), .inr (4, [.ref (u9 9), .ref (u9 10), .int 0, .int 0, .int 0, .int 0, .int 0, .int 0, .int 0, .int 0, .int 0])), ((u9 9), .inl (cy 1, 300, .inl (fun _ => 0))), ((u9 10), .inl (cy 1, 31, .inl (fun _ => 0))), (q7, .inr (2, [.ref (u10 0), .ref q8])), ((u10 0), .inl (cy 1, 29, .inl (upd (fun _ => 0) (0 : Int32).toNatClampNeg (-1)))), (q11, .inr (0, [.ref (u12.1 0), .int 0, .int 0, .int 0])), ((u12.1 0), .inl (cy 4, 41, .inr (.inr (.inr (.inr (fun i => if i < 41 then some (u12.2 i) else none)))))), (q13, .inr (8, [.ref q7, .ref (u14 0)])), ((u14 0), .inl (cy 1, 64, .inl (fun _ => 0))), (q15, .inr (6, [.ref q7, .ref q13, .ref (u16 0)])), ((u16 0), .inl (cy 1, 384, .inl (fun _ => 0))), (q17, .inr (1, [.ref q7, .ref (u18 0), .ref (u18 1)])), ((u18 0), .inl (cy 1, 8, .inl (fun _ => 0))), ((u18 1), .inl (cy 1, 8, .inl (fun _ => 0))), (q19, .inr (3, [.ref (u20 0), .ref (u20 1), .ref (u20 2), .ref (u20 3), .ref (u20 4), .int 0, .int 0])), ((u20 0), .inl (cy 1, 30, .inl (fun _ => 0))), ((u20 1), .inl (cy 1, 30, .inl (fun _ => 0))), ((u20 2), .inl (cy 3, 30, .inl (fun _ => 0))), ((u20 3), .inl (cy 1, 30, .inl (fun _ => 0))), ((u20 4), .inl (cy 1, 30, .inl (fun _ => 0))), (q21, .inl (cy 4, 3, .inr (.inr (.inr (.inr (fun i => if i < 3 then some (r22 i) else none))))))] ++ (((List.range 41).map (fun i => (u12.2 i, .inl (cy 1, 29, .inl (fun _ => 0)))) : va_W) ++ ((List.range 3).map (fun i => (r22 i, .inl (cy 1, 29, .inl (fun _ => 0)))) : va_W))) s.heap H locs := by have h9 := hO; rw [List.append_assoc] at h9; exact h9
  refine pFF (k := 8) (ws' := [(h0, .inr (10, [.ref q1, .ref q5, .ref q7, .ref q11, .ref q13, .ref q15, .ref q17, .ref q19, .ref q21, .null, .int 0, .int 0, .ref q3])), (q1, .inr (7, [.ref (u2 0), .int 0, .int 0, .int 0, .int 0, .long 0, .int 0])), ((u2 0), .inl (cy 0, 1600, .inl (fun _ => 0))), (q3, .inr (9, [.ref (u4 0), .ref (u4 1), .ref (u4 2), .ref (u4 3), .ref (u4 4), .ref (u4 5), .ref (u4 6), .ref (u4 7), .ref (u4 8), .int 0, .int 0, .int 0, .int 0, .int 0, .int 0, .int 0, .int 0, .int 0])), ((u4 0), .inl (cy 2, 8, .inr (.inl (fun _ => 0)))), ((u4 1), .inl (cy 2, 8, .inr (.inl (fun _ => 0)))), ((u4 2), .inl (cy 2, 6, .inr (.inl (fun _ => 0)))), ((u4 3), .inl (cy 1, 14, .inl (fun _ => 0))), ((u4 4), .inl (cy 1, 14, .inl (fun _ => 0))), ((u4 5), .inl (cy 1, 8, .inl (fun _ => 0))), ((u4 6), .inl (cy 1, 6, .inl (fun _ => 0))), ((u4 7), .inl (cy 1, 6, .inl (fun _ => 0))), ((u4 8), .inr (4, [.ref (u4 9), .ref (u4 10), .int 0, .int 0, .int 0, .int 0, .int 0, .int 0, .int 0, .int 0, .int 0])), ((u4 9), .inl (cy 1, 300, .inl (fun _ => 0))), ((u4 10), .inl (cy 1, 31, .inl (fun _ => 0))), (q5, .inr (5, [.ref q1, .ref q3, .int 0, .int (-1)])), (q8, .inr (9, [.ref (u9 0), .ref (u9 1), .ref (u9 2), .ref (u9 3), .ref (u9 4), .ref (u9 5), .ref (u9 6), .ref (u9 7), .ref (u9 8), .int 0, .int 0, .int 0, .int 0, .int 0, .int 0, .int 0, .int 0, .int 0])), ((u9 0), .inl (cy 2, 8, .inr (.inl (fun _ => 0)))), ((u9 1), .inl (cy 2, 8, .inr (.inl (fun _ => 0)))), ((u9 2), .inl (cy 2, 6, .inr (.inl (fun _ => 0)))), ((u9 3), .inl (cy 1, 14, .inl (fun _ => 0))), ((u9 4), .inl (cy 1, 14, .inl (fun _ => 0))), ((u9 5), .inl (cy 1, 8, .inl (fun _ => 0))), ((u9 6), .inl (cy 1, 6, .inl (fun _ => 0))), ((u9 7), .inl (cy 1, 6, .inl (fun _ => 0))), ((u9 8), .inr (4, [.ref (u9 9), .ref (u9 10), .int 0, .int 0, .int 0, .int 0, .int 0, .int 0, .int 0, .int 0, .int 0])), ((u9 9), .inl (cy 1, 300, .inl (fun _ => 0))), ((u9 10), .inl (cy 1, 31, .inl (fun _ => 0))), (q7, .inr (2, [.ref (u10 0), .ref q8])), ((u10 0), .inl (cy 1, 29, .inl (upd (fun _ => 0) (0 : Int32).toNatClampNeg (-1)))), (q11, .inr (0, [.ref (u12.1 0), .int 0, .int 0, .int 0])), ((u12.1 0), .inl (cy 4, 41, .inr (.inr (.inr (.inr (fun i => if i < 41 then some (u12.2 i) else none)))))), (q13, .inr (8, [.ref q7, .ref (u14 0)])), ((u14 0), .inl (cy 1, 64, .inl (fun _ => 0))), (q15, .inr (6, [.ref q7, .ref q13, .ref (u16 0)])), ((u16 0), .inl (cy 1, 384, .inl (fun _ => 0))), (q17, .inr (1, [.ref q7, .ref (u18 0), .ref (u18 1)])), ((u18 0), .inl (cy 1, 8, .inl (fun _ => 0))), ((u18 1), .inl (cy 1, 8, .inl (fun _ => 0))), (q19, .inr (3, [.ref (u20 0), .ref (u20 1), .ref (u20 2), .ref (u20 3), .ref (u20 4), .int 0, .int 0])), ((u20 0), .inl (cy 1, 30, .inl (fun _ => 0))), ((u20 1), .inl (cy 1, 30, .inl (fun _ => 0))), ((u20 2), .inl (cy 3, 30, .inl (fun _ => 0))), ((u20 3), .inl (cy 1, 30, .inl (fun _ => 0))), ((u20 4), .inl (cy 1, 30, .inl (fun _ => 0))), (q21, .inl (cy 4, 3, .inr (.inr (.inr (.inr (fun i => if i < 3 then some (r22 i) else none))))))] ++ (((List.range 41).map (fun i => (u12.2 i, .inl (cy 1, 29, .inl (fun _ => 0)))) : va_W) ++ ((List.range 3).map (fun i => (r22 i, .inl (cy 1, 29, .inl (fun _ => 0)))) : va_W))) (ty := tyX10 8) (v := .ref q21) C hin hO 0 rfl rfl inFX10 (by decide) wd_476 rfl rfl tyX10 tyX10_ok nmX10 rfl (by decide +kernel) rfl rfl (Nat.le_of_ble_eq_true rfl) rfl dX10_init_142 (fun H locs hO => ?_)
  refine lv_aload_n hx hb dX10_init_145 rfl (lv_at hl 0 rfl) ?_
  refine lv_bipush (v := 8) hx hb dX10_init_146 (by decide) ?_
  refine nAI (N := 8) C hO wd_220 (by decide) rfl (Nat.le_of_ble_eq_true rfl) (Nat.le_of_ble_eq_true rfl) (Nat.le_of_ble_eq_true rfl) dX10_init_148 (fun q23 H hO => ?_)
  have hO := hO.swap
  have hO : Wo D A ([(h0, .inr (10, [.ref q1, .ref q5, .ref q7, .ref q11, .ref q13, .ref q15, .ref q17, .ref q19, .ref q21, .null, .int 0, .int 0, .ref q3])), (q1, .inr (7, [.ref (u2 0), .int 0, .int 0, .int 0, .int 0, .long 0, .int 0])), ((u2 0), .inl (cy 0, 1600, .inl (fun _ => 0))), (q3, .inr (9, [.ref (u4 0), .ref (u4 1), .ref (u4 2), .ref (u4 3), .ref (u4 4), .ref (u4 5), .ref (u4 6), .ref (u4 7), .ref (u4 8), .int 0, .int 0, .int 0, .int 0, .int 0, .int 0, .int 0, .int 0, .int 0])), ((u4 0), .inl (cy 2, 8, .inr (.inl (fun _ => 0)))), ((u4 1), .inl (cy 2, 8, .inr (.inl (fun _ => 0)))), ((u4 2), .inl (cy 2, 6, .inr (.inl (fun _ => 0)))), ((u4 3), .inl (cy 1, 14, .inl (fun _ => 0))), ((u4 4), .inl (cy 1, 14, .inl (fun _ => 0))), ((u4 5), .inl (cy 1, 8, .inl (fun _ => 0))), ((u4 6), .inl (cy 1, 6, .inl (fun _ => 0))), ((u4 7), .inl (cy 1, 6, .inl (fun _ => 0))), ((u4 8), .inr (4, [.ref (u4 9), .ref (u4 10), .int 0, .int 0, .int 0, .int 0, .int 0, .int 0, .int 0, .int 0, .int 0])), ((u4 9), .inl (cy 1, 300, .inl (fun _ => 0))), ((u4 10), .inl (cy 1, 31, .inl (fun _ => 0))), (q5, .inr (5, [.ref q1, .ref q3, .int 0, .int (-1)])), (q8, .inr (9, [.ref (u9 0), .ref (u9 1), .ref (u9 2), .ref (u9 3), .ref (u9 4), .ref (u9 5), .ref (u9 6), .ref (u9 7), .ref (u9 8), .int 0, .int 0, .int 0, .int 0, .int 0, .int 0, .int 0, .int 0, .int 0])), ((u9 0), .inl (cy 2, 8, .inr (.inl (fun _ => 0)))), ((u9 1), .inl (cy 2, 8, .inr (.inl (fun _ => 0)))), ((u9 2), .inl (cy 2, 6, .inr (.inl (fun _ => 0)))), ((u9 3), .inl (cy 1, 14, .inl (fun _ => 0))), ((u9 4), .inl (cy 1, 14, .inl (fun _ => 0))), ((u9 5), .inl (cy 1, 8, .inl (fun _ => 0))), ((u9 6), .inl (cy 1, 6, .inl (fun _ => 0))), ((u9 7), .inl (cy 1, 6, .inl (fun _ => 0))), ((u9 8), .inr (4, [.ref (u9 9), .ref (u9 10), .int 0, .int 0, .int 0, .int 0, .int 0, .int 0, .int 0, .int 0, .int 0])), ((u9 9), .inl (cy 1, 300, .inl (fun _ => 0))), ((u9 10), .inl (cy 1, 31, .inl (fun _ => 0))), (q7, .inr (2, [.ref (u10 0), .ref q8])), ((u10 0), .inl (cy 1, 29, .inl (upd (fun _ => 0) (0 : Int32).toNatClampNeg (-1)))), (q11, .inr (0, [.ref (u12.1 0), .int 0, .int 0, .int 0])), ((u12.1 0), .inl (cy 4, 41, .inr (.inr (.inr (.inr (fun i => if i < 41 then some (u12.2 i) else none)))))), (q13, .inr (8, [.ref q7, .ref (u14 0)])), ((u14 0), .inl (cy 1, 64, .inl (fun _ => 0))), (q15, .inr (6, [.ref q7, .ref q13, .ref (u16 0)])), ((u16 0), .inl (cy 1, 384, .inl (fun _ => 0))), (q17, .inr (1, [.ref q7, .ref (u18 0), .ref (u18 1)])), ((u18 0), .inl (cy 1, 8, .inl (fun _ => 0))), ((u18 1), .inl (cy 1, 8, .inl (fun _ => 0))), (q19, .inr (3, [.ref (u20 0), .ref (u20 1), .ref (u20 2), .ref (u20 3), .ref (u20 4), .int 0, .int 0])), ((u20 0), .inl (cy 1, 30, .inl (fun _ => 0))), ((u20 1), .inl (cy 1, 30, .inl (fun _ => 0))), ((u20 2), .inl (cy 3, 30, .inl (fun _ => 0))), ((u20 3), .inl (cy 1, 30, .inl (fun _ => 0))), ((u20 4), .inl (cy 1, 30, .inl (fun _ => 0))), (q21, .inl (cy 4, 3, .inr (.inr (.inr (.inr (fun i => if i < 3 then some (r22 i) else none)))))), (q23, .inl (cy 1, 8, .inl (fun _ => 0)))] ++ (((List.range 41).map (fun i => (u12.2 i, .inl (cy 1, 29, .inl (fun _ => 0)))) : va_W) ++ ((List.range 3).map (fun i => (r22 i, .inl (cy 1, 29, .inl (fun _ => 0)))) : va_W))) s.heap H locs := hO
  refine pFF (k := 9) (ws' := [(h0, .inr (10, [.ref q1, .ref q5, .ref q7, .ref q11, .ref q13, .ref q15, .ref q17, .ref q19, .ref q21, .ref q23, .int 0, .int 0, .ref q3])), (q1, .inr (7, [.ref (u2 0), .int 0, .int 0, .int 0, .int 0, .long 0, .int 0])), ((u2 0), .inl (cy 0, 1600, .inl (fun _ => 0))), (q3, .inr (9, [.ref (u4 0), .ref (u4 1), .ref (u4 2), .ref (u4 3), .ref (u4 4), .ref (u4 5), .ref (u4 6), .ref (u4 7), .ref (u4 8), .int 0, .int 0, .int 0, .int 0, .int 0, .int 0, .int 0, .int 0, .int 0])), ((u4 0), .inl (cy 2, 8, .inr (.inl (fun _ => 0)))), ((u4 1), .inl (cy 2, 8, .inr (.inl (fun _ => 0)))), ((u4 2), .inl (cy 2, 6, .inr (.inl (fun _ => 0)))), ((u4 3), .inl (cy 1, 14, .inl (fun _ => 0))), ((u4 4), .inl (cy 1, 14, .inl (fun _ => 0))), ((u4 5), .inl (cy 1, 8, .inl (fun _ => 0))), ((u4 6), .inl (cy 1, 6, .inl (fun _ => 0))), ((u4 7), .inl (cy 1, 6, .inl (fun _ => 0))), ((u4 8), .inr (4, [.ref (u4 9), .ref (u4 10), .int 0, .int 0, .int 0, .int 0, .int 0, .int 0, .int 0, .int 0, .int 0])), ((u4 9), .inl (cy 1, 300, .inl (fun _ => 0))), ((u4 10), .inl (cy 1, 31, .inl (fun _ => 0))), (q5, .inr (5, [.ref q1, .ref q3, .int 0, .int (-1)])), (q8, .inr (9, [.ref (u9 0), .ref (u9 1), .ref (u9 2), .ref (u9 3), .ref (u9 4), .ref (u9 5), .ref (u9 6), .ref (u9 7), .ref (u9 8), .int 0, .int 0, .int 0, .int 0, .int 0, .int 0, .int 0, .int 0, .int 0])), ((u9 0), .inl (cy 2, 8, .inr (.inl (fun _ => 0)))), ((u9 1), .inl (cy 2, 8, .inr (.inl (fun _ => 0)))), ((u9 2), .inl (cy 2, 6, .inr (.inl (fun _ => 0)))), ((u9 3), .inl (cy 1, 14, .inl (fun _ => 0))), ((u9 4), .inl (cy 1, 14, .inl (fun _ => 0))), ((u9 5), .inl (cy 1, 8, .inl (fun _ => 0))), ((u9 6), .inl (cy 1, 6, .inl (fun _ => 0))), ((u9 7), .inl (cy 1, 6, .inl (fun _ => 0))), ((u9 8), .inr (4, [.ref (u9 9), .ref (u9 10), .int 0, .int 0, .int 0, .int 0, .int 0, .int 0, .int 0, .int 0, .int 0])), ((u9 9), .inl (cy 1, 300, .inl (fun _ => 0))), ((u9 10), .inl (cy 1, 31, .inl (fun _ => 0))), (q7, .inr (2, [.ref (u10 0), .ref q8])), ((u10 0), .inl (cy 1, 29, .inl (upd (fun _ => 0) (0 : Int32).toNatClampNeg (-1)))), (q11, .inr (0, [.ref (u12.1 0), .int 0, .int 0, .int 0])), ((u12.1 0), .inl (cy 4, 41, .inr (.inr (.inr (.inr (fun i => if i < 41 then some (u12.2 i) else none)))))), (q13, .inr (8, [.ref q7, .ref (u14 0)])), ((u14 0), .inl (cy 1, 64, .inl (fun _ => 0))), (q15, .inr (6, [.ref q7, .ref q13, .ref (u16 0)])), ((u16 0), .inl (cy 1, 384, .inl (fun _ => 0))), (q17, .inr (1, [.ref q7, .ref (u18 0), .ref (u18 1)])), ((u18 0), .inl (cy 1, 8, .inl (fun _ => 0))), ((u18 1), .inl (cy 1, 8, .inl (fun _ => 0))), (q19, .inr (3, [.ref (u20 0), .ref (u20 1), .ref (u20 2), .ref (u20 3), .ref (u20 4), .int 0, .int 0])), ((u20 0), .inl (cy 1, 30, .inl (fun _ => 0))), ((u20 1), .inl (cy 1, 30, .inl (fun _ => 0))), ((u20 2), .inl (cy 3, 30, .inl (fun _ => 0))), ((u20 3), .inl (cy 1, 30, .inl (fun _ => 0))), ((u20 4), .inl (cy 1, 30, .inl (fun _ => 0))), (q21, .inl (cy 4, 3, .inr (.inr (.inr (.inr (fun i => if i < 3 then some (r22 i) else none)))))), (q23, .inl (cy 1, 8, .inl (fun _ => 0)))] ++ (((List.range 41).map (fun i => (u12.2 i, .inl (cy 1, 29, .inl (fun _ => 0)))) : va_W) ++ ((List.range 3).map (fun i => (r22 i, .inl (cy 1, 29, .inl (fun _ => 0)))) : va_W))) (ty := tyX10 9) (v := .ref q23) C hin hO 0 rfl rfl inFX10 (by decide) wd_477 rfl rfl tyX10 tyX10_ok nmX10 rfl (by decide +kernel) rfl rfl (Nat.le_of_ble_eq_true rfl) rfl dX10_init_150 (fun H locs hO => ?_)
  have hO : Wo D A ([(h0, .inr (10, [.ref q1, .ref q5, .ref q7, .ref q11, .ref q13, .ref q15, .ref q17, .ref q19, .ref q21, .ref q23, .int 0, .int 0, .ref q3])), (q1, .inr (7, [.ref (u2 0), .int 0, .int 0, .int 0, .int 0, .long 0, .int 0])), ((u2 0), .inl (cy 0, 1600, .inl (fun _ => 0))), (q8, .inr (9, [.ref (u9 0), .ref (u9 1), .ref (u9 2), .ref (u9 3), .ref (u9 4), .ref (u9 5), .ref (u9 6), .ref (u9 7), .ref (u9 8), .int 0, .int 0, .int 0, .int 0, .int 0, .int 0, .int 0, .int 0, .int 0])), ((u9 0), .inl (cy 2, 8, .inr (.inl (fun _ => 0)))), ((u9 1), .inl (cy 2, 8, .inr (.inl (fun _ => 0)))), ((u9 2), .inl (cy 2, 6, .inr (.inl (fun _ => 0)))), ((u9 3), .inl (cy 1, 14, .inl (fun _ => 0))), ((u9 4), .inl (cy 1, 14, .inl (fun _ => 0))), ((u9 5), .inl (cy 1, 8, .inl (fun _ => 0))), ((u9 6), .inl (cy 1, 6, .inl (fun _ => 0))), ((u9 7), .inl (cy 1, 6, .inl (fun _ => 0))), ((u9 8), .inr (4, [.ref (u9 9), .ref (u9 10), .int 0, .int 0, .int 0, .int 0, .int 0, .int 0, .int 0, .int 0, .int 0])), ((u9 9), .inl (cy 1, 300, .inl (fun _ => 0))), ((u9 10), .inl (cy 1, 31, .inl (fun _ => 0))), (q3, .inr (9, [.ref (u4 0), .ref (u4 1), .ref (u4 2), .ref (u4 3), .ref (u4 4), .ref (u4 5), .ref (u4 6), .ref (u4 7), .ref (u4 8), .int 0, .int 0, .int 0, .int 0, .int 0, .int 0, .int 0, .int 0, .int 0])), ((u4 0), .inl (cy 2, 8, .inr (.inl (fun _ => 0)))), ((u4 1), .inl (cy 2, 8, .inr (.inl (fun _ => 0)))), ((u4 2), .inl (cy 2, 6, .inr (.inl (fun _ => 0)))), ((u4 3), .inl (cy 1, 14, .inl (fun _ => 0))), ((u4 4), .inl (cy 1, 14, .inl (fun _ => 0))), ((u4 5), .inl (cy 1, 8, .inl (fun _ => 0))), ((u4 6), .inl (cy 1, 6, .inl (fun _ => 0))), ((u4 7), .inl (cy 1, 6, .inl (fun _ => 0))), ((u4 8), .inr (4, [.ref (u4 9), .ref (u4 10), .int 0, .int 0, .int 0, .int 0, .int 0, .int 0, .int 0, .int 0, .int 0])), ((u4 9), .inl (cy 1, 300, .inl (fun _ => 0))), ((u4 10), .inl (cy 1, 31, .inl (fun _ => 0))), (q5, .inr (5, [.ref q1, .ref q3, .int 0, .int (-1)])), (q7, .inr (2, [.ref (u10 0), .ref q8])), ((u10 0), .inl (cy 1, 29, .inl (upd (fun _ => 0) (0 : Int32).toNatClampNeg (-1)))), (q11, .inr (0, [.ref (u12.1 0), .int 0, .int 0, .int 0])), ((u12.1 0), .inl (cy 4, 41, .inr (.inr (.inr (.inr (fun i => if i < 41 then some (u12.2 i) else none)))))), (q13, .inr (8, [.ref q7, .ref (u14 0)])), ((u14 0), .inl (cy 1, 64, .inl (fun _ => 0))), (q15, .inr (6, [.ref q7, .ref q13, .ref (u16 0)])), ((u16 0), .inl (cy 1, 384, .inl (fun _ => 0))), (q17, .inr (1, [.ref q7, .ref (u18 0), .ref (u18 1)])), ((u18 0), .inl (cy 1, 8, .inl (fun _ => 0))), ((u18 1), .inl (cy 1, 8, .inl (fun _ => 0))), (q19, .inr (3, [.ref (u20 0), .ref (u20 1), .ref (u20 2), .ref (u20 3), .ref (u20 4), .int 0, .int 0])), ((u20 0), .inl (cy 1, 30, .inl (fun _ => 0))), ((u20 1), .inl (cy 1, 30, .inl (fun _ => 0))), ((u20 2), .inl (cy 3, 30, .inl (fun _ => 0))), ((u20 3), .inl (cy 1, 30, .inl (fun _ => 0))), ((u20 4), .inl (cy 1, 30, .inl (fun _ => 0))), (q21, .inl (cy 4, 3, .inr (.inr (.inr (.inr (fun i => if i < 3 then some (r22 i) else none)))))), (q23, .inl (cy 1, 8, .inl (fun _ => 0)))] ++ (((List.range 41).map (fun i => (u12.2 i, .inl (cy 1, 29, .inl (fun _ => 0)))) : va_W) ++ ((List.range 3).map (fun i => (r22 i, .inl (cy 1, 29, .inl (fun _ => 0)))) : va_W))) s.heap H locs := hO.perm [0, 1, 2, 16, 17, 18, 19, 20, 21, 22, 23, 24, 25, 26, 27, 3, 4, 5, 6, 7, 8, 9, 10, 11, 12, 13, 14, 15, 28, 29, 30, 31, 32, 33, 34, 35, 36, 37, 38, 39, 40, 41, 42, 43, 44, 45, 46] (by decide) rfl
  obtain ⟨Lx, hLx⟩ : ∃ z : List Nat, z = [h0, q1, (u2 0), q8, (u9 0), (u9 1), (u9 2), (u9 3), (u9 4), (u9 5), (u9 6), (u9 7), (u9 8), (u9 9), (u9 10), q3, (u4 0), (u4 1), (u4 2), (u4 3), (u4 4), (u4 5), (u4 6), (u4 7), (u4 8), (u4 9), (u4 10), q5, q7, (u10 0), q11, (u12.1 0), q13, (u14 0), q15, (u16 0), q17, (u18 0), (u18 1), q19, (u20 0), (u20 1), (u20 2), (u20 3), (u20 4), q21, q23] := ⟨_, rfl⟩
  have e1 : (fun i : Nat => if i < 41 then some (u12.2 i) else none) = (fun i => if i < 41 then some (aC Lx u12.2 r22 (47 + i)) else none) := by
    funext i
    by_cases h : i < 41
    · rw [if_pos h, if_pos h, aC_1 h]
    · rw [if_neg h, if_neg h]
  have e2 : (fun i : Nat => if i < 3 then some (r22 i) else none) = (fun i => if i < 3 then some (aC Lx u12.2 r22 (88 + i)) else none) := by
    funext i
    by_cases h : i < 3
    · rw [if_pos h, if_pos h, aC_2]
    · rw [if_neg h, if_neg h]
  rw [e1, e2] at hO
  subst hLx
  exact hret (aC [h0, q1, (u2 0), q8, (u9 0), (u9 1), (u9 2), (u9 3), (u9 4), (u9 5), (u9 6), (u9 7), (u9 8), (u9 9), (u9 10), q3, (u4 0), (u4 1), (u4 2), (u4 3), (u4 4), (u4 5), (u4 6), (u4 7), (u4 8), (u4 9), (u4 10), q5, q7, (u10 0), q11, (u12.1 0), q13, (u14 0), q15, (u16 0), q17, (u18 0), (u18 1), q19, (u20 0), (u20 1), (u20 2), (u20 3), (u20 4), q21, q23] u12.2 r22, cu0 (aC [h0, q1, (u2 0), q8, (u9 0), (u9 1), (u9 2), (u9 3), (u9 4), (u9 5), (u9 6), (u9 7), (u9 8), (u9 9), (u9 10), q3, (u4 0), (u4 1), (u4 2), (u4 3), (u4 4), (u4 5), (u4 6), (u4 7), (u4 8), (u4 9), (u4 10), q5, q7, (u10 0), q11, (u12.1 0), q13, (u14 0), q15, (u16 0), q17, (u18 0), (u18 1), q19, (u20 0), (u20 1), (u20 2), (u20 3), (u20 4), q21, q23] u12.2 r22)) _ _ _ _ dX10_init_153 rfl hO
end
