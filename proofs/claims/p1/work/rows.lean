section
-- ===== PART A: goes FIRST, ahead of the names: the tables' words, and 'selects' of the private methods out of them =====
/-- a private method of a class that the tables say can be made, by its rows of tables_1 -/
def lw_okq (q : MethodName × Nat) : Prop := (q.1.cls ≠ "java/lang/invoke/MethodHandle" ∧ q.1.cls ≠ "java/lang/invoke/VarHandle") ∧ Cond.instantiable q.1.cls q.2 ∈ tables_1 ∧ Cond.privateMethod q.1 ∈ tables_1 ∧ Cond.instanceMethod q.1 ∈ tables_1
theorem lw_p0 : lw_okq (⟨"WebCourt$Tape", "scanWord", "()V"⟩, 7) := ⟨⟨by decide +kernel, by decide +kernel⟩, List.mem_of_getElem? (i := 29) (by decide +kernel), List.mem_of_getElem? (i := 442) (by decide +kernel), List.mem_of_getElem? (i := 443) (by decide +kernel)⟩
theorem lw_p1 : lw_okq (⟨"WebCourt$Tape", "wordKind", "()I"⟩, 7) := ⟨⟨by decide +kernel, by decide +kernel⟩, List.mem_of_getElem? (i := 29) (by decide +kernel), List.mem_of_getElem? (i := 448) (by decide +kernel), List.mem_of_getElem? (i := 449) (by decide +kernel)⟩
theorem lw_p2 : lw_okq (⟨"WebCourt$Tape", "scanNumber", "()V"⟩, 7) := ⟨⟨by decide +kernel, by decide +kernel⟩, List.mem_of_getElem? (i := 29) (by decide +kernel), List.mem_of_getElem? (i := 504) (by decide +kernel), List.mem_of_getElem? (i := 505) (by decide +kernel)⟩
theorem lw_p3 : lw_okq (⟨"WebCourt$Reader", "readLine", "()Z"⟩, 4) := ⟨⟨by decide +kernel, by decide +kernel⟩, List.mem_of_getElem? (i := 218) (by decide +kernel), List.mem_of_getElem? (i := 571) (by decide +kernel), List.mem_of_getElem? (i := 572) (by decide +kernel)⟩
theorem lw_p4 : lw_okq (⟨"WebCourt$Reader", "readKnot", "()Z"⟩, 4) := ⟨⟨by decide +kernel, by decide +kernel⟩, List.mem_of_getElem? (i := 218) (by decide +kernel), List.mem_of_getElem? (i := 575) (by decide +kernel), List.mem_of_getElem? (i := 576) (by decide +kernel)⟩
theorem lw_p5 : lw_okq (⟨"WebCourt$Reader", "openSort", "(II)Z"⟩, 4) := ⟨⟨by decide +kernel, by decide +kernel⟩, List.mem_of_getElem? (i := 218) (by decide +kernel), List.mem_of_getElem? (i := 579) (by decide +kernel), List.mem_of_getElem? (i := 580) (by decide +kernel)⟩
theorem lw_p6 : lw_okq (⟨"WebCourt$Reader", "refuse", "(I)Z"⟩, 4) := ⟨⟨by decide +kernel, by decide +kernel⟩, List.mem_of_getElem? (i := 218) (by decide +kernel), List.mem_of_getElem? (i := 583) (by decide +kernel), List.mem_of_getElem? (i := 584) (by decide +kernel)⟩
theorem lw_p7 : lw_okq (⟨"WebCourt$Reader", "newName", "([JI)Z"⟩, 4) := ⟨⟨by decide +kernel, by decide +kernel⟩, List.mem_of_getElem? (i := 218) (by decide +kernel), List.mem_of_getElem? (i := 588) (by decide +kernel), List.mem_of_getElem? (i := 589) (by decide +kernel)⟩
theorem lw_p8 : lw_okq (⟨"WebCourt$Reader", "readThread", "()Z"⟩, 4) := ⟨⟨by decide +kernel, by decide +kernel⟩, List.mem_of_getElem? (i := 218) (by decide +kernel), List.mem_of_getElem? (i := 595) (by decide +kernel), List.mem_of_getElem? (i := 596) (by decide +kernel)⟩
theorem lw_p9 : lw_okq (⟨"WebCourt$Reader", "knownName", "([JI)I"⟩, 4) := ⟨⟨by decide +kernel, by decide +kernel⟩, List.mem_of_getElem? (i := 218) (by decide +kernel), List.mem_of_getElem? (i := 599) (by decide +kernel), List.mem_of_getElem? (i := 600) (by decide +kernel)⟩
theorem lw_p10 : lw_okq (⟨"WebCourt$Reader", "readPlea", "()Z"⟩, 4) := ⟨⟨by decide +kernel, by decide +kernel⟩, List.mem_of_getElem? (i := 218) (by decide +kernel), List.mem_of_getElem? (i := 607) (by decide +kernel), List.mem_of_getElem? (i := 608) (by decide +kernel)⟩
theorem lw_p11 : lw_okq (⟨"WebCourt$Reader", "skip", "(I)Z"⟩, 4) := ⟨⟨by decide +kernel, by decide +kernel⟩, List.mem_of_getElem? (i := 218) (by decide +kernel), List.mem_of_getElem? (i := 611) (by decide +kernel), List.mem_of_getElem? (i := 612) (by decide +kernel)⟩
theorem lw_p12 : lw_okq (⟨"WebCourt$Reader", "numberTo", "(I)I"⟩, 4) := ⟨⟨by decide +kernel, by decide +kernel⟩, List.mem_of_getElem? (i := 218) (by decide +kernel), List.mem_of_getElem? (i := 615) (by decide +kernel), List.mem_of_getElem? (i := 616) (by decide +kernel)⟩
theorem lw_p13 : lw_okq (⟨"WebCourt$Reader", "readCase", "()Z"⟩, 4) := ⟨⟨by decide +kernel, by decide +kernel⟩, List.mem_of_getElem? (i := 218) (by decide +kernel), List.mem_of_getElem? (i := 619) (by decide +kernel), List.mem_of_getElem? (i := 620) (by decide +kernel)⟩
theorem lw_p14 : lw_okq (⟨"WebCourt$Reader", "readPleas", "()I"⟩, 4) := ⟨⟨by decide +kernel, by decide +kernel⟩, List.mem_of_getElem? (i := 218) (by decide +kernel), List.mem_of_getElem? (i := 623) (by decide +kernel), List.mem_of_getElem? (i := 624) (by decide +kernel)⟩
theorem lw_p15 : lw_okq (⟨"WebCourt$Reader", "readBench", "()Z"⟩, 4) := ⟨⟨by decide +kernel, by decide +kernel⟩, List.mem_of_getElem? (i := 218) (by decide +kernel), List.mem_of_getElem? (i := 627) (by decide +kernel), List.mem_of_getElem? (i := 628) (by decide +kernel)⟩
def lw_privs_1 : List (MethodName × Nat) := [(⟨"WebCourt$Tape", "scanWord", "()V"⟩, 7), (⟨"WebCourt$Tape", "wordKind", "()I"⟩, 7), (⟨"WebCourt$Tape", "scanNumber", "()V"⟩, 7), (⟨"WebCourt$Reader", "readLine", "()Z"⟩, 4), (⟨"WebCourt$Reader", "readKnot", "()Z"⟩, 4), (⟨"WebCourt$Reader", "openSort", "(II)Z"⟩, 4), (⟨"WebCourt$Reader", "refuse", "(I)Z"⟩, 4), (⟨"WebCourt$Reader", "newName", "([JI)Z"⟩, 4), (⟨"WebCourt$Reader", "readThread", "()Z"⟩, 4), (⟨"WebCourt$Reader", "knownName", "([JI)I"⟩, 4), (⟨"WebCourt$Reader", "readPlea", "()Z"⟩, 4), (⟨"WebCourt$Reader", "skip", "(I)Z"⟩, 4), (⟨"WebCourt$Reader", "numberTo", "(I)I"⟩, 4), (⟨"WebCourt$Reader", "readCase", "()Z"⟩, 4), (⟨"WebCourt$Reader", "readPleas", "()I"⟩, 4), (⟨"WebCourt$Reader", "readBench", "()Z"⟩, 4)]
theorem lw_r1 : ∀ q ∈ lw_privs_1, lw_okq q := List.forall_mem_cons.mpr ⟨lw_p0, List.forall_mem_cons.mpr ⟨lw_p1, List.forall_mem_cons.mpr ⟨lw_p2, List.forall_mem_cons.mpr ⟨lw_p3, List.forall_mem_cons.mpr ⟨lw_p4, List.forall_mem_cons.mpr ⟨lw_p5, List.forall_mem_cons.mpr ⟨lw_p6, List.forall_mem_cons.mpr ⟨lw_p7, List.forall_mem_cons.mpr ⟨lw_p8, List.forall_mem_cons.mpr ⟨lw_p9, List.forall_mem_cons.mpr ⟨lw_p10, List.forall_mem_cons.mpr ⟨lw_p11, List.forall_mem_cons.mpr ⟨lw_p12, List.forall_mem_cons.mpr ⟨lw_p13, List.forall_mem_cons.mpr ⟨lw_p14, List.forall_mem_cons.mpr ⟨lw_p15, fun _ h => absurd h List.not_mem_nil⟩⟩⟩⟩⟩⟩⟩⟩⟩⟩⟩⟩⟩⟩⟩⟩
theorem lw_p16 : lw_okq (⟨"WebCourt$Reader", "openOnce", "()Z"⟩, 4) := ⟨⟨by decide +kernel, by decide +kernel⟩, List.mem_of_getElem? (i := 218) (by decide +kernel), List.mem_of_getElem? (i := 631) (by decide +kernel), List.mem_of_getElem? (i := 632) (by decide +kernel)⟩
theorem lw_p17 : lw_okq (⟨"WebCourt$Reader", "readFormula", "(I)Z"⟩, 4) := ⟨⟨by decide +kernel, by decide +kernel⟩, List.mem_of_getElem? (i := 218) (by decide +kernel), List.mem_of_getElem? (i := 635) (by decide +kernel), List.mem_of_getElem? (i := 636) (by decide +kernel)⟩
theorem lw_p18 : lw_okq (⟨"WebCourt$Reader", "readBoth", "(I)Z"⟩, 4) := ⟨⟨by decide +kernel, by decide +kernel⟩, List.mem_of_getElem? (i := 218) (by decide +kernel), List.mem_of_getElem? (i := 639) (by decide +kernel), List.mem_of_getElem? (i := 640) (by decide +kernel)⟩
theorem lw_p19 : lw_okq (⟨"WebCourt$Reader", "readOne", "(I)Z"⟩, 4) := ⟨⟨by decide +kernel, by decide +kernel⟩, List.mem_of_getElem? (i := 218) (by decide +kernel), List.mem_of_getElem? (i := 643) (by decide +kernel), List.mem_of_getElem? (i := 644) (by decide +kernel)⟩
theorem lw_p20 : lw_okq (⟨"WebCourt$Reader", "readNot", "(I)Z"⟩, 4) := ⟨⟨by decide +kernel, by decide +kernel⟩, List.mem_of_getElem? (i := 218) (by decide +kernel), List.mem_of_getElem? (i := 647) (by decide +kernel), List.mem_of_getElem? (i := 648) (by decide +kernel)⟩
theorem lw_p21 : lw_okq (⟨"WebCourt$Reader", "readSum", "(I)Z"⟩, 4) := ⟨⟨by decide +kernel, by decide +kernel⟩, List.mem_of_getElem? (i := 218) (by decide +kernel), List.mem_of_getElem? (i := 655) (by decide +kernel), List.mem_of_getElem? (i := 656) (by decide +kernel)⟩
theorem lw_p22 : lw_okq (⟨"WebCourt$Reader", "readProduct", "(I)Z"⟩, 4) := ⟨⟨by decide +kernel, by decide +kernel⟩, List.mem_of_getElem? (i := 218) (by decide +kernel), List.mem_of_getElem? (i := 659) (by decide +kernel), List.mem_of_getElem? (i := 660) (by decide +kernel)⟩
theorem lw_p23 : lw_okq (⟨"WebCourt$Reader", "readUnit", "(I)Z"⟩, 4) := ⟨⟨by decide +kernel, by decide +kernel⟩, List.mem_of_getElem? (i := 218) (by decide +kernel), List.mem_of_getElem? (i := 663) (by decide +kernel), List.mem_of_getElem? (i := 664) (by decide +kernel)⟩
theorem lw_p24 : lw_okq (⟨"WebCourt$Reader", "readInner", "(I)Z"⟩, 4) := ⟨⟨by decide +kernel, by decide +kernel⟩, List.mem_of_getElem? (i := 218) (by decide +kernel), List.mem_of_getElem? (i := 674) (by decide +kernel), List.mem_of_getElem? (i := 675) (by decide +kernel)⟩
theorem lw_p25 : lw_okq (⟨"WebCourt$Reader", "readBack", "()Z"⟩, 4) := ⟨⟨by decide +kernel, by decide +kernel⟩, List.mem_of_getElem? (i := 218) (by decide +kernel), List.mem_of_getElem? (i := 681) (by decide +kernel), List.mem_of_getElem? (i := 682) (by decide +kernel)⟩
theorem lw_p26 : lw_okq (⟨"WebCourt$Reader", "readDraw", "()Z"⟩, 4) := ⟨⟨by decide +kernel, by decide +kernel⟩, List.mem_of_getElem? (i := 218) (by decide +kernel), List.mem_of_getElem? (i := 685) (by decide +kernel), List.mem_of_getElem? (i := 686) (by decide +kernel)⟩
theorem lw_p27 : lw_okq (⟨"WebCourt$Law", "push", "(I)V"⟩, 11) := ⟨⟨by decide +kernel, by decide +kernel⟩, List.mem_of_getElem? (i := 69) (by decide +kernel), List.mem_of_getElem? (i := 771) (by decide +kernel), List.mem_of_getElem? (i := 772) (by decide +kernel)⟩
theorem lw_p28 : lw_okq (⟨"WebCourt$Law", "given", "(I)I"⟩, 11) := ⟨⟨by decide +kernel, by decide +kernel⟩, List.mem_of_getElem? (i := 69) (by decide +kernel), List.mem_of_getElem? (i := 776) (by decide +kernel), List.mem_of_getElem? (i := 777) (by decide +kernel)⟩
theorem lw_p29 : lw_okq (⟨"WebCourt$Law", "pop", "()I"⟩, 11) := ⟨⟨by decide +kernel, by decide +kernel⟩, List.mem_of_getElem? (i := 69) (by decide +kernel), List.mem_of_getElem? (i := 780) (by decide +kernel), List.mem_of_getElem? (i := 781) (by decide +kernel)⟩
theorem lw_p30 : lw_okq (⟨"WebCourt$Court", "drawsBack", "()Z"⟩, 2) := ⟨⟨by decide +kernel, by decide +kernel⟩, List.mem_of_getElem? (i := 239) (by decide +kernel), List.mem_of_getElem? (i := 809) (by decide +kernel), List.mem_of_getElem? (i := 810) (by decide +kernel)⟩
theorem lw_p31 : lw_okq (⟨"WebCourt", "turnPlea", "(II)I"⟩, 13) := ⟨⟨by decide +kernel, by decide +kernel⟩, List.mem_of_getElem? (i := 21) (by decide +kernel), List.mem_of_getElem? (i := 841) (by decide +kernel), List.mem_of_getElem? (i := 842) (by decide +kernel)⟩
def lw_privs_2 : List (MethodName × Nat) := [(⟨"WebCourt$Reader", "openOnce", "()Z"⟩, 4), (⟨"WebCourt$Reader", "readFormula", "(I)Z"⟩, 4), (⟨"WebCourt$Reader", "readBoth", "(I)Z"⟩, 4), (⟨"WebCourt$Reader", "readOne", "(I)Z"⟩, 4), (⟨"WebCourt$Reader", "readNot", "(I)Z"⟩, 4), (⟨"WebCourt$Reader", "readSum", "(I)Z"⟩, 4), (⟨"WebCourt$Reader", "readProduct", "(I)Z"⟩, 4), (⟨"WebCourt$Reader", "readUnit", "(I)Z"⟩, 4), (⟨"WebCourt$Reader", "readInner", "(I)Z"⟩, 4), (⟨"WebCourt$Reader", "readBack", "()Z"⟩, 4), (⟨"WebCourt$Reader", "readDraw", "()Z"⟩, 4), (⟨"WebCourt$Law", "push", "(I)V"⟩, 11), (⟨"WebCourt$Law", "given", "(I)I"⟩, 11), (⟨"WebCourt$Law", "pop", "()I"⟩, 11), (⟨"WebCourt$Court", "drawsBack", "()Z"⟩, 2), (⟨"WebCourt", "turnPlea", "(II)I"⟩, 13)]
theorem lw_r2 : ∀ q ∈ lw_privs_2, lw_okq q := List.forall_mem_cons.mpr ⟨lw_p16, List.forall_mem_cons.mpr ⟨lw_p17, List.forall_mem_cons.mpr ⟨lw_p18, List.forall_mem_cons.mpr ⟨lw_p19, List.forall_mem_cons.mpr ⟨lw_p20, List.forall_mem_cons.mpr ⟨lw_p21, List.forall_mem_cons.mpr ⟨lw_p22, List.forall_mem_cons.mpr ⟨lw_p23, List.forall_mem_cons.mpr ⟨lw_p24, List.forall_mem_cons.mpr ⟨lw_p25, List.forall_mem_cons.mpr ⟨lw_p26, List.forall_mem_cons.mpr ⟨lw_p27, List.forall_mem_cons.mpr ⟨lw_p28, List.forall_mem_cons.mpr ⟨lw_p29, List.forall_mem_cons.mpr ⟨lw_p30, List.forall_mem_cons.mpr ⟨lw_p31, fun _ h => absurd h List.not_mem_nil⟩⟩⟩⟩⟩⟩⟩⟩⟩⟩⟩⟩⟩⟩⟩⟩
theorem lw_p32 : lw_okq (⟨"WebCourt", "fewestOf", "(III)I"⟩, 13) := ⟨⟨by decide +kernel, by decide +kernel⟩, List.mem_of_getElem? (i := 21) (by decide +kernel), List.mem_of_getElem? (i := 879) (by decide +kernel), List.mem_of_getElem? (i := 880) (by decide +kernel)⟩
theorem lw_p33 : lw_okq (⟨"WebCourt$Ways", "shortenOver", "(I)V"⟩, 2) := ⟨⟨by decide +kernel, by decide +kernel⟩, List.mem_of_getElem? (i := 283) (by decide +kernel), List.mem_of_getElem? (i := 905) (by decide +kernel), List.mem_of_getElem? (i := 906) (by decide +kernel)⟩
theorem lw_p34 : lw_okq (⟨"WebCourt$Ways", "stepNearer", "(III)I"⟩, 2) := ⟨⟨by decide +kernel, by decide +kernel⟩, List.mem_of_getElem? (i := 283) (by decide +kernel), List.mem_of_getElem? (i := 919) (by decide +kernel), List.mem_of_getElem? (i := 920) (by decide +kernel)⟩
theorem lw_p35 : lw_okq (⟨"WebCourt$Rounds", "hoursFrom", "(II)I"⟩, 3) := ⟨⟨by decide +kernel, by decide +kernel⟩, List.mem_of_getElem? (i := 296) (by decide +kernel), List.mem_of_getElem? (i := 932) (by decide +kernel), List.mem_of_getElem? (i := 933) (by decide +kernel)⟩
theorem lw_p36 : lw_okq (⟨"WebCourt$Rounds", "hoursBy", "(III)I"⟩, 3) := ⟨⟨by decide +kernel, by decide +kernel⟩, List.mem_of_getElem? (i := 296) (by decide +kernel), List.mem_of_getElem? (i := 936) (by decide +kernel), List.mem_of_getElem? (i := 937) (by decide +kernel)⟩
theorem lw_p37 : lw_okq (⟨"WebCourt$Rounds", "firstBest", "(II)I"⟩, 3) := ⟨⟨by decide +kernel, by decide +kernel⟩, List.mem_of_getElem? (i := 296) (by decide +kernel), List.mem_of_getElem? (i := 951) (by decide +kernel), List.mem_of_getElem? (i := 952) (by decide +kernel)⟩
theorem lw_p38 : lw_okq (⟨"WebCourt$Counsel", "outcome", "(I)I"⟩, 3) := ⟨⟨by decide +kernel, by decide +kernel⟩, List.mem_of_getElem? (i := 312) (by decide +kernel), List.mem_of_getElem? (i := 984) (by decide +kernel), List.mem_of_getElem? (i := 985) (by decide +kernel)⟩
theorem lw_p39 : lw_okq (⟨"WebCourt$Counsel", "isBest", "([IIII)Z"⟩, 3) := ⟨⟨by decide +kernel, by decide +kernel⟩, List.mem_of_getElem? (i := 312) (by decide +kernel), List.mem_of_getElem? (i := 1012) (by decide +kernel), List.mem_of_getElem? (i := 1013) (by decide +kernel)⟩
theorem lw_p40 : lw_okq (⟨"WebCourt$Hearsay", "allIsSo", "(LWebCourt$Web;II)Z"⟩, 7) := ⟨⟨by decide +kernel, by decide +kernel⟩, List.mem_of_getElem? (i := 328) (by decide +kernel), List.mem_of_getElem? (i := 1163) (by decide +kernel), List.mem_of_getElem? (i := 1164) (by decide +kernel)⟩
theorem lw_p41 : lw_okq (⟨"WebCourt$Hearsay", "counts", "(II)Z"⟩, 7) := ⟨⟨by decide +kernel, by decide +kernel⟩, List.mem_of_getElem? (i := 328) (by decide +kernel), List.mem_of_getElem? (i := 1175) (by decide +kernel), List.mem_of_getElem? (i := 1176) (by decide +kernel)⟩
theorem lw_p42 : lw_okq (⟨"WebCourt", "aboutRest", "(I)I"⟩, 13) := ⟨⟨by decide +kernel, by decide +kernel⟩, List.mem_of_getElem? (i := 21) (by decide +kernel), List.mem_of_getElem? (i := 1218) (by decide +kernel), List.mem_of_getElem? (i := 1219) (by decide +kernel)⟩
theorem lw_p43 : lw_okq (⟨"WebCourtModel", "clearBank", "()V"⟩, 65) := ⟨⟨by decide +kernel, by decide +kernel⟩, List.mem_of_getElem? (i := 1222) (by decide +kernel), List.mem_of_getElem? (i := 1228) (by decide +kernel), List.mem_of_getElem? (i := 1229) (by decide +kernel)⟩
theorem lw_p44 : lw_okq (⟨"WebCourtModel", "startAnew", "()V"⟩, 65) := ⟨⟨by decide +kernel, by decide +kernel⟩, List.mem_of_getElem? (i := 1222) (by decide +kernel), List.mem_of_getElem? (i := 1232) (by decide +kernel), List.mem_of_getElem? (i := 1233) (by decide +kernel)⟩
theorem lw_p45 : lw_okq (⟨"WebCourtModel", "layTold", "()V"⟩, 65) := ⟨⟨by decide +kernel, by decide +kernel⟩, List.mem_of_getElem? (i := 1222) (by decide +kernel), List.mem_of_getElem? (i := 1236) (by decide +kernel), List.mem_of_getElem? (i := 1237) (by decide +kernel)⟩
theorem lw_p46 : lw_okq (⟨"WebCourtModel", "many", "()I"⟩, 65) := ⟨⟨by decide +kernel, by decide +kernel⟩, List.mem_of_getElem? (i := 1222) (by decide +kernel), List.mem_of_getElem? (i := 1240) (by decide +kernel), List.mem_of_getElem? (i := 1241) (by decide +kernel)⟩
theorem lw_p47 : lw_okq (⟨"WebCourtModel", "spots", "()I"⟩, 65) := ⟨⟨by decide +kernel, by decide +kernel⟩, List.mem_of_getElem? (i := 1222) (by decide +kernel), List.mem_of_getElem? (i := 1244) (by decide +kernel), List.mem_of_getElem? (i := 1245) (by decide +kernel)⟩
def lw_privs_3 : List (MethodName × Nat) := [(⟨"WebCourt", "fewestOf", "(III)I"⟩, 13), (⟨"WebCourt$Ways", "shortenOver", "(I)V"⟩, 2), (⟨"WebCourt$Ways", "stepNearer", "(III)I"⟩, 2), (⟨"WebCourt$Rounds", "hoursFrom", "(II)I"⟩, 3), (⟨"WebCourt$Rounds", "hoursBy", "(III)I"⟩, 3), (⟨"WebCourt$Rounds", "firstBest", "(II)I"⟩, 3), (⟨"WebCourt$Counsel", "outcome", "(I)I"⟩, 3), (⟨"WebCourt$Counsel", "isBest", "([IIII)Z"⟩, 3), (⟨"WebCourt$Hearsay", "allIsSo", "(LWebCourt$Web;II)Z"⟩, 7), (⟨"WebCourt$Hearsay", "counts", "(II)Z"⟩, 7), (⟨"WebCourt", "aboutRest", "(I)I"⟩, 13), (⟨"WebCourtModel", "clearBank", "()V"⟩, 65), (⟨"WebCourtModel", "startAnew", "()V"⟩, 65), (⟨"WebCourtModel", "layTold", "()V"⟩, 65), (⟨"WebCourtModel", "many", "()I"⟩, 65), (⟨"WebCourtModel", "spots", "()I"⟩, 65)]
theorem lw_r3 : ∀ q ∈ lw_privs_3, lw_okq q := List.forall_mem_cons.mpr ⟨lw_p32, List.forall_mem_cons.mpr ⟨lw_p33, List.forall_mem_cons.mpr ⟨lw_p34, List.forall_mem_cons.mpr ⟨lw_p35, List.forall_mem_cons.mpr ⟨lw_p36, List.forall_mem_cons.mpr ⟨lw_p37, List.forall_mem_cons.mpr ⟨lw_p38, List.forall_mem_cons.mpr ⟨lw_p39, List.forall_mem_cons.mpr ⟨lw_p40, List.forall_mem_cons.mpr ⟨lw_p41, List.forall_mem_cons.mpr ⟨lw_p42, List.forall_mem_cons.mpr ⟨lw_p43, List.forall_mem_cons.mpr ⟨lw_p44, List.forall_mem_cons.mpr ⟨lw_p45, List.forall_mem_cons.mpr ⟨lw_p46, List.forall_mem_cons.mpr ⟨lw_p47, fun _ h => absurd h List.not_mem_nil⟩⟩⟩⟩⟩⟩⟩⟩⟩⟩⟩⟩⟩⟩⟩⟩
theorem lw_p48 : lw_okq (⟨"WebCourtModel", "goOn", "()V"⟩, 65) := ⟨⟨by decide +kernel, by decide +kernel⟩, List.mem_of_getElem? (i := 1222) (by decide +kernel), List.mem_of_getElem? (i := 1448) (by decide +kernel), List.mem_of_getElem? (i := 1449) (by decide +kernel)⟩
theorem lw_p49 : lw_okq (⟨"WebCourtModel", "sign", "(I)I"⟩, 65) := ⟨⟨by decide +kernel, by decide +kernel⟩, List.mem_of_getElem? (i := 1222) (by decide +kernel), List.mem_of_getElem? (i := 1452) (by decide +kernel), List.mem_of_getElem? (i := 1453) (by decide +kernel)⟩
theorem lw_p50 : lw_okq (⟨"WebCourtModel", "isGood", "()Z"⟩, 65) := ⟨⟨by decide +kernel, by decide +kernel⟩, List.mem_of_getElem? (i := 1222) (by decide +kernel), List.mem_of_getElem? (i := 1488) (by decide +kernel), List.mem_of_getElem? (i := 1489) (by decide +kernel)⟩
theorem lw_p51 : lw_okq (⟨"WebCourtModel", "readLine", "()V"⟩, 65) := ⟨⟨by decide +kernel, by decide +kernel⟩, List.mem_of_getElem? (i := 1222) (by decide +kernel), List.mem_of_getElem? (i := 1492) (by decide +kernel), List.mem_of_getElem? (i := 1493) (by decide +kernel)⟩
theorem lw_p52 : lw_okq (⟨"WebCourtModel", "isFull", "()Z"⟩, 65) := ⟨⟨by decide +kernel, by decide +kernel⟩, List.mem_of_getElem? (i := 1222) (by decide +kernel), List.mem_of_getElem? (i := 1496) (by decide +kernel), List.mem_of_getElem? (i := 1497) (by decide +kernel)⟩
theorem lw_p53 : lw_okq (⟨"WebCourtModel", "isWord", "(J)Z"⟩, 65) := ⟨⟨by decide +kernel, by decide +kernel⟩, List.mem_of_getElem? (i := 1222) (by decide +kernel), List.mem_of_getElem? (i := 1500) (by decide +kernel), List.mem_of_getElem? (i := 1501) (by decide +kernel)⟩
theorem lw_p54 : lw_okq (⟨"WebCourtModel", "misplaced", "()V"⟩, 65) := ⟨⟨by decide +kernel, by decide +kernel⟩, List.mem_of_getElem? (i := 1222) (by decide +kernel), List.mem_of_getElem? (i := 1507) (by decide +kernel), List.mem_of_getElem? (i := 1508) (by decide +kernel)⟩
theorem lw_p55 : lw_okq (⟨"WebCourtModel", "fails", "(II)V"⟩, 65) := ⟨⟨by decide +kernel, by decide +kernel⟩, List.mem_of_getElem? (i := 1222) (by decide +kernel), List.mem_of_getElem? (i := 1511) (by decide +kernel), List.mem_of_getElem? (i := 1512) (by decide +kernel)⟩
theorem lw_p56 : lw_okq (⟨"WebCourtModel", "knotHere", "()I"⟩, 65) := ⟨⟨by decide +kernel, by decide +kernel⟩, List.mem_of_getElem? (i := 1222) (by decide +kernel), List.mem_of_getElem? (i := 1515) (by decide +kernel), List.mem_of_getElem? (i := 1516) (by decide +kernel)⟩
theorem lw_p57 : lw_okq (⟨"WebCourtModel", "here", "([JII)I"⟩, 65) := ⟨⟨by decide +kernel, by decide +kernel⟩, List.mem_of_getElem? (i := 1222) (by decide +kernel), List.mem_of_getElem? (i := 1519) (by decide +kernel), List.mem_of_getElem? (i := 1520) (by decide +kernel)⟩
theorem lw_p58 : lw_okq (⟨"WebCourtModel", "fresh", "(I)J"⟩, 65) := ⟨⟨by decide +kernel, by decide +kernel⟩, List.mem_of_getElem? (i := 1222) (by decide +kernel), List.mem_of_getElem? (i := 1523) (by decide +kernel), List.mem_of_getElem? (i := 1524) (by decide +kernel)⟩
theorem lw_p59 : lw_okq (⟨"WebCourtModel", "readThread", "()V"⟩, 65) := ⟨⟨by decide +kernel, by decide +kernel⟩, List.mem_of_getElem? (i := 1222) (by decide +kernel), List.mem_of_getElem? (i := 1527) (by decide +kernel), List.mem_of_getElem? (i := 1528) (by decide +kernel)⟩
theorem lw_p60 : lw_okq (⟨"WebCourtModel", "known", "(I)I"⟩, 65) := ⟨⟨by decide +kernel, by decide +kernel⟩, List.mem_of_getElem? (i := 1222) (by decide +kernel), List.mem_of_getElem? (i := 1531) (by decide +kernel), List.mem_of_getElem? (i := 1532) (by decide +kernel)⟩
theorem lw_p61 : lw_okq (⟨"WebCourtModel", "isThread", "(III)Z"⟩, 65) := ⟨⟨by decide +kernel, by decide +kernel⟩, List.mem_of_getElem? (i := 1222) (by decide +kernel), List.mem_of_getElem? (i := 1535) (by decide +kernel), List.mem_of_getElem? (i := 1536) (by decide +kernel)⟩
theorem lw_p62 : lw_okq (⟨"WebCourtModel", "pleaHere", "()I"⟩, 65) := ⟨⟨by decide +kernel, by decide +kernel⟩, List.mem_of_getElem? (i := 1222) (by decide +kernel), List.mem_of_getElem? (i := 1539) (by decide +kernel), List.mem_of_getElem? (i := 1540) (by decide +kernel)⟩
theorem lw_p63 : lw_okq (⟨"WebCourtModel", "must", "(Z)V"⟩, 65) := ⟨⟨by decide +kernel, by decide +kernel⟩, List.mem_of_getElem? (i := 1222) (by decide +kernel), List.mem_of_getElem? (i := 1543) (by decide +kernel), List.mem_of_getElem? (i := 1544) (by decide +kernel)⟩
def lw_privs_4 : List (MethodName × Nat) := [(⟨"WebCourtModel", "goOn", "()V"⟩, 65), (⟨"WebCourtModel", "sign", "(I)I"⟩, 65), (⟨"WebCourtModel", "isGood", "()Z"⟩, 65), (⟨"WebCourtModel", "readLine", "()V"⟩, 65), (⟨"WebCourtModel", "isFull", "()Z"⟩, 65), (⟨"WebCourtModel", "isWord", "(J)Z"⟩, 65), (⟨"WebCourtModel", "misplaced", "()V"⟩, 65), (⟨"WebCourtModel", "fails", "(II)V"⟩, 65), (⟨"WebCourtModel", "knotHere", "()I"⟩, 65), (⟨"WebCourtModel", "here", "([JII)I"⟩, 65), (⟨"WebCourtModel", "fresh", "(I)J"⟩, 65), (⟨"WebCourtModel", "readThread", "()V"⟩, 65), (⟨"WebCourtModel", "known", "(I)I"⟩, 65), (⟨"WebCourtModel", "isThread", "(III)Z"⟩, 65), (⟨"WebCourtModel", "pleaHere", "()I"⟩, 65), (⟨"WebCourtModel", "must", "(Z)V"⟩, 65)]
theorem lw_r4 : ∀ q ∈ lw_privs_4, lw_okq q := List.forall_mem_cons.mpr ⟨lw_p48, List.forall_mem_cons.mpr ⟨lw_p49, List.forall_mem_cons.mpr ⟨lw_p50, List.forall_mem_cons.mpr ⟨lw_p51, List.forall_mem_cons.mpr ⟨lw_p52, List.forall_mem_cons.mpr ⟨lw_p53, List.forall_mem_cons.mpr ⟨lw_p54, List.forall_mem_cons.mpr ⟨lw_p55, List.forall_mem_cons.mpr ⟨lw_p56, List.forall_mem_cons.mpr ⟨lw_p57, List.forall_mem_cons.mpr ⟨lw_p58, List.forall_mem_cons.mpr ⟨lw_p59, List.forall_mem_cons.mpr ⟨lw_p60, List.forall_mem_cons.mpr ⟨lw_p61, List.forall_mem_cons.mpr ⟨lw_p62, List.forall_mem_cons.mpr ⟨lw_p63, fun _ h => absurd h List.not_mem_nil⟩⟩⟩⟩⟩⟩⟩⟩⟩⟩⟩⟩⟩⟩⟩⟩
theorem lw_p64 : lw_okq (⟨"WebCourtModel", "numeral", "(II)I"⟩, 65) := ⟨⟨by decide +kernel, by decide +kernel⟩, List.mem_of_getElem? (i := 1222) (by decide +kernel), List.mem_of_getElem? (i := 1547) (by decide +kernel), List.mem_of_getElem? (i := 1548) (by decide +kernel)⟩
theorem lw_p65 : lw_okq (⟨"WebCourtModel", "readCase", "()V"⟩, 65) := ⟨⟨by decide +kernel, by decide +kernel⟩, List.mem_of_getElem? (i := 1222) (by decide +kernel), List.mem_of_getElem? (i := 1551) (by decide +kernel), List.mem_of_getElem? (i := 1552) (by decide +kernel)⟩
theorem lw_p66 : lw_okq (⟨"WebCourtModel", "readRule", "()V"⟩, 65) := ⟨⟨by decide +kernel, by decide +kernel⟩, List.mem_of_getElem? (i := 1222) (by decide +kernel), List.mem_of_getElem? (i := 1558) (by decide +kernel), List.mem_of_getElem? (i := 1559) (by decide +kernel)⟩
theorem lw_p67 : lw_okq (⟨"WebCourtModel", "e", "()V"⟩, 65) := ⟨⟨by decide +kernel, by decide +kernel⟩, List.mem_of_getElem? (i := 1222) (by decide +kernel), List.mem_of_getElem? (i := 1562) (by decide +kernel), List.mem_of_getElem? (i := 1563) (by decide +kernel)⟩
theorem lw_p68 : lw_okq (⟨"WebCourtModel", "pushE", "(II)V"⟩, 65) := ⟨⟨by decide +kernel, by decide +kernel⟩, List.mem_of_getElem? (i := 1222) (by decide +kernel), List.mem_of_getElem? (i := 1566) (by decide +kernel), List.mem_of_getElem? (i := 1567) (by decide +kernel)⟩
theorem lw_p69 : lw_okq (⟨"WebCourtModel", "unit", "()Z"⟩, 65) := ⟨⟨by decide +kernel, by decide +kernel⟩, List.mem_of_getElem? (i := 1222) (by decide +kernel), List.mem_of_getElem? (i := 1570) (by decide +kernel), List.mem_of_getElem? (i := 1571) (by decide +kernel)⟩
theorem lw_p70 : lw_okq (⟨"WebCourtModel", "isSignHere", "(I)Z"⟩, 65) := ⟨⟨by decide +kernel, by decide +kernel⟩, List.mem_of_getElem? (i := 1222) (by decide +kernel), List.mem_of_getElem? (i := 1574) (by decide +kernel), List.mem_of_getElem? (i := 1575) (by decide +kernel)⟩
theorem lw_p71 : lw_okq (⟨"WebCourtModel", "wordHere", "()I"⟩, 65) := ⟨⟨by decide +kernel, by decide +kernel⟩, List.mem_of_getElem? (i := 1222) (by decide +kernel), List.mem_of_getElem? (i := 1578) (by decide +kernel), List.mem_of_getElem? (i := 1579) (by decide +kernel)⟩
theorem lw_p72 : lw_okq (⟨"WebCourtModel", "emit", "(II)V"⟩, 65) := ⟨⟨by decide +kernel, by decide +kernel⟩, List.mem_of_getElem? (i := 1222) (by decide +kernel), List.mem_of_getElem? (i := 1582) (by decide +kernel), List.mem_of_getElem? (i := 1583) (by decide +kernel)⟩
theorem lw_p73 : lw_okq (⟨"WebCourtModel", "behindUnit", "()Z"⟩, 65) := ⟨⟨by decide +kernel, by decide +kernel⟩, List.mem_of_getElem? (i := 1222) (by decide +kernel), List.mem_of_getElem? (i := 1586) (by decide +kernel), List.mem_of_getElem? (i := 1587) (by decide +kernel)⟩
theorem lw_p74 : lw_okq (⟨"WebCourtModel", "rankHere", "()I"⟩, 65) := ⟨⟨by decide +kernel, by decide +kernel⟩, List.mem_of_getElem? (i := 1222) (by decide +kernel), List.mem_of_getElem? (i := 1590) (by decide +kernel), List.mem_of_getElem? (i := 1591) (by decide +kernel)⟩
theorem lw_p75 : lw_okq (⟨"WebCourtModel", "isCompared", "()Z"⟩, 65) := ⟨⟨by decide +kernel, by decide +kernel⟩, List.mem_of_getElem? (i := 1222) (by decide +kernel), List.mem_of_getElem? (i := 1594) (by decide +kernel), List.mem_of_getElem? (i := 1595) (by decide +kernel)⟩
theorem lw_p76 : lw_okq (⟨"WebCourtModel", "once", "(II)I"⟩, 65) := ⟨⟨by decide +kernel, by decide +kernel⟩, List.mem_of_getElem? (i := 1222) (by decide +kernel), List.mem_of_getElem? (i := 1598) (by decide +kernel), List.mem_of_getElem? (i := 1599) (by decide +kernel)⟩
theorem lw_p77 : lw_okq (⟨"WebCourtModel", "isKnot", "(I)Z"⟩, 65) := ⟨⟨by decide +kernel, by decide +kernel⟩, List.mem_of_getElem? (i := 1222) (by decide +kernel), List.mem_of_getElem? (i := 1610) (by decide +kernel), List.mem_of_getElem? (i := 1611) (by decide +kernel)⟩
theorem lw_p78 : lw_okq (⟨"WebCourtModel", "nextTo", "(IZ)I"⟩, 65) := ⟨⟨by decide +kernel, by decide +kernel⟩, List.mem_of_getElem? (i := 1222) (by decide +kernel), List.mem_of_getElem? (i := 1617) (by decide +kernel), List.mem_of_getElem? (i := 1618) (by decide +kernel)⟩
theorem lw_p79 : lw_okq (⟨"WebCourtModel", "heldAt", "(I)I"⟩, 65) := ⟨⟨by decide +kernel, by decide +kernel⟩, List.mem_of_getElem? (i := 1222) (by decide +kernel), List.mem_of_getElem? (i := 1621) (by decide +kernel), List.mem_of_getElem? (i := 1622) (by decide +kernel)⟩
def lw_privs_5 : List (MethodName × Nat) := [(⟨"WebCourtModel", "numeral", "(II)I"⟩, 65), (⟨"WebCourtModel", "readCase", "()V"⟩, 65), (⟨"WebCourtModel", "readRule", "()V"⟩, 65), (⟨"WebCourtModel", "e", "()V"⟩, 65), (⟨"WebCourtModel", "pushE", "(II)V"⟩, 65), (⟨"WebCourtModel", "unit", "()Z"⟩, 65), (⟨"WebCourtModel", "isSignHere", "(I)Z"⟩, 65), (⟨"WebCourtModel", "wordHere", "()I"⟩, 65), (⟨"WebCourtModel", "emit", "(II)V"⟩, 65), (⟨"WebCourtModel", "behindUnit", "()Z"⟩, 65), (⟨"WebCourtModel", "rankHere", "()I"⟩, 65), (⟨"WebCourtModel", "isCompared", "()Z"⟩, 65), (⟨"WebCourtModel", "once", "(II)I"⟩, 65), (⟨"WebCourtModel", "isKnot", "(I)Z"⟩, 65), (⟨"WebCourtModel", "nextTo", "(IZ)I"⟩, 65), (⟨"WebCourtModel", "heldAt", "(I)I"⟩, 65)]
theorem lw_r5 : ∀ q ∈ lw_privs_5, lw_okq q := List.forall_mem_cons.mpr ⟨lw_p64, List.forall_mem_cons.mpr ⟨lw_p65, List.forall_mem_cons.mpr ⟨lw_p66, List.forall_mem_cons.mpr ⟨lw_p67, List.forall_mem_cons.mpr ⟨lw_p68, List.forall_mem_cons.mpr ⟨lw_p69, List.forall_mem_cons.mpr ⟨lw_p70, List.forall_mem_cons.mpr ⟨lw_p71, List.forall_mem_cons.mpr ⟨lw_p72, List.forall_mem_cons.mpr ⟨lw_p73, List.forall_mem_cons.mpr ⟨lw_p74, List.forall_mem_cons.mpr ⟨lw_p75, List.forall_mem_cons.mpr ⟨lw_p76, List.forall_mem_cons.mpr ⟨lw_p77, List.forall_mem_cons.mpr ⟨lw_p78, List.forall_mem_cons.mpr ⟨lw_p79, fun _ h => absurd h List.not_mem_nil⟩⟩⟩⟩⟩⟩⟩⟩⟩⟩⟩⟩⟩⟩⟩⟩
theorem lw_p80 : lw_okq (⟨"WebCourtModel", "placeOf", "(I)I"⟩, 65) := ⟨⟨by decide +kernel, by decide +kernel⟩, List.mem_of_getElem? (i := 1222) (by decide +kernel), List.mem_of_getElem? (i := 1625) (by decide +kernel), List.mem_of_getElem? (i := 1626) (by decide +kernel)⟩
theorem lw_p81 : lw_okq (⟨"WebCourtModel", "isPlea", "(I)Z"⟩, 65) := ⟨⟨by decide +kernel, by decide +kernel⟩, List.mem_of_getElem? (i := 1222) (by decide +kernel), List.mem_of_getElem? (i := 1633) (by decide +kernel), List.mem_of_getElem? (i := 1634) (by decide +kernel)⟩
theorem lw_p82 : lw_okq (⟨"WebCourtModel", "pleads", "()I"⟩, 65) := ⟨⟨by decide +kernel, by decide +kernel⟩, List.mem_of_getElem? (i := 1222) (by decide +kernel), List.mem_of_getElem? (i := 1637) (by decide +kernel), List.mem_of_getElem? (i := 1638) (by decide +kernel)⟩
theorem lw_p83 : lw_okq (⟨"WebCourtModel", "isCase", "(I)Z"⟩, 65) := ⟨⟨by decide +kernel, by decide +kernel⟩, List.mem_of_getElem? (i := 1222) (by decide +kernel), List.mem_of_getElem? (i := 1645) (by decide +kernel), List.mem_of_getElem? (i := 1646) (by decide +kernel)⟩
theorem lw_p84 : lw_okq (⟨"WebCourtModel", "verdictOf", "(I)I"⟩, 65) := ⟨⟨by decide +kernel, by decide +kernel⟩, List.mem_of_getElem? (i := 1222) (by decide +kernel), List.mem_of_getElem? (i := 1653) (by decide +kernel), List.mem_of_getElem? (i := 1654) (by decide +kernel)⟩
theorem lw_p85 : lw_okq (⟨"WebCourtModel", "verdictBy", "(II)I"⟩, 65) := ⟨⟨by decide +kernel, by decide +kernel⟩, List.mem_of_getElem? (i := 1222) (by decide +kernel), List.mem_of_getElem? (i := 1657) (by decide +kernel), List.mem_of_getElem? (i := 1658) (by decide +kernel)⟩
theorem lw_p86 : lw_okq (⟨"WebCourtModel", "comes", "()I"⟩, 65) := ⟨⟨by decide +kernel, by decide +kernel⟩, List.mem_of_getElem? (i := 1222) (by decide +kernel), List.mem_of_getElem? (i := 1661) (by decide +kernel), List.mem_of_getElem? (i := 1662) (by decide +kernel)⟩
theorem lw_p87 : lw_okq (⟨"WebCourtModel", "asked", "(II)I"⟩, 65) := ⟨⟨by decide +kernel, by decide +kernel⟩, List.mem_of_getElem? (i := 1222) (by decide +kernel), List.mem_of_getElem? (i := 1665) (by decide +kernel), List.mem_of_getElem? (i := 1666) (by decide +kernel)⟩
theorem lw_p88 : lw_okq (⟨"WebCourtModel", "strengthOf", "(I)I"⟩, 65) := ⟨⟨by decide +kernel, by decide +kernel⟩, List.mem_of_getElem? (i := 1222) (by decide +kernel), List.mem_of_getElem? (i := 1669) (by decide +kernel), List.mem_of_getElem? (i := 1670) (by decide +kernel)⟩
theorem lw_p89 : lw_okq (⟨"WebCourtModel", "kinOf", "(I)I"⟩, 65) := ⟨⟨by decide +kernel, by decide +kernel⟩, List.mem_of_getElem? (i := 1222) (by decide +kernel), List.mem_of_getElem? (i := 1673) (by decide +kernel), List.mem_of_getElem? (i := 1674) (by decide +kernel)⟩
theorem lw_p90 : lw_okq (⟨"WebCourtModel", "freeNow", "()I"⟩, 65) := ⟨⟨by decide +kernel, by decide +kernel⟩, List.mem_of_getElem? (i := 1222) (by decide +kernel), List.mem_of_getElem? (i := 1685) (by decide +kernel), List.mem_of_getElem? (i := 1686) (by decide +kernel)⟩
theorem lw_p91 : lw_okq (⟨"WebCourtModel", "isHeld", "(I)Z"⟩, 65) := ⟨⟨by decide +kernel, by decide +kernel⟩, List.mem_of_getElem? (i := 1222) (by decide +kernel), List.mem_of_getElem? (i := 1689) (by decide +kernel), List.mem_of_getElem? (i := 1690) (by decide +kernel)⟩
theorem lw_p92 : lw_okq (⟨"WebCourtModel", "haveIt", "(I)I"⟩, 65) := ⟨⟨by decide +kernel, by decide +kernel⟩, List.mem_of_getElem? (i := 1222) (by decide +kernel), List.mem_of_getElem? (i := 1701) (by decide +kernel), List.mem_of_getElem? (i := 1702) (by decide +kernel)⟩
theorem lw_p93 : lw_okq (⟨"WebCourtModel", "keepAct", "()V"⟩, 65) := ⟨⟨by decide +kernel, by decide +kernel⟩, List.mem_of_getElem? (i := 1222) (by decide +kernel), List.mem_of_getElem? (i := 1709) (by decide +kernel), List.mem_of_getElem? (i := 1710) (by decide +kernel)⟩
theorem lw_p94 : lw_okq (⟨"WebCourtModel", "heldNow", "()I"⟩, 65) := ⟨⟨by decide +kernel, by decide +kernel⟩, List.mem_of_getElem? (i := 1222) (by decide +kernel), List.mem_of_getElem? (i := 1732) (by decide +kernel), List.mem_of_getElem? (i := 1733) (by decide +kernel)⟩
theorem lw_p95 : lw_okq (⟨"WebCourtModel", "swapAll", "()V"⟩, 65) := ⟨⟨by decide +kernel, by decide +kernel⟩, List.mem_of_getElem? (i := 1222) (by decide +kernel), List.mem_of_getElem? (i := 1744) (by decide +kernel), List.mem_of_getElem? (i := 1745) (by decide +kernel)⟩
def lw_privs_6 : List (MethodName × Nat) := [(⟨"WebCourtModel", "placeOf", "(I)I"⟩, 65), (⟨"WebCourtModel", "isPlea", "(I)Z"⟩, 65), (⟨"WebCourtModel", "pleads", "()I"⟩, 65), (⟨"WebCourtModel", "isCase", "(I)Z"⟩, 65), (⟨"WebCourtModel", "verdictOf", "(I)I"⟩, 65), (⟨"WebCourtModel", "verdictBy", "(II)I"⟩, 65), (⟨"WebCourtModel", "comes", "()I"⟩, 65), (⟨"WebCourtModel", "asked", "(II)I"⟩, 65), (⟨"WebCourtModel", "strengthOf", "(I)I"⟩, 65), (⟨"WebCourtModel", "kinOf", "(I)I"⟩, 65), (⟨"WebCourtModel", "freeNow", "()I"⟩, 65), (⟨"WebCourtModel", "isHeld", "(I)Z"⟩, 65), (⟨"WebCourtModel", "haveIt", "(I)I"⟩, 65), (⟨"WebCourtModel", "keepAct", "()V"⟩, 65), (⟨"WebCourtModel", "heldNow", "()I"⟩, 65), (⟨"WebCourtModel", "swapAll", "()V"⟩, 65)]
theorem lw_r6 : ∀ q ∈ lw_privs_6, lw_okq q := List.forall_mem_cons.mpr ⟨lw_p80, List.forall_mem_cons.mpr ⟨lw_p81, List.forall_mem_cons.mpr ⟨lw_p82, List.forall_mem_cons.mpr ⟨lw_p83, List.forall_mem_cons.mpr ⟨lw_p84, List.forall_mem_cons.mpr ⟨lw_p85, List.forall_mem_cons.mpr ⟨lw_p86, List.forall_mem_cons.mpr ⟨lw_p87, List.forall_mem_cons.mpr ⟨lw_p88, List.forall_mem_cons.mpr ⟨lw_p89, List.forall_mem_cons.mpr ⟨lw_p90, List.forall_mem_cons.mpr ⟨lw_p91, List.forall_mem_cons.mpr ⟨lw_p92, List.forall_mem_cons.mpr ⟨lw_p93, List.forall_mem_cons.mpr ⟨lw_p94, List.forall_mem_cons.mpr ⟨lw_p95, fun _ h => absurd h List.not_mem_nil⟩⟩⟩⟩⟩⟩⟩⟩⟩⟩⟩⟩⟩⟩⟩⟩
theorem lw_p96 : lw_okq (⟨"WebCourtModel", "allPleas", "()I"⟩, 65) := ⟨⟨by decide +kernel, by decide +kernel⟩, List.mem_of_getElem? (i := 1222) (by decide +kernel), List.mem_of_getElem? (i := 1760) (by decide +kernel), List.mem_of_getElem? (i := 1761) (by decide +kernel)⟩
theorem lw_p97 : lw_okq (⟨"WebCourtModel", "fewestOf", "(II)I"⟩, 65) := ⟨⟨by decide +kernel, by decide +kernel⟩, List.mem_of_getElem? (i := 1222) (by decide +kernel), List.mem_of_getElem? (i := 1764) (by decide +kernel), List.mem_of_getElem? (i := 1765) (by decide +kernel)⟩
theorem lw_p98 : lw_okq (⟨"WebCourtModel", "toldOf", "(II)I"⟩, 65) := ⟨⟨by decide +kernel, by decide +kernel⟩, List.mem_of_getElem? (i := 1222) (by decide +kernel), List.mem_of_getElem? (i := 1768) (by decide +kernel), List.mem_of_getElem? (i := 1769) (by decide +kernel)⟩
theorem lw_p99 : lw_okq (⟨"WebCourtModel", "freeWith", "(II)I"⟩, 65) := ⟨⟨by decide +kernel, by decide +kernel⟩, List.mem_of_getElem? (i := 1222) (by decide +kernel), List.mem_of_getElem? (i := 1792) (by decide +kernel), List.mem_of_getElem? (i := 1793) (by decide +kernel)⟩
theorem lw_p100 : lw_okq (⟨"WebCourtModel", "layVerdicts", "(II)V"⟩, 65) := ⟨⟨by decide +kernel, by decide +kernel⟩, List.mem_of_getElem? (i := 1222) (by decide +kernel), List.mem_of_getElem? (i := 1816) (by decide +kernel), List.mem_of_getElem? (i := 1817) (by decide +kernel)⟩
theorem lw_p101 : lw_okq (⟨"WebCourtModel", "isRest", "(I)Z"⟩, 65) := ⟨⟨by decide +kernel, by decide +kernel⟩, List.mem_of_getElem? (i := 1222) (by decide +kernel), List.mem_of_getElem? (i := 1820) (by decide +kernel), List.mem_of_getElem? (i := 1821) (by decide +kernel)⟩
theorem lw_p102 : lw_okq (⟨"WebCourtModel", "layFar", "()V"⟩, 65) := ⟨⟨by decide +kernel, by decide +kernel⟩, List.mem_of_getElem? (i := 1222) (by decide +kernel), List.mem_of_getElem? (i := 1828) (by decide +kernel), List.mem_of_getElem? (i := 1829) (by decide +kernel)⟩
theorem lw_p103 : lw_okq (⟨"WebCourtModel", "reached", "()I"⟩, 65) := ⟨⟨by decide +kernel, by decide +kernel⟩, List.mem_of_getElem? (i := 1222) (by decide +kernel), List.mem_of_getElem? (i := 1836) (by decide +kernel), List.mem_of_getElem? (i := 1837) (by decide +kernel)⟩
theorem lw_p104 : lw_okq (⟨"WebCourtModel", "lastHeard", "(II)I"⟩, 65) := ⟨⟨by decide +kernel, by decide +kernel⟩, List.mem_of_getElem? (i := 1222) (by decide +kernel), List.mem_of_getElem? (i := 1851) (by decide +kernel), List.mem_of_getElem? (i := 1852) (by decide +kernel)⟩
theorem lw_p105 : lw_okq (⟨"WebCourtModel", "inOrder", "(III)I"⟩, 65) := ⟨⟨by decide +kernel, by decide +kernel⟩, List.mem_of_getElem? (i := 1222) (by decide +kernel), List.mem_of_getElem? (i := 1855) (by decide +kernel), List.mem_of_getElem? (i := 1856) (by decide +kernel)⟩
theorem lw_p106 : lw_okq (⟨"WebCourtModel", "layThought", "()V"⟩, 65) := ⟨⟨by decide +kernel, by decide +kernel⟩, List.mem_of_getElem? (i := 1222) (by decide +kernel), List.mem_of_getElem? (i := 1887) (by decide +kernel), List.mem_of_getElem? (i := 1888) (by decide +kernel)⟩
theorem lw_p107 : lw_okq (⟨"WebCourtModel", "doesFit", "(II)Z"⟩, 65) := ⟨⟨by decide +kernel, by decide +kernel⟩, List.mem_of_getElem? (i := 1222) (by decide +kernel), List.mem_of_getElem? (i := 1891) (by decide +kernel), List.mem_of_getElem? (i := 1892) (by decide +kernel)⟩
theorem lw_p108 : lw_okq (⟨"WebCourtModel", "mostOf", "(II)I"⟩, 65) := ⟨⟨by decide +kernel, by decide +kernel⟩, List.mem_of_getElem? (i := 1222) (by decide +kernel), List.mem_of_getElem? (i := 1904) (by decide +kernel), List.mem_of_getElem? (i := 1905) (by decide +kernel)⟩
def lw_privs_7 : List (MethodName × Nat) := [(⟨"WebCourtModel", "allPleas", "()I"⟩, 65), (⟨"WebCourtModel", "fewestOf", "(II)I"⟩, 65), (⟨"WebCourtModel", "toldOf", "(II)I"⟩, 65), (⟨"WebCourtModel", "freeWith", "(II)I"⟩, 65), (⟨"WebCourtModel", "layVerdicts", "(II)V"⟩, 65), (⟨"WebCourtModel", "isRest", "(I)Z"⟩, 65), (⟨"WebCourtModel", "layFar", "()V"⟩, 65), (⟨"WebCourtModel", "reached", "()I"⟩, 65), (⟨"WebCourtModel", "lastHeard", "(II)I"⟩, 65), (⟨"WebCourtModel", "inOrder", "(III)I"⟩, 65), (⟨"WebCourtModel", "layThought", "()V"⟩, 65), (⟨"WebCourtModel", "doesFit", "(II)Z"⟩, 65), (⟨"WebCourtModel", "mostOf", "(II)I"⟩, 65)]
theorem lw_r7 : ∀ q ∈ lw_privs_7, lw_okq q := List.forall_mem_cons.mpr ⟨lw_p96, List.forall_mem_cons.mpr ⟨lw_p97, List.forall_mem_cons.mpr ⟨lw_p98, List.forall_mem_cons.mpr ⟨lw_p99, List.forall_mem_cons.mpr ⟨lw_p100, List.forall_mem_cons.mpr ⟨lw_p101, List.forall_mem_cons.mpr ⟨lw_p102, List.forall_mem_cons.mpr ⟨lw_p103, List.forall_mem_cons.mpr ⟨lw_p104, List.forall_mem_cons.mpr ⟨lw_p105, List.forall_mem_cons.mpr ⟨lw_p106, List.forall_mem_cons.mpr ⟨lw_p107, List.forall_mem_cons.mpr ⟨lw_p108, fun _ h => absurd h List.not_mem_nil⟩⟩⟩⟩⟩⟩⟩⟩⟩⟩⟩⟩⟩
def lw_privs : List (MethodName × Nat) := lw_privs_1 ++ (lw_privs_2 ++ (lw_privs_3 ++ (lw_privs_4 ++ (lw_privs_5 ++ (lw_privs_6 ++ (lw_privs_7))))))
def lw_tbl : List Cond := k2_sels lw_privs ++ tables_1
theorem lw_privs_ok : ∀ q ∈ lw_privs, lw_okq q := by
  show ∀ q ∈ lw_privs_1 ++ (lw_privs_2 ++ (lw_privs_3 ++ (lw_privs_4 ++ (lw_privs_5 ++ (lw_privs_6 ++ (lw_privs_7)))))), lw_okq q
  exact List.forall_mem_append.mpr ⟨lw_r1, List.forall_mem_append.mpr ⟨lw_r2, List.forall_mem_append.mpr ⟨lw_r3, List.forall_mem_append.mpr ⟨lw_r4, List.forall_mem_append.mpr ⟨lw_r5, List.forall_mem_append.mpr ⟨lw_r6, lw_r7⟩⟩⟩⟩⟩⟩
end
section
def RX0 : String := "WebCourt$Acts"
def TX0 : u_T := fun k => match k with
  | 0 => ("WebCourt$Acts", "rows", "[[I", true)
  | 1 => ("WebCourt$Acts", "first", "I", false)
  | 2 => ("WebCourt$Acts", "done", "I", false)
  | _ => ("WebCourt$Acts", "undone", "I", false)
def tyX0 : Nat → FieldType := fun k => match k with
  | 0 => .array (.array .int)
  | 1 => .int
  | 2 => .int
  | _ => .int
abbrev wsX00 : List Cond := u_ws RX0 TX0 4
theorem nmX0 : ∀ a, a < 4 → ∀ b, b < 4 → a ≠ b → (TX0 a).2.1 ≠ (TX0 b).2.1 := by decide +kernel
theorem tyX0_ok : ∀ k, k < 4 → parseFieldDescriptor (TX0 k).2.2.1 = some (tyX0 k) := by decide +kernel
abbrev cX0_init : ByteArray := prog_2_method_1_code
def yX0_init : MethodName := ⟨RX0, "<init>", "()V"⟩
abbrev cX0_clear : ByteArray := prog_2_method_2_code
def yX0_clear : MethodName := ⟨RX0, "clear", "()V"⟩
abbrev cX0_keep : ByteArray := prog_2_method_3_code
def yX0_keep : MethodName := ⟨RX0, "keep", "([I)V"⟩
abbrev cX0_takeBack : ByteArray := prog_2_method_4_code
def yX0_takeBack : MethodName := ⟨RX0, "takeBack", "([I)Z"⟩
abbrev cX0_doAgain : ByteArray := prog_2_method_5_code
def yX0_doAgain : MethodName := ⟨RX0, "doAgain", "([I)Z"⟩
def RX1 : String := "WebCourt$Counsel"
def TX1 : u_T := fun k => match k with
  | 0 => ("WebCourt$Counsel", "court", "LWebCourt$Court;", true)
  | 1 => ("WebCourt$Counsel", "alone", "[I", true)
  | _ => ("WebCourt$Counsel", "otherAlone", "[I", true)
def tyX1 : Nat → FieldType := fun k => match k with
  | 0 => .object "WebCourt$Court"
  | 1 => .array .int
  | _ => .array .int
abbrev wsX10 : List Cond := u_ws RX1 TX1 3
theorem nmX1 : ∀ a, a < 3 → ∀ b, b < 3 → a ≠ b → (TX1 a).2.1 ≠ (TX1 b).2.1 := by decide +kernel
theorem tyX1_ok : ∀ k, k < 3 → parseFieldDescriptor (TX1 k).2.2.1 = some (tyX1 k) := by decide +kernel
abbrev cX1_init : ByteArray := prog_3_method_1_code
def yX1_init : MethodName := ⟨RX1, "<init>", "(LWebCourt$Court;)V"⟩
abbrev cX1_fewestPleas : ByteArray := prog_3_method_2_code
def yX1_fewestPleas : MethodName := ⟨RX1, "fewestPleas", "(II)I"⟩
abbrev cX1_withoutHope : ByteArray := prog_3_method_3_code
def yX1_withoutHope : MethodName := ⟨RX1, "withoutHope", "()I"⟩
abbrev cX1_hearingsTillFree : ByteArray := prog_3_method_4_code
def yX1_hearingsTillFree : MethodName := ⟨RX1, "hearingsTillFree", "(I)I"⟩
abbrev cX1_contraries : ByteArray := prog_3_method_5_code
def yX1_contraries : MethodName := ⟨RX1, "contraries", "()I"⟩
abbrev cX1_outcome : ByteArray := prog_3_method_6_code
def yX1_outcome : MethodName := ⟨RX1, "outcome", "(I)I"⟩
abbrev cX1_rests : ByteArray := prog_3_method_7_code
def yX1_rests : MethodName := ⟨RX1, "rests", "(II[I)I"⟩
abbrev cX1_isBest : ByteArray := prog_3_method_8_code
def yX1_isBest : MethodName := ⟨RX1, "isBest", "([IIII)Z"⟩
abbrev cX1_freeWithout : ByteArray := prog_3_method_9_code
def yX1_freeWithout : MethodName := ⟨RX1, "freeWithout", "(I)I"⟩
abbrev cX1_pleaToForbid : ByteArray := prog_3_method_10_code
def yX1_pleaToForbid : MethodName := ⟨RX1, "pleaToForbid", "()I"⟩
abbrev cX1_freeByExchange : ByteArray := prog_3_method_11_code
def yX1_freeByExchange : MethodName := ⟨RX1, "freeByExchange", "(II)I"⟩
abbrev cX1_bestExchange : ByteArray := prog_3_method_12_code
def yX1_bestExchange : MethodName := ⟨RX1, "bestExchange", "()I"⟩
abbrev cX1_pleaToTakeUp : ByteArray := prog_3_method_13_code
def yX1_pleaToTakeUp : MethodName := ⟨RX1, "pleaToTakeUp", "(I)I"⟩
abbrev cX1_freeNow : ByteArray := prog_3_method_14_code
def yX1_freeNow : MethodName := ⟨RX1, "freeNow", "()I"⟩
abbrev cX1_commonestPlea : ByteArray := prog_3_method_15_code
def yX1_commonestPlea : MethodName := ⟨RX1, "commonestPlea", "()I"⟩
abbrev cX1_greatestVerdict : ByteArray := prog_3_method_16_code
def yX1_greatestVerdict : MethodName := ⟨RX1, "greatestVerdict", "()I"⟩
abbrev cX1_freeingHour : ByteArray := prog_3_method_17_code
def yX1_freeingHour : MethodName := ⟨RX1, "freeingHour", "(I)I"⟩
abbrev cX1_freeAfter : ByteArray := prog_3_method_18_code
def yX1_freeAfter : MethodName := ⟨RX1, "freeAfter", "(I)I"⟩
def RX2 : String := "WebCourt$Court"
def TX2 : u_T := fun k => match k with
  | 0 => ("WebCourt$Court", "row", "[I", true)
  | _ => ("WebCourt$Court", "web", "LWebCourt$Web;", false)
def tyX2 : Nat → FieldType := fun k => match k with
  | 0 => .array .int
  | _ => .object "WebCourt$Web"
abbrev wsX20 : List Cond := u_ws RX2 TX2 2
theorem nmX2 : ∀ a, a < 2 → ∀ b, b < 2 → a ≠ b → (TX2 a).2.1 ≠ (TX2 b).2.1 := by decide +kernel
theorem tyX2_ok : ∀ k, k < 2 → parseFieldDescriptor (TX2 k).2.2.1 = some (tyX2 k) := by decide +kernel
abbrev cX2_init : ByteArray := prog_4_method_1_code
def yX2_init : MethodName := ⟨RX2, "<init>", "(LWebCourt$Web;)V"⟩
abbrev cX2_open : ByteArray := prog_4_method_2_code
def yX2_open : MethodName := ⟨RX2, "open", "(LWebCourt$Web;)V"⟩
abbrev cX2_hasKnot : ByteArray := prog_4_method_3_code
def yX2_hasKnot : MethodName := ⟨RX2, "hasKnot", "(I)Z"⟩
abbrev cX2_hasPlea : ByteArray := prog_4_method_4_code
def yX2_hasPlea : MethodName := ⟨RX2, "hasPlea", "(I)Z"⟩
abbrev cX2_hasCase : ByteArray := prog_4_method_5_code
def yX2_hasCase : MethodName := ⟨RX2, "hasCase", "(I)Z"⟩
abbrev cX2_isHeld : ByteArray := prog_4_method_6_code
def yX2_isHeld : MethodName := ⟨RX2, "isHeld", "(I)Z"⟩
abbrev cX2_pleads : ByteArray := prog_4_method_7_code
def yX2_pleads : MethodName := ⟨RX2, "pleads", "(II)Z"⟩
abbrev cX2_held : ByteArray := prog_4_method_8_code
def yX2_held : MethodName := ⟨RX2, "held", "()I"⟩
abbrev cX2_heldAt : ByteArray := prog_4_method_9_code
def yX2_heldAt : MethodName := ⟨RX2, "heldAt", "(I)I"⟩
abbrev cX2_nextTo : ByteArray := prog_4_method_10_code
def yX2_nextTo : MethodName := ⟨RX2, "nextTo", "(IZ)I"⟩
abbrev cX2_judgedAs : ByteArray := prog_4_method_11_code
def yX2_judgedAs : MethodName := ⟨RX2, "judgedAs", "(IIIII)I"⟩
abbrev cX2_judged : ByteArray := prog_4_method_12_code
def yX2_judged : MethodName := ⟨RX2, "judged", "(II)I"⟩
abbrev cX2_judgedNow : ByteArray := prog_4_method_13_code
def yX2_judgedNow : MethodName := ⟨RX2, "judgedNow", "(I)I"⟩
abbrev cX2_canGo : ByteArray := prog_4_method_14_code
def yX2_canGo : MethodName := ⟨RX2, "canGo", "(I)Z"⟩
abbrev cX2_go : ByteArray := prog_4_method_15_code
def yX2_go : MethodName := ⟨RX2, "go", "(I)I"⟩
abbrev cX2_drawsBack : ByteArray := prog_4_method_16_code
def yX2_drawsBack : MethodName := ⟨RX2, "drawsBack", "()Z"⟩
abbrev cX2_canBeHeard : ByteArray := prog_4_method_17_code
def yX2_canBeHeard : MethodName := ⟨RX2, "canBeHeard", "(I)Z"⟩
abbrev cX2_decide : ByteArray := prog_4_method_18_code
def yX2_decide : MethodName := ⟨RX2, "decide", "(I)I"⟩
def RX3 : String := "WebCourt$Hearsay"
def TX3 : u_T := fun k => match k with
  | 0 => ("WebCourt$Hearsay", "items", "[I", true)
  | 1 => ("WebCourt$Hearsay", "verdicts", "[I", true)
  | 2 => ("WebCourt$Hearsay", "are", "[Z", true)
  | 3 => ("WebCourt$Hearsay", "told", "[I", true)
  | 4 => ("WebCourt$Hearsay", "untold", "[I", true)
  | 5 => ("WebCourt$Hearsay", "count", "I", false)
  | _ => ("WebCourt$Hearsay", "time", "I", false)
def tyX3 : Nat → FieldType := fun k => match k with
  | 0 => .array .int
  | 1 => .array .int
  | 2 => .array .boolean
  | 3 => .array .int
  | 4 => .array .int
  | 5 => .int
  | _ => .int
abbrev wsX30 : List Cond := u_ws RX3 TX3 7
theorem nmX3 : ∀ a, a < 7 → ∀ b, b < 7 → a ≠ b → (TX3 a).2.1 ≠ (TX3 b).2.1 := by decide +kernel
theorem tyX3_ok : ∀ k, k < 7 → parseFieldDescriptor (TX3 k).2.2.1 = some (tyX3 k) := by decide +kernel
abbrev cX3_init : ByteArray := prog_5_method_1_code
def yX3_init : MethodName := ⟨RX3, "<init>", "()V"⟩
abbrev cX3_clear : ByteArray := prog_5_method_2_code
def yX3_clear : MethodName := ⟨RX3, "clear", "()V"⟩
abbrev cX3_tell : ByteArray := prog_5_method_3_code
def yX3_tell : MethodName := ⟨RX3, "tell", "(IIZ)I"⟩
abbrev cX3_takeBack : ByteArray := prog_5_method_4_code
def yX3_takeBack : MethodName := ⟨RX3, "takeBack", "(I)Z"⟩
abbrev cX3_goOn : ByteArray := prog_5_method_5_code
def yX3_goOn : MethodName := ⟨RX3, "goOn", "(I)I"⟩
abbrev cX3_counts : ByteArray := prog_5_method_6_code
def yX3_counts : MethodName := ⟨RX3, "counts", "(II)Z"⟩
abbrev cX3_fitting : ByteArray := prog_5_method_7_code
def yX3_fitting : MethodName := ⟨RX3, "fitting", "(LWebCourt$Web;I)I"⟩
abbrev cX3_allIsSo : ByteArray := prog_5_method_8_code
def yX3_allIsSo : MethodName := ⟨RX3, "allIsSo", "(LWebCourt$Web;II)Z"⟩
abbrev cX3_leastOf : ByteArray := prog_5_method_9_code
def yX3_leastOf : MethodName := ⟨RX3, "leastOf", "(I)I"⟩
abbrev cX3_greatestOf : ByteArray := prog_5_method_10_code
def yX3_greatestOf : MethodName := ⟨RX3, "greatestOf", "(I)I"⟩
abbrev cX3_mostLeft : ByteArray := prog_5_method_11_code
def yX3_mostLeft : MethodName := ⟨RX3, "mostLeft", "(LWebCourt$Web;II)I"⟩
abbrev cX3_caseToAsk : ByteArray := prog_5_method_12_code
def yX3_caseToAsk : MethodName := ⟨RX3, "caseToAsk", "(LWebCourt$Web;I)I"⟩
def RX4 : String := "WebCourt$Law"
def TX4 : u_T := fun k => match k with
  | 0 => ("WebCourt$Law", "codes", "[I", true)
  | 1 => ("WebCourt$Law", "stack", "[I", true)
  | 2 => ("WebCourt$Law", "length", "I", false)
  | 3 => ("WebCourt$Law", "top", "I", false)
  | 4 => ("WebCourt$Law", "units", "I", false)
  | 5 => ("WebCourt$Law", "pleads", "I", false)
  | 6 => ("WebCourt$Law", "many", "I", false)
  | 7 => ("WebCourt$Law", "before", "I", false)
  | 8 => ("WebCourt$Law", "stays", "I", false)
  | 9 => ("WebCourt$Law", "kin", "I", false)
  | _ => ("WebCourt$Law", "hour", "I", false)
def tyX4 : Nat → FieldType := fun k => match k with
  | 0 => .array .int
  | 1 => .array .int
  | 2 => .int
  | 3 => .int
  | 4 => .int
  | 5 => .int
  | 6 => .int
  | 7 => .int
  | 8 => .int
  | 9 => .int
  | _ => .int
abbrev wsX40 : List Cond := u_ws RX4 TX4 11
theorem nmX4 : ∀ a, a < 11 → ∀ b, b < 11 → a ≠ b → (TX4 a).2.1 ≠ (TX4 b).2.1 := by decide +kernel
theorem tyX4_ok : ∀ k, k < 11 → parseFieldDescriptor (TX4 k).2.2.1 = some (tyX4 k) := by decide +kernel
abbrev cX4_init : ByteArray := prog_6_method_1_code
def yX4_init : MethodName := ⟨RX4, "<init>", "()V"⟩
abbrev cX4_clear : ByteArray := prog_6_method_2_code
def yX4_clear : MethodName := ⟨RX4, "clear", "()V"⟩
abbrev cX4_isFull : ByteArray := prog_6_method_3_code
def yX4_isFull : MethodName := ⟨RX4, "isFull", "()Z"⟩
abbrev cX4_add : ByteArray := prog_6_method_4_code
def yX4_add : MethodName := ⟨RX4, "add", "(I)V"⟩
abbrev cX4_value : ByteArray := prog_6_method_5_code
def yX4_value : MethodName := ⟨RX4, "value", "(IIIIII)I"⟩
abbrev cX4_push : ByteArray := prog_6_method_6_code
def yX4_push : MethodName := ⟨RX4, "push", "(I)V"⟩
abbrev cX4_pop : ByteArray := prog_6_method_7_code
def yX4_pop : MethodName := ⟨RX4, "pop", "()I"⟩
abbrev cX4_isGiven : ByteArray := prog_6_method_8_code
def yX4_isGiven : MethodName := ⟨RX4, "isGiven", "(I)Z"⟩
abbrev cX4_given : ByteArray := prog_6_method_9_code
def yX4_given : MethodName := ⟨RX4, "given", "(I)I"⟩
abbrev cX4_joined : ByteArray := prog_6_method_10_code
def yX4_joined : MethodName := ⟨RX4, "joined", "(III)I"⟩
def RX5 : String := "WebCourt$Reader"
def TX5 : u_T := fun k => match k with
  | 0 => ("WebCourt$Reader", "tape", "LWebCourt$Tape;", true)
  | 1 => ("WebCourt$Reader", "web", "LWebCourt$Web;", false)
  | 2 => ("WebCourt$Reader", "fault", "I", false)
  | _ => ("WebCourt$Reader", "place", "I", false)
def tyX5 : Nat → FieldType := fun k => match k with
  | 0 => .object "WebCourt$Tape"
  | 1 => .object "WebCourt$Web"
  | 2 => .int
  | _ => .int
abbrev wsX50 : List Cond := u_ws RX5 TX5 4
theorem nmX5 : ∀ a, a < 4 → ∀ b, b < 4 → a ≠ b → (TX5 a).2.1 ≠ (TX5 b).2.1 := by decide +kernel
theorem tyX5_ok : ∀ k, k < 4 → parseFieldDescriptor (TX5 k).2.2.1 = some (tyX5 k) := by decide +kernel
abbrev cX5_init : ByteArray := prog_7_method_1_code
def yX5_init : MethodName := ⟨RX5, "<init>", "(LWebCourt$Tape;LWebCourt$Web;)V"⟩
abbrev cX5_read : ByteArray := prog_7_method_2_code
def yX5_read : MethodName := ⟨RX5, "read", "(LWebCourt$Web;)Z"⟩
abbrev cX5_readLine : ByteArray := prog_7_method_3_code
def yX5_readLine : MethodName := ⟨RX5, "readLine", "()Z"⟩
abbrev cX5_refuse : ByteArray := prog_7_method_4_code
def yX5_refuse : MethodName := ⟨RX5, "refuse", "(I)Z"⟩
abbrev cX5_skip : ByteArray := prog_7_method_5_code
def yX5_skip : MethodName := ⟨RX5, "skip", "(I)Z"⟩
abbrev cX5_openSort : ByteArray := prog_7_method_6_code
def yX5_openSort : MethodName := ⟨RX5, "openSort", "(II)Z"⟩
abbrev cX5_openOnce : ByteArray := prog_7_method_7_code
def yX5_openOnce : MethodName := ⟨RX5, "openOnce", "()Z"⟩
abbrev cX5_newName : ByteArray := prog_7_method_8_code
def yX5_newName : MethodName := ⟨RX5, "newName", "([JI)Z"⟩
abbrev cX5_knownName : ByteArray := prog_7_method_9_code
def yX5_knownName : MethodName := ⟨RX5, "knownName", "([JI)I"⟩
abbrev cX5_indexOf : ByteArray := prog_7_method_10_code
def yX5_indexOf : MethodName := ⟨RX5, "indexOf", "([JIJ)I"⟩
abbrev cX5_numberTo : ByteArray := prog_7_method_11_code
def yX5_numberTo : MethodName := ⟨RX5, "numberTo", "(I)I"⟩
abbrev cX5_readKnot : ByteArray := prog_7_method_12_code
def yX5_readKnot : MethodName := ⟨RX5, "readKnot", "()Z"⟩
abbrev cX5_readThread : ByteArray := prog_7_method_13_code
def yX5_readThread : MethodName := ⟨RX5, "readThread", "()Z"⟩
abbrev cX5_readPlea : ByteArray := prog_7_method_14_code
def yX5_readPlea : MethodName := ⟨RX5, "readPlea", "()Z"⟩
abbrev cX5_readCase : ByteArray := prog_7_method_15_code
def yX5_readCase : MethodName := ⟨RX5, "readCase", "()Z"⟩
abbrev cX5_readPleas : ByteArray := prog_7_method_16_code
def yX5_readPleas : MethodName := ⟨RX5, "readPleas", "()I"⟩
abbrev cX5_readBench : ByteArray := prog_7_method_17_code
def yX5_readBench : MethodName := ⟨RX5, "readBench", "()Z"⟩
abbrev cX5_readBack : ByteArray := prog_7_method_18_code
def yX5_readBack : MethodName := ⟨RX5, "readBack", "()Z"⟩
abbrev cX5_readDraw : ByteArray := prog_7_method_19_code
def yX5_readDraw : MethodName := ⟨RX5, "readDraw", "()Z"⟩
abbrev cX5_readFormula : ByteArray := prog_7_method_20_code
def yX5_readFormula : MethodName := ⟨RX5, "readFormula", "(I)Z"⟩
abbrev cX5_readBoth : ByteArray := prog_7_method_21_code
def yX5_readBoth : MethodName := ⟨RX5, "readBoth", "(I)Z"⟩
abbrev cX5_readOne : ByteArray := prog_7_method_22_code
def yX5_readOne : MethodName := ⟨RX5, "readOne", "(I)Z"⟩
abbrev cX5_readNot : ByteArray := prog_7_method_23_code
def yX5_readNot : MethodName := ⟨RX5, "readNot", "(I)Z"⟩
abbrev cX5_readSum : ByteArray := prog_7_method_24_code
def yX5_readSum : MethodName := ⟨RX5, "readSum", "(I)Z"⟩
abbrev cX5_readProduct : ByteArray := prog_7_method_25_code
def yX5_readProduct : MethodName := ⟨RX5, "readProduct", "(I)Z"⟩
abbrev cX5_isTimes : ByteArray := prog_7_method_26_code
def yX5_isTimes : MethodName := ⟨RX5, "isTimes", "(I)Z"⟩
abbrev cX5_readUnit : ByteArray := prog_7_method_27_code
def yX5_readUnit : MethodName := ⟨RX5, "readUnit", "(I)Z"⟩
abbrev cX5_readInner : ByteArray := prog_7_method_28_code
def yX5_readInner : MethodName := ⟨RX5, "readInner", "(I)Z"⟩
def RX6 : String := "WebCourt$Rounds"
def TX6 : u_T := fun k => match k with
  | 0 => ("WebCourt$Rounds", "court", "LWebCourt$Court;", true)
  | 1 => ("WebCourt$Rounds", "ways", "LWebCourt$Ways;", true)
  | _ => ("WebCourt$Rounds", "behind", "[I", true)
def tyX6 : Nat → FieldType := fun k => match k with
  | 0 => .object "WebCourt$Court"
  | 1 => .object "WebCourt$Ways"
  | _ => .array .int
abbrev wsX60 : List Cond := u_ws RX6 TX6 3
theorem nmX6 : ∀ a, a < 3 → ∀ b, b < 3 → a ≠ b → (TX6 a).2.1 ≠ (TX6 b).2.1 := by decide +kernel
theorem tyX6_ok : ∀ k, k < 3 → parseFieldDescriptor (TX6 k).2.2.1 = some (tyX6 k) := by decide +kernel
abbrev cX6_init : ByteArray := prog_8_method_1_code
def yX6_init : MethodName := ⟨RX6, "<init>", "(LWebCourt$Court;LWebCourt$Ways;)V"⟩
abbrev cX6_measure : ByteArray := prog_8_method_2_code
def yX6_measure : MethodName := ⟨RX6, "measure", "()V"⟩
abbrev cX6_fewestHours : ByteArray := prog_8_method_3_code
def yX6_fewestHours : MethodName := ⟨RX6, "fewestHours", "(I)I"⟩
abbrev cX6_hoursFrom : ByteArray := prog_8_method_4_code
def yX6_hoursFrom : MethodName := ⟨RX6, "hoursFrom", "(II)I"⟩
abbrev cX6_hoursBy : ByteArray := prog_8_method_5_code
def yX6_hoursBy : MethodName := ⟨RX6, "hoursBy", "(III)I"⟩
abbrev cX6_order : ByteArray := prog_8_method_6_code
def yX6_order : MethodName := ⟨RX6, "order", "(I[I)I"⟩
abbrev cX6_firstBest : ByteArray := prog_8_method_7_code
def yX6_firstBest : MethodName := ⟨RX6, "firstBest", "(II)I"⟩
abbrev cX6_mostHeard : ByteArray := prog_8_method_8_code
def yX6_mostHeard : MethodName := ⟨RX6, "mostHeard", "(II)I"⟩
def RX7 : String := "WebCourt$Tape"
def TX7 : u_T := fun k => match k with
  | 0 => ("WebCourt$Tape", "bytes", "[B", true)
  | 1 => ("WebCourt$Tape", "length", "I", false)
  | 2 => ("WebCourt$Tape", "next", "I", false)
  | 3 => ("WebCourt$Tape", "start", "I", false)
  | 4 => ("WebCourt$Tape", "kind", "I", false)
  | 5 => ("WebCourt$Tape", "word", "J", false)
  | _ => ("WebCourt$Tape", "number", "I", false)
def tyX7 : Nat → FieldType := fun k => match k with
  | 0 => .array .byte
  | 1 => .int
  | 2 => .int
  | 3 => .int
  | 4 => .int
  | 5 => .long
  | _ => .int
abbrev wsX70 : List Cond := u_ws RX7 TX7 7
theorem nmX7 : ∀ a, a < 7 → ∀ b, b < 7 → a ≠ b → (TX7 a).2.1 ≠ (TX7 b).2.1 := by decide +kernel
theorem tyX7_ok : ∀ k, k < 7 → parseFieldDescriptor (TX7 k).2.2.1 = some (tyX7 k) := by decide +kernel
abbrev cX7_init : ByteArray := prog_9_method_1_code
def yX7_init : MethodName := ⟨RX7, "<init>", "()V"⟩
abbrev cX7_put : ByteArray := prog_9_method_2_code
def yX7_put : MethodName := ⟨RX7, "put", "(I)V"⟩
abbrev cX7_rewind : ByteArray := prog_9_method_3_code
def yX7_rewind : MethodName := ⟨RX7, "rewind", "()V"⟩
abbrev cX7_advance : ByteArray := prog_9_method_4_code
def yX7_advance : MethodName := ⟨RX7, "advance", "()V"⟩
abbrev cX7_scanWord : ByteArray := prog_9_method_5_code
def yX7_scanWord : MethodName := ⟨RX7, "scanWord", "()V"⟩
abbrev cX7_scanNumber : ByteArray := prog_9_method_6_code
def yX7_scanNumber : MethodName := ⟨RX7, "scanNumber", "()V"⟩
abbrev cX7_wordKind : ByteArray := prog_9_method_7_code
def yX7_wordKind : MethodName := ⟨RX7, "wordKind", "()I"⟩
abbrev cX7_isBlank : ByteArray := prog_9_method_8_code
def yX7_isBlank : MethodName := ⟨RX7, "isBlank", "(I)Z"⟩
abbrev cX7_isLetter : ByteArray := prog_9_method_9_code
def yX7_isLetter : MethodName := ⟨RX7, "isLetter", "(I)Z"⟩
abbrev cX7_isDigit : ByteArray := prog_9_method_10_code
def yX7_isDigit : MethodName := ⟨RX7, "isDigit", "(I)Z"⟩
abbrev cX7_isSign : ByteArray := prog_9_method_11_code
def yX7_isSign : MethodName := ⟨RX7, "isSign", "(I)Z"⟩
def RX8 : String := "WebCourt$Ways"
def TX8 : u_T := fun k => match k with
  | 0 => ("WebCourt$Ways", "court", "LWebCourt$Court;", true)
  | _ => ("WebCourt$Ways", "between", "[I", true)
def tyX8 : Nat → FieldType := fun k => match k with
  | 0 => .object "WebCourt$Court"
  | _ => .array .int
abbrev wsX80 : List Cond := u_ws RX8 TX8 2
theorem nmX8 : ∀ a, a < 2 → ∀ b, b < 2 → a ≠ b → (TX8 a).2.1 ≠ (TX8 b).2.1 := by decide +kernel
theorem tyX8_ok : ∀ k, k < 2 → parseFieldDescriptor (TX8 k).2.2.1 = some (tyX8 k) := by decide +kernel
abbrev cX8_init : ByteArray := prog_10_method_1_code
def yX8_init : MethodName := ⟨RX8, "<init>", "(LWebCourt$Court;)V"⟩
abbrev cX8_hours : ByteArray := prog_10_method_2_code
def yX8_hours : MethodName := ⟨RX8, "hours", "(II)I"⟩
abbrev cX8_measure : ByteArray := prog_10_method_3_code
def yX8_measure : MethodName := ⟨RX8, "measure", "()V"⟩
abbrev cX8_shortenOver : ByteArray := prog_10_method_4_code
def yX8_shortenOver : MethodName := ⟨RX8, "shortenOver", "(I)V"⟩
abbrev cX8_walk : ByteArray := prog_10_method_5_code
def yX8_walk : MethodName := ⟨RX8, "walk", "(I[I)I"⟩
abbrev cX8_stepNearer : ByteArray := prog_10_method_6_code
def yX8_stepNearer : MethodName := ⟨RX8, "stepNearer", "(III)I"⟩
abbrev cX8_reached : ByteArray := prog_10_method_7_code
def yX8_reached : MethodName := ⟨RX8, "reached", "(I)I"⟩
abbrev cX8_knotsWithout : ByteArray := prog_10_method_8_code
def yX8_knotsWithout : MethodName := ⟨RX8, "knotsWithout", "(I)I"⟩
abbrev cX8_bridgeLine : ByteArray := prog_10_method_9_code
def yX8_bridgeLine : MethodName := ⟨RX8, "bridgeLine", "()I"⟩
def RX9 : String := "WebCourt$Web"
def TX9 : u_T := fun k => match k with
  | 0 => ("WebCourt$Web", "knotNames", "[J", true)
  | 1 => ("WebCourt$Web", "pleaNames", "[J", true)
  | 2 => ("WebCourt$Web", "caseNames", "[J", true)
  | 3 => ("WebCourt$Web", "lineFrom", "[I", true)
  | 4 => ("WebCourt$Web", "lineTo", "[I", true)
  | 5 => ("WebCourt$Web", "strong", "[I", true)
  | 6 => ("WebCourt$Web", "caseKnots", "[I", true)
  | 7 => ("WebCourt$Web", "casePleas", "[I", true)
  | 8 => ("WebCourt$Web", "law", "LWebCourt$Law;", true)
  | 9 => ("WebCourt$Web", "knots", "I", false)
  | 10 => ("WebCourt$Web", "lines", "I", false)
  | 11 => ("WebCourt$Web", "pleas", "I", false)
  | 12 => ("WebCourt$Web", "cases", "I", false)
  | 13 => ("WebCourt$Web", "sticky", "I", false)
  | 14 => ("WebCourt$Web", "bench", "I", false)
  | 15 => ("WebCourt$Web", "back", "I", false)
  | 16 => ("WebCourt$Web", "draw", "I", false)
  | _ => ("WebCourt$Web", "toldOnce", "I", false)
def tyX9 : Nat → FieldType := fun k => match k with
  | 0 => .array .long
  | 1 => .array .long
  | 2 => .array .long
  | 3 => .array .int
  | 4 => .array .int
  | 5 => .array .int
  | 6 => .array .int
  | 7 => .array .int
  | 8 => .object "WebCourt$Law"
  | 9 => .int
  | 10 => .int
  | 11 => .int
  | 12 => .int
  | 13 => .int
  | 14 => .int
  | 15 => .int
  | 16 => .int
  | _ => .int
abbrev wsX90 : List Cond := u_ws RX9 TX9 18
theorem nmX9 : ∀ a, a < 18 → ∀ b, b < 18 → a ≠ b → (TX9 a).2.1 ≠ (TX9 b).2.1 := by decide +kernel
theorem tyX9_ok : ∀ k, k < 18 → parseFieldDescriptor (TX9 k).2.2.1 = some (tyX9 k) := by decide +kernel
abbrev cX9_init : ByteArray := prog_11_method_1_code
def yX9_init : MethodName := ⟨RX9, "<init>", "()V"⟩
abbrev cX9_clear : ByteArray := prog_11_method_2_code
def yX9_clear : MethodName := ⟨RX9, "clear", "()V"⟩
abbrev cX9_hasLine : ByteArray := prog_11_method_3_code
def yX9_hasLine : MethodName := ⟨RX9, "hasLine", "(II)Z"⟩
abbrev cX9_strengthOf : ByteArray := prog_11_method_4_code
def yX9_strengthOf : MethodName := ⟨RX9, "strengthOf", "(I)I"⟩
abbrev cX9_kinOf : ByteArray := prog_11_method_5_code
def yX9_kinOf : MethodName := ⟨RX9, "kinOf", "(II)I"⟩
abbrev cX9_firstVerdict : ByteArray := prog_11_method_6_code
def yX9_firstVerdict : MethodName := ⟨RX9, "firstVerdict", "(II)I"⟩
def RX10 : String := "WebCourt"
def TX10 : u_T := fun k => match k with
  | 0 => ("WebCourt", "tape", "LWebCourt$Tape;", true)
  | 1 => ("WebCourt", "reader", "LWebCourt$Reader;", true)
  | 2 => ("WebCourt", "court", "LWebCourt$Court;", true)
  | 3 => ("WebCourt", "acts", "LWebCourt$Acts;", true)
  | 4 => ("WebCourt", "ways", "LWebCourt$Ways;", true)
  | 5 => ("WebCourt", "rounds", "LWebCourt$Rounds;", true)
  | 6 => ("WebCourt", "counsel", "LWebCourt$Counsel;", true)
  | 7 => ("WebCourt", "hearsay", "LWebCourt$Hearsay;", true)
  | 8 => ("WebCourt", "boxes", "[[I", true)
  | 9 => ("WebCourt", "lying", "[I", true)
  | 10 => ("WebCourt", "lyingCount", "I", false)
  | 11 => ("WebCourt", "boxesKept", "I", false)
  | _ => ("WebCourt", "draft", "LWebCourt$Web;", false)
def tyX10 : Nat → FieldType := fun k => match k with
  | 0 => .object "WebCourt$Tape"
  | 1 => .object "WebCourt$Reader"
  | 2 => .object "WebCourt$Court"
  | 3 => .object "WebCourt$Acts"
  | 4 => .object "WebCourt$Ways"
  | 5 => .object "WebCourt$Rounds"
  | 6 => .object "WebCourt$Counsel"
  | 7 => .object "WebCourt$Hearsay"
  | 8 => .array (.array .int)
  | 9 => .array .int
  | 10 => .int
  | 11 => .int
  | _ => .object "WebCourt$Web"
abbrev wsX100 : List Cond := u_ws RX10 TX10 13
theorem nmX10 : ∀ a, a < 13 → ∀ b, b < 13 → a ≠ b → (TX10 a).2.1 ≠ (TX10 b).2.1 := by decide +kernel
theorem tyX10_ok : ∀ k, k < 13 → parseFieldDescriptor (TX10 k).2.2.1 = some (tyX10 k) := by decide +kernel
abbrev cX10_init : ByteArray := prog_1_method_1_code
def yX10_init : MethodName := ⟨RX10, "<init>", "()V"⟩
abbrev cX10_feed : ByteArray := prog_1_method_2_code
def yX10_feed : MethodName := ⟨RX10, "feed", "(IIIII)I"⟩
abbrev cX10_end : ByteArray := prog_1_method_3_code
def yX10_end : MethodName := ⟨RX10, "end", "(I)I"⟩
abbrev cX10_web : ByteArray := prog_1_method_4_code
def yX10_web : MethodName := ⟨RX10, "web", "()I"⟩
abbrev cX10_fault : ByteArray := prog_1_method_5_code
def yX10_fault : MethodName := ⟨RX10, "fault", "(I)I"⟩
abbrev cX10_knot : ByteArray := prog_1_method_6_code
def yX10_knot : MethodName := ⟨RX10, "knot", "(II)I"⟩
abbrev cX10_plea : ByteArray := prog_1_method_7_code
def yX10_plea : MethodName := ⟨RX10, "plea", "(I)I"⟩
abbrev cX10_item : ByteArray := prog_1_method_8_code
def yX10_item : MethodName := ⟨RX10, "item", "(II)I"⟩
abbrev cX10_verdict : ByteArray := prog_1_method_9_code
def yX10_verdict : MethodName := ⟨RX10, "verdict", "(I)I"⟩
abbrev cX10_hour : ByteArray := prog_1_method_10_code
def yX10_hour : MethodName := ⟨RX10, "hour", "(I)I"⟩
abbrev cX10_hear : ByteArray := prog_1_method_11_code
def yX10_hear : MethodName := ⟨RX10, "hear", "(I)I"⟩
abbrev cX10_plead : ByteArray := prog_1_method_12_code
def yX10_plead : MethodName := ⟨RX10, "plead", "(II)I"⟩
abbrev cX10_drop : ByteArray := prog_1_method_13_code
def yX10_drop : MethodName := ⟨RX10, "drop", "(II)I"⟩
abbrev cX10_turnPlea : ByteArray := prog_1_method_14_code
def yX10_turnPlea : MethodName := ⟨RX10, "turnPlea", "(II)I"⟩
abbrev cX10_grab : ByteArray := prog_1_method_15_code
def yX10_grab : MethodName := ⟨RX10, "grab", "(I)I"⟩
abbrev cX10_spin : ByteArray := prog_1_method_16_code
def yX10_spin : MethodName := ⟨RX10, "spin", "(I)I"⟩
abbrev cX10_undo : ByteArray := prog_1_method_17_code
def yX10_undo : MethodName := ⟨RX10, "undo", "()Z"⟩
abbrev cX10_redo : ByteArray := prog_1_method_18_code
def yX10_redo : MethodName := ⟨RX10, "redo", "()Z"⟩
abbrev cX10_shortest : ByteArray := prog_1_method_19_code
def yX10_shortest : MethodName := ⟨RX10, "shortest", "(II)I"⟩
abbrev cX10_honest : ByteArray := prog_1_method_20_code
def yX10_honest : MethodName := ⟨RX10, "honest", "(II)I"⟩
abbrev cX10_fewestOf : ByteArray := prog_1_method_21_code
def yX10_fewestOf : MethodName := ⟨RX10, "fewestOf", "(III)I"⟩
abbrev cX10_way : ByteArray := prog_1_method_22_code
def yX10_way : MethodName := ⟨RX10, "way", "(I)I"⟩
abbrev cX10_round : ByteArray := prog_1_method_23_code
def yX10_round : MethodName := ⟨RX10, "round", "()I"⟩
abbrev cX10_term : ByteArray := prog_1_method_24_code
def yX10_term : MethodName := ⟨RX10, "term", "(I)I"⟩
abbrev cX10_leave : ByteArray := prog_1_method_25_code
def yX10_leave : MethodName := ⟨RX10, "leave", "(I)I"⟩
abbrev cX10_contrary : ByteArray := prog_1_method_26_code
def yX10_contrary : MethodName := ⟨RX10, "contrary", "(I)I"⟩
abbrev cX10_memberOf : ByteArray := prog_1_method_27_code
def yX10_memberOf : MethodName := ⟨RX10, "memberOf", "(II)I"⟩
abbrev cX10_hopeless : ByteArray := prog_1_method_28_code
def yX10_hopeless : MethodName := ⟨RX10, "hopeless", "()I"⟩
abbrev cX10_rivals : ByteArray := prog_1_method_29_code
def yX10_rivals : MethodName := ⟨RX10, "rivals", "(II)I"⟩
abbrev cX10_bridge : ByteArray := prog_1_method_30_code
def yX10_bridge : MethodName := ⟨RX10, "bridge", "(I)I"⟩
abbrev cX10_forbid : ByteArray := prog_1_method_31_code
def yX10_forbid : MethodName := ⟨RX10, "forbid", "(I)I"⟩
abbrev cX10_swap : ByteArray := prog_1_method_32_code
def yX10_swap : MethodName := ⟨RX10, "swap", "(I)I"⟩
abbrev cX10_advice : ByteArray := prog_1_method_33_code
def yX10_advice : MethodName := ⟨RX10, "advice", "(II)I"⟩
abbrev cX10_free : ByteArray := prog_1_method_34_code
def yX10_free : MethodName := ⟨RX10, "free", "()I"⟩
abbrev cX10_reach : ByteArray := prog_1_method_35_code
def yX10_reach : MethodName := ⟨RX10, "reach", "()I"⟩
abbrev cX10_fashion : ByteArray := prog_1_method_36_code
def yX10_fashion : MethodName := ⟨RX10, "fashion", "()I"⟩
abbrev cX10_likeliest : ByteArray := prog_1_method_37_code
def yX10_likeliest : MethodName := ⟨RX10, "likeliest", "()I"⟩
abbrev cX10_loophole : ByteArray := prog_1_method_38_code
def yX10_loophole : MethodName := ⟨RX10, "loophole", "(I)I"⟩
abbrev cX10_precedent : ByteArray := prog_1_method_39_code
def yX10_precedent : MethodName := ⟨RX10, "precedent", "(I)I"⟩
abbrev cX10_odds : ByteArray := prog_1_method_40_code
def yX10_odds : MethodName := ⟨RX10, "odds", "(II)I"⟩
abbrev cX10_commonDivisor : ByteArray := prog_1_method_41_code
def yX10_commonDivisor : MethodName := ⟨RX10, "commonDivisor", "(II)I"⟩
abbrev cX10_power : ByteArray := prog_1_method_42_code
def yX10_power : MethodName := ⟨RX10, "power", "(II)I"⟩
abbrev cX10_lies : ByteArray := prog_1_method_43_code
def yX10_lies : MethodName := ⟨RX10, "lies", "(I)I"⟩
abbrev cX10_heard : ByteArray := prog_1_method_44_code
def yX10_heard : MethodName := ⟨RX10, "heard", "(IIZ)I"⟩
abbrev cX10_untell : ByteArray := prog_1_method_45_code
def yX10_untell : MethodName := ⟨RX10, "untell", "(I)Z"⟩
abbrev cX10_later : ByteArray := prog_1_method_46_code
def yX10_later : MethodName := ⟨RX10, "later", "(I)I"⟩
abbrev cX10_fits : ByteArray := prog_1_method_47_code
def yX10_fits : MethodName := ⟨RX10, "fits", "(I)I"⟩
abbrev cX10_sure : ByteArray := prog_1_method_48_code
def yX10_sure : MethodName := ⟨RX10, "sure", "(II)I"⟩
abbrev cX10_ask : ByteArray := prog_1_method_49_code
def yX10_ask : MethodName := ⟨RX10, "ask", "(II)I"⟩
abbrev cX10_image : ByteArray := prog_1_method_50_code
def yX10_image : MethodName := ⟨RX10, "image", "(I)I"⟩
abbrev cX10_restore : ByteArray := prog_1_method_51_code
def yX10_restore : MethodName := ⟨RX10, "restore", "(I)I"⟩
abbrev cX10_about : ByteArray := prog_1_method_52_code
def yX10_about : MethodName := ⟨RX10, "about", "(I)I"⟩
abbrev cX10_aboutRest : ByteArray := prog_1_method_53_code
def yX10_aboutRest : MethodName := ⟨RX10, "aboutRest", "(I)I"⟩
abbrev cX10_copyRow : ByteArray := prog_1_method_54_code
def yX10_copyRow : MethodName := ⟨RX10, "copyRow", "([I[I)V"⟩
def RX11 : String := "WebCourtModel"
def TX11 : u_T := fun k => match k with
  | 0 => ("WebCourtModel", "tape", "[B", true)
  | 1 => ("WebCourtModel", "text", "[B", true)
  | 2 => ("WebCourtModel", "taped", "I", false)
  | 3 => ("WebCourtModel", "size", "I", false)
  | 4 => ("WebCourtModel", "faultKind", "I", false)
  | 5 => ("WebCourtModel", "faultPlace", "I", false)
  | 6 => ("WebCourtModel", "at", "I", false)
  | 7 => ("WebCourtModel", "end", "I", false)
  | 8 => ("WebCourtModel", "token", "I", false)
  | 9 => ("WebCourtModel", "number", "I", false)
  | 10 => ("WebCourtModel", "name", "J", false)
  | 11 => ("WebCourtModel", "knots", "[I", true)
  | 12 => ("WebCourtModel", "lines", "[I", true)
  | 13 => ("WebCourtModel", "pleas", "[I", true)
  | 14 => ("WebCourtModel", "cases", "[I", true)
  | 15 => ("WebCourtModel", "units", "[I", true)
  | 16 => ("WebCourtModel", "bench", "[I", true)
  | 17 => ("WebCourtModel", "back", "[I", true)
  | 18 => ("WebCourtModel", "draw", "[I", true)
  | 19 => ("WebCourtModel", "told", "[I", true)
  | 20 => ("WebCourtModel", "stickyTold", "[I", true)
  | 21 => ("WebCourtModel", "oneEnd", "[I", true)
  | 22 => ("WebCourtModel", "otherEnd", "[I", true)
  | 23 => ("WebCourtModel", "strong", "[I", true)
  | 24 => ("WebCourtModel", "knotOf", "[I", true)
  | 25 => ("WebCourtModel", "pleaTold", "[I", true)
  | 26 => ("WebCourtModel", "ruleFrom", "[I", true)
  | 27 => ("WebCourtModel", "ruleTo", "[I", true)
  | 28 => ("WebCourtModel", "kName", "[J", true)
  | 29 => ("WebCourtModel", "pName", "[J", true)
  | 30 => ("WebCourtModel", "cName", "[J", true)
  | 31 => ("WebCourtModel", "code", "[I", true)
  | 32 => ("WebCourtModel", "codeNumber", "[I", true)
  | 33 => ("WebCourtModel", "eWhat", "[I", true)
  | 34 => ("WebCourtModel", "eSign", "[I", true)
  | 35 => ("WebCourtModel", "pile", "[I", true)
  | 36 => ("WebCourtModel", "bank", "I", false)
  | 37 => ("WebCourtModel", "rb", "I", false)
  | 38 => ("WebCourtModel", "codes", "I", false)
  | 39 => ("WebCourtModel", "within", "I", false)
  | 40 => ("WebCourtModel", "piled", "I", false)
  | 41 => ("WebCourtModel", "unitsInRule", "I", false)
  | 42 => ("WebCourtModel", "askCase", "I", false)
  | 43 => ("WebCourtModel", "askPleas", "I", false)
  | 44 => ("WebCourtModel", "all", "[I", true)
  | 45 => ("WebCourtModel", "thought", "I", false)
  | 46 => ("WebCourtModel", "was", "[I", true)
  | 47 => ("WebCourtModel", "acts", "I", false)
  | 48 => ("WebCourtModel", "undone", "I", false)
  | 49 => ("WebCourtModel", "laidRow", "[I", true)
  | 50 => ("WebCourtModel", "laid", "I", false)
  | 51 => ("WebCourtModel", "verdicts", "[I", true)
  | 52 => ("WebCourtModel", "far", "[I", true)
  | 53 => ("WebCourtModel", "verdictIf", "[I", true)
  | 54 => ("WebCourtModel", "sCase", "[I", true)
  | 55 => ("WebCourtModel", "sMuch", "[I", true)
  | 56 => ("WebCourtModel", "sIs", "[I", true)
  | 57 => ("WebCourtModel", "sTold", "[I", true)
  | 58 => ("WebCourtModel", "sUntold", "[I", true)
  | 59 => ("WebCourtModel", "parts", "[I", true)
  | 60 => ("WebCourtModel", "kept", "[I", true)
  | 61 => ("WebCourtModel", "heards", "I", false)
  | 62 => ("WebCourtModel", "time", "I", false)
  | 63 => ("WebCourtModel", "boxAll", "[I", true)
  | _ => ("WebCourtModel", "isBoxed", "[Z", true)
def tyX11 : Nat → FieldType := fun k => match k with
  | 0 => .array .byte
  | 1 => .array .byte
  | 2 => .int
  | 3 => .int
  | 4 => .int
  | 5 => .int
  | 6 => .int
  | 7 => .int
  | 8 => .int
  | 9 => .int
  | 10 => .long
  | 11 => .array .int
  | 12 => .array .int
  | 13 => .array .int
  | 14 => .array .int
  | 15 => .array .int
  | 16 => .array .int
  | 17 => .array .int
  | 18 => .array .int
  | 19 => .array .int
  | 20 => .array .int
  | 21 => .array .int
  | 22 => .array .int
  | 23 => .array .int
  | 24 => .array .int
  | 25 => .array .int
  | 26 => .array .int
  | 27 => .array .int
  | 28 => .array .long
  | 29 => .array .long
  | 30 => .array .long
  | 31 => .array .int
  | 32 => .array .int
  | 33 => .array .int
  | 34 => .array .int
  | 35 => .array .int
  | 36 => .int
  | 37 => .int
  | 38 => .int
  | 39 => .int
  | 40 => .int
  | 41 => .int
  | 42 => .int
  | 43 => .int
  | 44 => .array .int
  | 45 => .int
  | 46 => .array .int
  | 47 => .int
  | 48 => .int
  | 49 => .array .int
  | 50 => .int
  | 51 => .array .int
  | 52 => .array .int
  | 53 => .array .int
  | 54 => .array .int
  | 55 => .array .int
  | 56 => .array .int
  | 57 => .array .int
  | 58 => .array .int
  | 59 => .array .int
  | 60 => .array .int
  | 61 => .int
  | 62 => .int
  | 63 => .array .int
  | _ => .array .boolean
abbrev wsX110 : List Cond := u_ws RX11 TX11 65
theorem nmX11 : ∀ a, a < 65 → ∀ b, b < 65 → a ≠ b → (TX11 a).2.1 ≠ (TX11 b).2.1 := by decide +kernel
theorem tyX11_ok : ∀ k, k < 65 → parseFieldDescriptor (TX11 k).2.2.1 = some (tyX11 k) := by decide +kernel
abbrev cX11_init : ByteArray := prog_13_method_1_code
def yX11_init : MethodName := ⟨RX11, "<init>", "()V"⟩
abbrev cX11_sign : ByteArray := prog_13_method_2_code
def yX11_sign : MethodName := ⟨RX11, "sign", "(I)I"⟩
abbrev cX11_isLetter : ByteArray := prog_13_method_3_code
def yX11_isLetter : MethodName := ⟨RX11, "isLetter", "(I)Z"⟩
abbrev cX11_isDigit : ByteArray := prog_13_method_4_code
def yX11_isDigit : MethodName := ⟨RX11, "isDigit", "(I)Z"⟩
abbrev cX11_fails : ByteArray := prog_13_method_5_code
def yX11_fails : MethodName := ⟨RX11, "fails", "(II)V"⟩
abbrev cX11_isGood : ByteArray := prog_13_method_6_code
def yX11_isGood : MethodName := ⟨RX11, "isGood", "()Z"⟩
abbrev cX11_isKept : ByteArray := prog_13_method_7_code
def yX11_isKept : MethodName := ⟨RX11, "isKept", "(J)Z"⟩
abbrev cX11_isSign : ByteArray := prog_13_method_8_code
def yX11_isSign : MethodName := ⟨RX11, "isSign", "(I)Z"⟩
abbrev cX11_goOn : ByteArray := prog_13_method_9_code
def yX11_goOn : MethodName := ⟨RX11, "goOn", "()V"⟩
abbrev cX11_isSignHere : ByteArray := prog_13_method_10_code
def yX11_isSignHere : MethodName := ⟨RX11, "isSignHere", "(I)Z"⟩
abbrev cX11_isWord : ByteArray := prog_13_method_11_code
def yX11_isWord : MethodName := ⟨RX11, "isWord", "(J)Z"⟩
abbrev cX11_misplaced : ByteArray := prog_13_method_12_code
def yX11_misplaced : MethodName := ⟨RX11, "misplaced", "()V"⟩
abbrev cX11_must : ByteArray := prog_13_method_13_code
def yX11_must : MethodName := ⟨RX11, "must", "(Z)V"⟩
abbrev cX11_numeral : ByteArray := prog_13_method_14_code
def yX11_numeral : MethodName := ⟨RX11, "numeral", "(II)I"⟩
abbrev cX11_clearBank : ByteArray := prog_13_method_15_code
def yX11_clearBank : MethodName := ⟨RX11, "clearBank", "()V"⟩
abbrev cX11_web : ByteArray := prog_13_method_16_code
def yX11_web : MethodName := ⟨RX11, "web", "()I"⟩
abbrev cX11_isFull : ByteArray := prog_13_method_17_code
def yX11_isFull : MethodName := ⟨RX11, "isFull", "()Z"⟩
abbrev cX11_once : ByteArray := prog_13_method_18_code
def yX11_once : MethodName := ⟨RX11, "once", "(II)I"⟩
abbrev cX11_readLine : ByteArray := prog_13_method_19_code
def yX11_readLine : MethodName := ⟨RX11, "readLine", "()V"⟩
abbrev cX11_here : ByteArray := prog_13_method_20_code
def yX11_here : MethodName := ⟨RX11, "here", "([JII)I"⟩
abbrev cX11_knotHere : ByteArray := prog_13_method_21_code
def yX11_knotHere : MethodName := ⟨RX11, "knotHere", "()I"⟩
abbrev cX11_pleaHere : ByteArray := prog_13_method_22_code
def yX11_pleaHere : MethodName := ⟨RX11, "pleaHere", "()I"⟩
abbrev cX11_fresh : ByteArray := prog_13_method_23_code
def yX11_fresh : MethodName := ⟨RX11, "fresh", "(I)J"⟩
abbrev cX11_known : ByteArray := prog_13_method_24_code
def yX11_known : MethodName := ⟨RX11, "known", "(I)I"⟩
abbrev cX11_isThread : ByteArray := prog_13_method_25_code
def yX11_isThread : MethodName := ⟨RX11, "isThread", "(III)Z"⟩
abbrev cX11_readThread : ByteArray := prog_13_method_26_code
def yX11_readThread : MethodName := ⟨RX11, "readThread", "()V"⟩
abbrev cX11_readCase : ByteArray := prog_13_method_27_code
def yX11_readCase : MethodName := ⟨RX11, "readCase", "()V"⟩
abbrev cX11_readRule : ByteArray := prog_13_method_28_code
def yX11_readRule : MethodName := ⟨RX11, "readRule", "()V"⟩
abbrev cX11_emit : ByteArray := prog_13_method_29_code
def yX11_emit : MethodName := ⟨RX11, "emit", "(II)V"⟩
abbrev cX11_pushE : ByteArray := prog_13_method_30_code
def yX11_pushE : MethodName := ⟨RX11, "pushE", "(II)V"⟩
abbrev cX11_e : ByteArray := prog_13_method_31_code
def yX11_e : MethodName := ⟨RX11, "e", "()V"⟩
abbrev cX11_wordHere : ByteArray := prog_13_method_32_code
def yX11_wordHere : MethodName := ⟨RX11, "wordHere", "()I"⟩
abbrev cX11_unit : ByteArray := prog_13_method_33_code
def yX11_unit : MethodName := ⟨RX11, "unit", "()Z"⟩
abbrev cX11_rankHere : ByteArray := prog_13_method_34_code
def yX11_rankHere : MethodName := ⟨RX11, "rankHere", "()I"⟩
abbrev cX11_isCompared : ByteArray := prog_13_method_35_code
def yX11_isCompared : MethodName := ⟨RX11, "isCompared", "()Z"⟩
abbrev cX11_behindUnit : ByteArray := prog_13_method_36_code
def yX11_behindUnit : MethodName := ⟨RX11, "behindUnit", "()Z"⟩
abbrev cX11_two : ByteArray := prog_13_method_37_code
def yX11_two : MethodName := ⟨RX11, "two", "(III)I"⟩
abbrev cX11_asked : ByteArray := prog_13_method_38_code
def yX11_asked : MethodName := ⟨RX11, "asked", "(II)I"⟩
abbrev cX11_comes : ByteArray := prog_13_method_39_code
def yX11_comes : MethodName := ⟨RX11, "comes", "()I"⟩
abbrev cX11_fault : ByteArray := prog_13_method_40_code
def yX11_fault : MethodName := ⟨RX11, "fault", "(I)I"⟩
abbrev cX11_isIn : ByteArray := prog_13_method_41_code
def yX11_isIn : MethodName := ⟨RX11, "isIn", "(III)Z"⟩
abbrev cX11_bit : ByteArray := prog_13_method_42_code
def yX11_bit : MethodName := ⟨RX11, "bit", "(II)Z"⟩
abbrev cX11_bitsOf : ByteArray := prog_13_method_43_code
def yX11_bitsOf : MethodName := ⟨RX11, "bitsOf", "(I)I"⟩
abbrev cX11_divisor : ByteArray := prog_13_method_44_code
def yX11_divisor : MethodName := ⟨RX11, "divisor", "(II)I"⟩
abbrev cX11_power : ByteArray := prog_13_method_45_code
def yX11_power : MethodName := ⟨RX11, "power", "(II)I"⟩
abbrev cX11_many : ByteArray := prog_13_method_46_code
def yX11_many : MethodName := ⟨RX11, "many", "()I"⟩
abbrev cX11_pleads : ByteArray := prog_13_method_47_code
def yX11_pleads : MethodName := ⟨RX11, "pleads", "()I"⟩
abbrev cX11_spots : ByteArray := prog_13_method_48_code
def yX11_spots : MethodName := ⟨RX11, "spots", "()I"⟩
abbrev cX11_isCase : ByteArray := prog_13_method_49_code
def yX11_isCase : MethodName := ⟨RX11, "isCase", "(I)Z"⟩
abbrev cX11_isPlea : ByteArray := prog_13_method_50_code
def yX11_isPlea : MethodName := ⟨RX11, "isPlea", "(I)Z"⟩
abbrev cX11_isKnot : ByteArray := prog_13_method_51_code
def yX11_isKnot : MethodName := ⟨RX11, "isKnot", "(I)Z"⟩
abbrev cX11_isHeld : ByteArray := prog_13_method_52_code
def yX11_isHeld : MethodName := ⟨RX11, "isHeld", "(I)Z"⟩
abbrev cX11_placeOf : ByteArray := prog_13_method_53_code
def yX11_placeOf : MethodName := ⟨RX11, "placeOf", "(I)I"⟩
abbrev cX11_startAnew : ByteArray := prog_13_method_54_code
def yX11_startAnew : MethodName := ⟨RX11, "startAnew", "()V"⟩
abbrev cX11_layTold : ByteArray := prog_13_method_55_code
def yX11_layTold : MethodName := ⟨RX11, "layTold", "()V"⟩
abbrev cX11_strengthOf : ByteArray := prog_13_method_56_code
def yX11_strengthOf : MethodName := ⟨RX11, "strengthOf", "(I)I"⟩
abbrev cX11_heldNow : ByteArray := prog_13_method_57_code
def yX11_heldNow : MethodName := ⟨RX11, "heldNow", "()I"⟩
abbrev cX11_heldAt : ByteArray := prog_13_method_58_code
def yX11_heldAt : MethodName := ⟨RX11, "heldAt", "(I)I"⟩
abbrev cX11_kinOf : ByteArray := prog_13_method_59_code
def yX11_kinOf : MethodName := ⟨RX11, "kinOf", "(I)I"⟩
abbrev cX11_verdictBy : ByteArray := prog_13_method_60_code
def yX11_verdictBy : MethodName := ⟨RX11, "verdictBy", "(II)I"⟩
abbrev cX11_verdictOf : ByteArray := prog_13_method_61_code
def yX11_verdictOf : MethodName := ⟨RX11, "verdictOf", "(I)I"⟩
abbrev cX11_outcome : ByteArray := prog_13_method_62_code
def yX11_outcome : MethodName := ⟨RX11, "outcome", "(I)I"⟩
abbrev cX11_freeNow : ByteArray := prog_13_method_63_code
def yX11_freeNow : MethodName := ⟨RX11, "freeNow", "()I"⟩
abbrev cX11_nextTo : ByteArray := prog_13_method_64_code
def yX11_nextTo : MethodName := ⟨RX11, "nextTo", "(IZ)I"⟩
abbrev cX11_knot : ByteArray := prog_13_method_65_code
def yX11_knot : MethodName := ⟨RX11, "knot", "(II)I"⟩
abbrev cX11_plea : ByteArray := prog_13_method_66_code
def yX11_plea : MethodName := ⟨RX11, "plea", "(I)I"⟩
abbrev cX11_item : ByteArray := prog_13_method_67_code
def yX11_item : MethodName := ⟨RX11, "item", "(II)I"⟩
abbrev cX11_verdict : ByteArray := prog_13_method_68_code
def yX11_verdict : MethodName := ⟨RX11, "verdict", "(I)I"⟩
abbrev cX11_free : ByteArray := prog_13_method_69_code
def yX11_free : MethodName := ⟨RX11, "free", "()I"⟩
abbrev cX11_likeliest : ByteArray := prog_13_method_70_code
def yX11_likeliest : MethodName := ⟨RX11, "likeliest", "()I"⟩
abbrev cX11_haveIt : ByteArray := prog_13_method_71_code
def yX11_haveIt : MethodName := ⟨RX11, "haveIt", "(I)I"⟩
abbrev cX11_fashion : ByteArray := prog_13_method_72_code
def yX11_fashion : MethodName := ⟨RX11, "fashion", "()I"⟩
abbrev cX11_keepAct : ByteArray := prog_13_method_73_code
def yX11_keepAct : MethodName := ⟨RX11, "keepAct", "()V"⟩
abbrev cX11_swapAll : ByteArray := prog_13_method_74_code
def yX11_swapAll : MethodName := ⟨RX11, "swapAll", "()V"⟩
abbrev cX11_hour : ByteArray := prog_13_method_75_code
def yX11_hour : MethodName := ⟨RX11, "hour", "(I)I"⟩
abbrev cX11_hear : ByteArray := prog_13_method_76_code
def yX11_hear : MethodName := ⟨RX11, "hear", "(I)I"⟩
abbrev cX11_plead : ByteArray := prog_13_method_77_code
def yX11_plead : MethodName := ⟨RX11, "plead", "(II)I"⟩
abbrev cX11_drop : ByteArray := prog_13_method_78_code
def yX11_drop : MethodName := ⟨RX11, "drop", "(II)I"⟩
abbrev cX11_grab : ByteArray := prog_13_method_79_code
def yX11_grab : MethodName := ⟨RX11, "grab", "(I)I"⟩
abbrev cX11_spin : ByteArray := prog_13_method_80_code
def yX11_spin : MethodName := ⟨RX11, "spin", "(I)I"⟩
abbrev cX11_undo : ByteArray := prog_13_method_81_code
def yX11_undo : MethodName := ⟨RX11, "undo", "()Z"⟩
abbrev cX11_redo : ByteArray := prog_13_method_82_code
def yX11_redo : MethodName := ⟨RX11, "redo", "()Z"⟩
abbrev cX11_lies : ByteArray := prog_13_method_83_code
def yX11_lies : MethodName := ⟨RX11, "lies", "(I)I"⟩
abbrev cX11_fewestOf : ByteArray := prog_13_method_84_code
def yX11_fewestOf : MethodName := ⟨RX11, "fewestOf", "(II)I"⟩
abbrev cX11_toldOf : ByteArray := prog_13_method_85_code
def yX11_toldOf : MethodName := ⟨RX11, "toldOf", "(II)I"⟩
abbrev cX11_allPleas : ByteArray := prog_13_method_86_code
def yX11_allPleas : MethodName := ⟨RX11, "allPleas", "()I"⟩
abbrev cX11_shortest : ByteArray := prog_13_method_87_code
def yX11_shortest : MethodName := ⟨RX11, "shortest", "(II)I"⟩
abbrev cX11_honest : ByteArray := prog_13_method_88_code
def yX11_honest : MethodName := ⟨RX11, "honest", "(II)I"⟩
abbrev cX11_hopeless : ByteArray := prog_13_method_89_code
def yX11_hopeless : MethodName := ⟨RX11, "hopeless", "()I"⟩
abbrev cX11_advice : ByteArray := prog_13_method_90_code
def yX11_advice : MethodName := ⟨RX11, "advice", "(II)I"⟩
abbrev cX11_forbid : ByteArray := prog_13_method_91_code
def yX11_forbid : MethodName := ⟨RX11, "forbid", "(I)I"⟩
abbrev cX11_freeWith : ByteArray := prog_13_method_92_code
def yX11_freeWith : MethodName := ⟨RX11, "freeWith", "(II)I"⟩
abbrev cX11_swap : ByteArray := prog_13_method_93_code
def yX11_swap : MethodName := ⟨RX11, "swap", "(I)I"⟩
abbrev cX11_contrary : ByteArray := prog_13_method_94_code
def yX11_contrary : MethodName := ⟨RX11, "contrary", "(I)I"⟩
abbrev cX11_leave : ByteArray := prog_13_method_95_code
def yX11_leave : MethodName := ⟨RX11, "leave", "(I)I"⟩
abbrev cX11_loophole : ByteArray := prog_13_method_96_code
def yX11_loophole : MethodName := ⟨RX11, "loophole", "(I)I"⟩
abbrev cX11_precedent : ByteArray := prog_13_method_97_code
def yX11_precedent : MethodName := ⟨RX11, "precedent", "(I)I"⟩
abbrev cX11_layVerdicts : ByteArray := prog_13_method_98_code
def yX11_layVerdicts : MethodName := ⟨RX11, "layVerdicts", "(II)V"⟩
abbrev cX11_isRest : ByteArray := prog_13_method_99_code
def yX11_isRest : MethodName := ⟨RX11, "isRest", "(I)Z"⟩
abbrev cX11_rivals : ByteArray := prog_13_method_100_code
def yX11_rivals : MethodName := ⟨RX11, "rivals", "(II)I"⟩
abbrev cX11_layFar : ByteArray := prog_13_method_101_code
def yX11_layFar : MethodName := ⟨RX11, "layFar", "()V"⟩
abbrev cX11_way : ByteArray := prog_13_method_102_code
def yX11_way : MethodName := ⟨RX11, "way", "(I)I"⟩
abbrev cX11_reached : ByteArray := prog_13_method_103_code
def yX11_reached : MethodName := ⟨RX11, "reached", "()I"⟩
abbrev cX11_reach : ByteArray := prog_13_method_104_code
def yX11_reach : MethodName := ⟨RX11, "reach", "()I"⟩
abbrev cX11_bridge : ByteArray := prog_13_method_105_code
def yX11_bridge : MethodName := ⟨RX11, "bridge", "(I)I"⟩
abbrev cX11_inOrder : ByteArray := prog_13_method_106_code
def yX11_inOrder : MethodName := ⟨RX11, "inOrder", "(III)I"⟩
abbrev cX11_lastHeard : ByteArray := prog_13_method_107_code
def yX11_lastHeard : MethodName := ⟨RX11, "lastHeard", "(II)I"⟩
abbrev cX11_round : ByteArray := prog_13_method_108_code
def yX11_round : MethodName := ⟨RX11, "round", "()I"⟩
abbrev cX11_term : ByteArray := prog_13_method_109_code
def yX11_term : MethodName := ⟨RX11, "term", "(I)I"⟩
abbrev cX11_odds : ByteArray := prog_13_method_110_code
def yX11_odds : MethodName := ⟨RX11, "odds", "(II)I"⟩
abbrev cX11_heard : ByteArray := prog_13_method_111_code
def yX11_heard : MethodName := ⟨RX11, "heard", "(IIZ)I"⟩
abbrev cX11_untell : ByteArray := prog_13_method_112_code
def yX11_untell : MethodName := ⟨RX11, "untell", "(I)Z"⟩
abbrev cX11_later : ByteArray := prog_13_method_113_code
def yX11_later : MethodName := ⟨RX11, "later", "(I)I"⟩
abbrev cX11_layThought : ByteArray := prog_13_method_114_code
def yX11_layThought : MethodName := ⟨RX11, "layThought", "()V"⟩
abbrev cX11_doesFit : ByteArray := prog_13_method_115_code
def yX11_doesFit : MethodName := ⟨RX11, "doesFit", "(II)Z"⟩
abbrev cX11_fits : ByteArray := prog_13_method_116_code
def yX11_fits : MethodName := ⟨RX11, "fits", "(I)I"⟩
abbrev cX11_sure : ByteArray := prog_13_method_117_code
def yX11_sure : MethodName := ⟨RX11, "sure", "(II)I"⟩
abbrev cX11_mostOf : ByteArray := prog_13_method_118_code
def yX11_mostOf : MethodName := ⟨RX11, "mostOf", "(II)I"⟩
abbrev cX11_ask : ByteArray := prog_13_method_119_code
def yX11_ask : MethodName := ⟨RX11, "ask", "(II)I"⟩
abbrev cX11_image : ByteArray := prog_13_method_120_code
def yX11_image : MethodName := ⟨RX11, "image", "(I)I"⟩
abbrev cX11_restore : ByteArray := prog_13_method_121_code
def yX11_restore : MethodName := ⟨RX11, "restore", "(I)I"⟩
abbrev cX11_about : ByteArray := prog_13_method_122_code
def yX11_about : MethodName := ⟨RX11, "about", "(I)I"⟩
abbrev cX11_feed : ByteArray := prog_13_method_123_code
def yX11_feed : MethodName := ⟨RX11, "feed", "(IIIII)I"⟩
abbrev cX11_end : ByteArray := prog_13_method_124_code
def yX11_end : MethodName := ⟨RX11, "end", "(I)I"⟩
def RJ11 : String := "java/lang/Character"
abbrev cJ11_isValidCodePoint_9a6ad : ByteArray := prog_14_method_11_code
def yJ11_isValidCodePoint_9a6ad : MethodName := ⟨RJ11, "isValidCodePoint", "(I)Z"⟩
abbrev cJ11_highSurrogate_5068e : ByteArray := prog_14_method_28_code
def yJ11_highSurrogate_5068e : MethodName := ⟨RJ11, "highSurrogate", "(I)C"⟩
abbrev cJ11_lowSurrogate_5068e : ByteArray := prog_14_method_29_code
def yJ11_lowSurrogate_5068e : MethodName := ⟨RJ11, "lowSurrogate", "(I)C"⟩
def RJ6 : String := "java/lang/Integer"
abbrev cJ6_compare_7cf53 : ByteArray := prog_15_method_40_code
def yJ6_compare_7cf53 : MethodName := ⟨RJ6, "compare", "(II)I"⟩
abbrev cJ6_bitCount_0f7a4 : ByteArray := prog_15_method_49_code
def yJ6_bitCount_0f7a4 : MethodName := ⟨RJ6, "bitCount", "(I)I"⟩
def RJ9 : String := "java/lang/Math"
abbrev cJ9_max_7cf53 : ByteArray := prog_16_method_65_code
def yJ9_max_7cf53 : MethodName := ⟨RJ9, "max", "(II)I"⟩
abbrev cJ9_min_7cf53 : ByteArray := prog_16_method_69_code
def yJ9_min_7cf53 : MethodName := ⟨RJ9, "min", "(II)I"⟩
def RJ0 : String := "java/lang/String"
abbrev cJ0_length_8abf5 : ByteArray := prog_17_method_54_code
def yJ0_length_8abf5 : MethodName := ⟨RJ0, "length", "()I"⟩
abbrev cJ0_charAt_5068e : ByteArray := prog_17_method_56_code
def yJ0_charAt_5068e : MethodName := ⟨RJ0, "charAt", "(I)C"⟩
abbrev cJ0_indexOf_0f7a4 : ByteArray := prog_17_method_79_code
def yJ0_indexOf_0f7a4 : MethodName := ⟨RJ0, "indexOf", "(I)I"⟩
abbrev cJ0_indexOf_7cf53 : ByteArray := prog_17_method_80_code
def yJ0_indexOf_7cf53 : MethodName := ⟨RJ0, "indexOf", "(II)I"⟩
abbrev cJ0_coder_7d493 : ByteArray := prog_17_method_152_code
def yJ0_coder_7d493 : MethodName := ⟨RJ0, "coder", "()B"⟩
abbrev cJ0_isLatin1_aae02 : ByteArray := prog_17_method_154_code
def yJ0_isLatin1_aae02 : MethodName := ⟨RJ0, "isLatin1", "()Z"⟩
abbrev cJ0_checkIndex_df160 : ByteArray := prog_17_method_155_code
def yJ0_checkIndex_df160 : MethodName := ⟨RJ0, "checkIndex", "(II)V"⟩
abbrev cJ0_checkBoundsBeginEnd_23922 : ByteArray := prog_17_method_158_code
def yJ0_checkBoundsBeginEnd_23922 : MethodName := ⟨RJ0, "checkBoundsBeginEnd", "(III)V"⟩
def RJ1 : String := "java/lang/StringLatin1"
abbrev cJ1_charAt_3b067 : ByteArray := prog_18_method_2_code
def yJ1_charAt_3b067 : MethodName := ⟨RJ1, "charAt", "([BI)C"⟩
abbrev cJ1_canEncode_9a6ad : ByteArray := prog_18_method_4_code
def yJ1_canEncode_9a6ad : MethodName := ⟨RJ1, "canEncode", "(I)Z"⟩
abbrev cJ1_indexOf_4cfef : ByteArray := prog_18_method_22_code
def yJ1_indexOf_4cfef : MethodName := ⟨RJ1, "indexOf", "([BIII)I"⟩
abbrev cJ1_indexOfChar_4cfef : ByteArray := prog_18_method_23_code
def yJ1_indexOfChar_4cfef : MethodName := ⟨RJ1, "indexOfChar", "([BIII)I"⟩
def RJ2 : String := "java/lang/StringUTF16"
abbrev cJ2_getChar_3b067 : ByteArray := prog_19_method_5_code
def yJ2_getChar_3b067 : MethodName := ⟨RJ2, "getChar", "([BI)C"⟩
abbrev cJ2_length_9d52b : ByteArray := prog_19_method_6_code
def yJ2_length_9d52b : MethodName := ⟨RJ2, "length", "([B)I"⟩
abbrev cJ2_indexOf_4cfef : ByteArray := prog_19_method_40_code
def yJ2_indexOf_4cfef : MethodName := ⟨RJ2, "indexOf", "([BIII)I"⟩
abbrev cJ2_indexOfChar_4cfef : ByteArray := prog_19_method_47_code
def yJ2_indexOfChar_4cfef : MethodName := ⟨RJ2, "indexOfChar", "([BIII)I"⟩
abbrev cJ2_indexOfCharUnsafe_4cfef : ByteArray := prog_19_method_48_code
def yJ2_indexOfCharUnsafe_4cfef : MethodName := ⟨RJ2, "indexOfCharUnsafe", "([BIII)I"⟩
abbrev cJ2_indexOfSupplementary_4cfef : ByteArray := prog_19_method_49_code
def yJ2_indexOfSupplementary_4cfef : MethodName := ⟨RJ2, "indexOfSupplementary", "([BIII)I"⟩
abbrev cJ2_charAt_3b067 : ByteArray := prog_19_method_83_code
def yJ2_charAt_3b067 : MethodName := ⟨RJ2, "charAt", "([BI)C"⟩
abbrev cJ2_checkIndex_2214a : ByteArray := prog_19_method_91_code
def yJ2_checkIndex_2214a : MethodName := ⟨RJ2, "checkIndex", "(I[B)V"⟩
abbrev cJ2_checkBoundsBeginEnd_d044e : ByteArray := prog_19_method_93_code
def yJ2_checkBoundsBeginEnd_d044e : MethodName := ⟨RJ2, "checkBoundsBeginEnd", "(II[B)V"⟩
def RJ3 : String := "jdk/internal/util/Preconditions"
abbrev cJ3_checkIndex_8e157 : ByteArray := prog_20_method_11_code
def yJ3_checkIndex_8e157 : MethodName := ⟨RJ3, "checkIndex", "(IILjava/util/function/BiFunction;)I"⟩
abbrev cJ3_checkFromToIndex_8c36e : ByteArray := prog_20_method_12_code
def yJ3_checkFromToIndex_8c36e : MethodName := ⟨RJ3, "checkFromToIndex", "(IIILjava/util/function/BiFunction;)I"⟩
def RL : String := "WebCourtLaw"
abbrev cL_law : ByteArray := code
def yL_law : MethodName := ⟨RL, "law", "([I)Z"⟩
abbrev vwCl : List vw_C := [(RX0, TX0, 4), (RX1, TX1, 3), (RX2, TX2, 2), (RX3, TX3, 7), (RX4, TX4, 11), (RX5, TX5, 4), (RX6, TX6, 3), (RX7, TX7, 7), (RX8, TX8, 2), (RX9, TX9, 18), (RX10, TX10, 13), (RX11, TX11, 65)]

/-! the tables' words that travel: one list for every method -/
def gtb : List Cond := lw_tbl.filter goodWord
theorem gtb_in {w : Cond} (h : w ∈ gtb) : w ∈ lw_tbl := (List.mem_filter.mp h).1
theorem gtb_mk {w : Cond} (i : Nat) (h : lw_tbl[i]? = some w) (hg : goodWord w = true) : w ∈ gtb := List.mem_filter.mpr ⟨List.mem_of_getElem? h, hg⟩
theorem gtb_good {w : Cond} (h : w ∈ gtb) : (w.onTables && w.keeps) = true ∨ ∃ ty, w = .arrayClass ty := good_of_word (List.mem_filter.mp h).2
theorem gGood {y : Cond} (h : y ∈ gtb) : GoodIn gtb (y :: gtb) := fun w hw => (List.mem_cons.mp hw).elim (fun e => by subst e; exact ⟨h, gtb_good h⟩) (fun hw => ⟨hw, gtb_good hw⟩)
theorem gV {own C : String} {idx : Nat} {y : MethodName} {cw : Cond} (h1 : Cond.methodLink own idx y ∈ gtb) (h2 : Cond.instanceMethod y ∈ gtb) (h3 : Cond.selects C y y ∈ gtb) (h4 : Cond.initialized C ∈ gtb) (h5 : cw ∈ gtb) : GoodIn gtb (wsV own idx C y (cw :: gtb)) := by
  intro w hw
  rcases List.mem_append.mp hw with hw | hw
  · rcases List.mem_cons.mp hw with e | hw
    · subst e; exact ⟨h1, gtb_good h1⟩
    · rcases List.mem_cons.mp hw with e | hw
      · subst e; exact ⟨h2, gtb_good h2⟩
      · rcases List.mem_cons.mp hw with e | hw
        · subst e; exact ⟨h3, gtb_good h3⟩
        · rcases List.mem_cons.mp hw with e | hw
          · subst e; exact ⟨h4, gtb_good h4⟩
          · cases hw
  · exact gGood h5 w hw
theorem gS {own : String} {idx : Nat} {y : MethodName} {cw : Cond} (h1 : Cond.methodLink own idx y ∈ gtb) (h2 : Cond.static y ∈ gtb) (h3 : Cond.initialized own ∈ gtb) (h5 : cw ∈ gtb) : GoodIn gtb (wsS own idx y (cw :: gtb)) := by
  intro w hw
  rcases List.mem_append.mp hw with hw | hw
  · rcases List.mem_cons.mp hw with e | hw
    · subst e; exact ⟨h1, gtb_good h1⟩
    · rcases List.mem_cons.mp hw with e | hw
      · subst e; exact ⟨h2, gtb_good h2⟩
      · rcases List.mem_cons.mp hw with e | hw
        · subst e; exact ⟨h3, gtb_good h3⟩
        · cases hw
  · exact gGood h5 w hw
theorem gtb_p {w : Cond} (i : Nat) (h : (k2_sels lw_privs)[i]? = some w) (hg : goodWord w = true) : w ∈ gtb := List.mem_filter.mpr ⟨List.mem_append_left _ (List.mem_of_getElem? h), hg⟩
theorem gtb_c1 {w : Cond} (i : Nat) (h : tables_1_1[i]? = some w) (hg : goodWord w = true) : w ∈ gtb := List.mem_filter.mpr ⟨List.mem_append_right _ (List.mem_append_left _ (List.mem_of_getElem? h)), hg⟩
theorem gtb_c2 {w : Cond} (i : Nat) (h : tables_1_2[i]? = some w) (hg : goodWord w = true) : w ∈ gtb := List.mem_filter.mpr ⟨List.mem_append_right _ (List.mem_append_right _ (List.mem_append_left _ (List.mem_of_getElem? h))), hg⟩
theorem gtb_c3 {w : Cond} (i : Nat) (h : tables_1_3[i]? = some w) (hg : goodWord w = true) : w ∈ gtb := List.mem_filter.mpr ⟨List.mem_append_right _ (List.mem_append_right _ (List.mem_append_right _ (List.mem_append_left _ (List.mem_of_getElem? h)))), hg⟩
theorem gtb_c4 {w : Cond} (i : Nat) (h : tables_1_4[i]? = some w) (hg : goodWord w = true) : w ∈ gtb := List.mem_filter.mpr ⟨List.mem_append_right _ (List.mem_append_right _ (List.mem_append_right _ (List.mem_append_right _ (List.mem_append_left _ (List.mem_of_getElem? h))))), hg⟩
theorem gtb_c5 {w : Cond} (i : Nat) (h : tables_1_5[i]? = some w) (hg : goodWord w = true) : w ∈ gtb := List.mem_filter.mpr ⟨List.mem_append_right _ (List.mem_append_right _ (List.mem_append_right _ (List.mem_append_right _ (List.mem_append_right _ (List.mem_append_left _ (List.mem_of_getElem? h)))))), hg⟩
theorem gtb_c6 {w : Cond} (i : Nat) (h : tables_1_6[i]? = some w) (hg : goodWord w = true) : w ∈ gtb := List.mem_filter.mpr ⟨List.mem_append_right _ (List.mem_append_right _ (List.mem_append_right _ (List.mem_append_right _ (List.mem_append_right _ (List.mem_append_right _ (List.mem_append_left _ (List.mem_of_getElem? h))))))), hg⟩
theorem gtb_c7 {w : Cond} (i : Nat) (h : tables_1_7[i]? = some w) (hg : goodWord w = true) : w ∈ gtb := List.mem_filter.mpr ⟨List.mem_append_right _ (List.mem_append_right _ (List.mem_append_right _ (List.mem_append_right _ (List.mem_append_right _ (List.mem_append_right _ (List.mem_append_right _ (List.mem_append_left _ (List.mem_of_getElem? h)))))))), hg⟩
theorem gtb_c8 {w : Cond} (i : Nat) (h : tables_1_8[i]? = some w) (hg : goodWord w = true) : w ∈ gtb := List.mem_filter.mpr ⟨List.mem_append_right _ (List.mem_append_right _ (List.mem_append_right _ (List.mem_append_right _ (List.mem_append_right _ (List.mem_append_right _ (List.mem_append_right _ (List.mem_append_right _ (List.mem_append_left _ (List.mem_of_getElem? h))))))))), hg⟩
theorem gtb_c9 {w : Cond} (i : Nat) (h : tables_1_9[i]? = some w) (hg : goodWord w = true) : w ∈ gtb := List.mem_filter.mpr ⟨List.mem_append_right _ (List.mem_append_right _ (List.mem_append_right _ (List.mem_append_right _ (List.mem_append_right _ (List.mem_append_right _ (List.mem_append_right _ (List.mem_append_right _ (List.mem_append_right _ (List.mem_of_getElem? h))))))))), hg⟩
end
section
/-! A state of the system: int fields, long fields, int arrays, long arrays (by the place of their cell), rows, references that change -/
abbrev St : Type := (Nat → Nat → Int32) × (Nat → Nat → Int64) × (Nat → Nat → Int32) × (Nat → Nat → Int64) × (Nat → Nat → Int32) × (Nat → Nat)
abbrev fI (u : St) : Nat → Nat → Int32 := u.1
abbrev fL (u : St) : Nat → Nat → Int64 := u.2.1
abbrev fA (u : St) : Nat → Nat → Int32 := u.2.2.1
abbrev fJ (u : St) : Nat → Nat → Int64 := u.2.2.2.1
abbrev fB (u : St) : Nat → Nat → Int32 := u.2.2.2.2.1
abbrev fR (u : St) : Nat → Nat := u.2.2.2.2.2
def sI (u : St) (c k : Nat) (v : Int32) : St := (va_up u.1 c (va_up (u.1 c) k v), u.2)
def sL (u : St) (c k : Nat) (v : Int64) : St := (u.1, va_up u.2.1 c (va_up (u.2.1 c) k v), u.2.2)
def sA (u : St) (q : Nat) (f : Nat → Int32) : St := (u.1, u.2.1, va_up u.2.2.1 q f, u.2.2.2)
def sJ (u : St) (q : Nat) (f : Nat → Int64) : St := (u.1, u.2.1, u.2.2.1, va_up u.2.2.2.1 q f, u.2.2.2.2)
def sB (u : St) (q : Nat) (f : Nat → Int32) : St := (u.1, u.2.1, u.2.2.1, u.2.2.2.1, va_up u.2.2.2.2.1 q f, u.2.2.2.2.2)
def sR (u : St) (k v : Nat) : St := (u.1, u.2.1, u.2.2.1, u.2.2.2.1, u.2.2.2.2.1, va_up u.2.2.2.2.2 k v)
def tyL (cy : Nat → ClassId) : List (ClassId × FieldType) := [(cy 0, .byte), (cy 1, .int), (cy 2, .long), (cy 3, .boolean), (cy 4, .array .int)]
def kNest : Cond := .methodLinkNest "WebCourt$Acts" 26 yX10_copyRow "WebCourt"
def Kk (D : va_G) (cy : Nat → ClassId) (U : State) : Prop := va_K D vwCl (tyL cy) U ∧ va_Nw kNest U
theorem Kk.warm {D : va_G} {cy : Nat → ClassId} {s U : State} (h : Kk D cy s) (hW : s.WarmedH U.vm) : Kk D cy U := ⟨va_K.moved hW.alike h.1, va_Nw.warmM hW h.2⟩
theorem Kk.call {D : va_G} {cy : Nat → ClassId} {U : State} {g : JFrame} {mk : MethodId} {a : Array Value} (h : Kk D cy U) : Kk D cy (U.calling g mk a) := ⟨va_K.moved (u := U) (U := U.calling g mk a) (Vm.Alike.refl U.vm) h.1, va_Nw.same rfl rfl h.2⟩
/-- the heap holds a world, apart, and nothing else that was there has changed -/
def Wo (D : va_G) (A : Nat → Prop) (w : va_W) (H0 H : Heap) (locs : List Loc) : Prop := va_P D vwCl w H ∧ va_D A w ∧ va_S A H0 H locs
/-- what stays the same while a method runs -/
def Cx (p : Program) (s : State) (m : MethodId) (args : Array Value) (c : Code) (cc : ByteArray) (nL : Nat) (own : String) (D : va_G) (cy : Nat → ClassId) (A : Nat → Prop) : Prop :=
  p.tables.exec = Jvm.exec ∧ c.code = cc ∧ c.maxLocals = nL ∧ s.vm.findClass own = some m.cls ∧ (∀ w ∈ gtb, w.before args s = true) ∧ Kk D cy s ∧ ∀ q, s.heap.size ≤ q → A q
abbrev rmo (f n : Nat) : Room := { frames := f, cells := 0, slots := 0, locals := n }
def Mi (l : Launch) (D : va_G) (cy : Nat → ClassId) (w : St → va_W) (y : MethodName) (cw : Cond) (rm : Room) (av : List Value) (u0 : St) (post : Int32 → St → Prop) : Prop :=
  ∀ sz : Nat, Met l y (cw :: gtb) rm (va_Pc av (fun U => U.heap.size = sz ∧ va_P D vwCl (w u0) U.heap ∧ Kk D cy U ∧ va_D (fun _ => True) (w u0))) (va_Qi post (fun u t => va_P D vwCl (w u) t.heap ∧ Kk D cy t ∧ va_D (va_A (w u0) sz) (w u)) (va_A (w u0) sz)) 0 0 (va_A (w u0) sz)
def Mj (l : Launch) (D : va_G) (cy : Nat → ClassId) (w : St → va_W) (y : MethodName) (cw : Cond) (rm : Room) (av : List Value) (u0 : St) (post : Int64 → St → Prop) : Prop :=
  ∀ sz : Nat, Met l y (cw :: gtb) rm (va_Pc av (fun U => U.heap.size = sz ∧ va_P D vwCl (w u0) U.heap ∧ Kk D cy U ∧ va_D (fun _ => True) (w u0))) (va_Ql post (fun u t => va_P D vwCl (w u) t.heap ∧ Kk D cy t ∧ va_D (va_A (w u0) sz) (w u)) (va_A (w u0) sz)) 0 0 (va_A (w u0) sz)
def Mv (l : Launch) (D : va_G) (cy : Nat → ClassId) (w : St → va_W) (y : MethodName) (cw : Cond) (rm : Room) (av : List Value) (u0 : St) (post : St → Prop) : Prop :=
  ∀ sz : Nat, Met l y (cw :: gtb) rm (va_Pc av (fun U => U.heap.size = sz ∧ va_P D vwCl (w u0) U.heap ∧ Kk D cy U ∧ va_D (fun _ => True) (w u0))) (va_Qv post (fun u t => va_P D vwCl (w u) t.heap ∧ Kk D cy t ∧ va_D (va_A (w u0) sz) (w u)) (va_A (w u0) sz)) 0 0 (va_A (w u0) sz)
theorem va_D.self' {w : va_W} {A : Nat → Prop} {q : Nat} {H : Heap} {locs : List Loc} {H0 : Heap} (hD : va_D A w) (hS : va_S A H0 H locs) (hA : ∀ q, H0.size ≤ q → A q) (h : va_A w H.size q) : A q := by
  rcases h with ⟨k, e, h⟩ | h
  · exact hD.2 k (q, e) h
  · exact hA q (Nat.le_trans hS.1 h)
section FR
variable {p : Program} {l : Launch} {e : Env} {R : Room} {s : State} {m : MethodId} {args : Array Value} {below : List Frame} {meth : Method} {c : Code} {H : Heap} {locs : List Loc} {cells slots : Nat} {Q : State → Prop}
variable {cc : ByteArray} {pc nL : Nat} {ls : Array Slot} {rest : List Value} {D : va_G} {cy : Nat → ClassId} {A : Nat → Prop} {own : String} {w : St → va_W} {u0 : St}
theorem Mi.of {y : MethodName} {maxL : Nat} {ty : FieldType} {rm : Room} {av : List Value} {post : Int32 → St → Prop} (hcls : y.cls = own) (hy : plainName y.cls = true) (hlen : (lg_sl av).length ≤ maxL)
    (body : ∀ (p : Program) (e : Env) (s : State) (m : MethodId) (below : List Frame) (meth : Method) (c : Code) (A : Nat → Prop) (Q : State → Prop) (ls : Array Slot),
      Cx p s m av.toArray c cc maxL own D cy A →
      (∀ (v : Int32) (u : St) (H : Heap) (locs : List Loc) (ls : Array Slot) (pc : Nat), decode cc pc = .ok (.ireturn, 1) → narrow ty (.int v) = .int v → post v u → Wo D A (w u) s.heap H locs → W p l e rm s m av.toArray below meth c H locs 0 0 Q (F0 m pc ls [.int v])) →
      Wo D A (w u0) s.heap s.heap [] → lv_has ls maxL (lv_args 0 av) → W p l e rm s m av.toArray below meth c s.heap [] 0 0 Q (F0 m 0 ls [])) : Mi l D cy w y (.code y cc maxL (some ty)) rm av u0 post := by
  intro sz
  refine Met.ofW (cc := cc) (maxL := maxL) (ret := some ty) hy rfl ?_
  intro p e s m args below meth c s₁ B hml hv
  obtain ⟨rfl, hsz, hP, hK, hD0⟩ := hv
  have hx := B.exec
  have hb := B.bytes
  have hr := B.returns
  have hts := atoms_spec (ws := .code y cc maxL (some ty) :: gtb) B.pre
  have hown : s.vm.findClass own = some m.cls := by rw [← hcls]; exact findClass_of_methodNamed B.named
  have hlocks := B.notSynchronized
  subst hsz
  have hD := hD0.self (sz := s.heap.size)
  have hl := lv_entry av (n := maxL) hlen
  rw [lg_entry_eq]
  refine body p e s m below meth c (va_A (w u0) s.heap.size) _ _ ⟨hx, hb, hml, hown, fun w hw => hts w (List.mem_cons_of_mem _ hw), hK, fun q h => Or.inr h⟩ ?_ ⟨hP, hD, va_S.rf⟩ hl
  intro v u H locs ls pc hdg hn hp hO
  exact W.zret hx hb hr hn (fun t ht hW => ⟨⟨v, u, rfl, hp, by rw [ht]; exact hO.1, hK.warm hW, hO.2.1⟩, hO.2.2.F ht⟩) hO.2.2.2.2 hdg
theorem Mj.of {y : MethodName} {maxL : Nat} {rm : Room} {av : List Value} {post : Int64 → St → Prop} (hcls : y.cls = own) (hy : plainName y.cls = true) (hlen : (lg_sl av).length ≤ maxL)
    (body : ∀ (p : Program) (e : Env) (s : State) (m : MethodId) (below : List Frame) (meth : Method) (c : Code) (A : Nat → Prop) (Q : State → Prop) (ls : Array Slot),
      Cx p s m av.toArray c cc maxL own D cy A →
      (∀ (v : Int64) (u : St) (H : Heap) (locs : List Loc) (ls : Array Slot) (pc : Nat), decode cc pc = .ok (.lreturn, 1) → post v u → Wo D A (w u) s.heap H locs → W p l e rm s m av.toArray below meth c H locs 0 0 Q (F0 m pc ls [.long v])) →
      Wo D A (w u0) s.heap s.heap [] → lv_has ls maxL (lv_args 0 av) → W p l e rm s m av.toArray below meth c s.heap [] 0 0 Q (F0 m 0 ls [])) : Mj l D cy w y (.code y cc maxL (some .long)) rm av u0 post := by
  intro sz
  refine Met.ofW (cc := cc) (maxL := maxL) (ret := some .long) hy rfl ?_
  intro p e s m args below meth c s₁ B hml hv
  obtain ⟨rfl, hsz, hP, hK, hD0⟩ := hv
  have hx := B.exec
  have hb := B.bytes
  have hr := B.returns
  have hts := atoms_spec (ws := .code y cc maxL (some .long) :: gtb) B.pre
  have hown : s.vm.findClass own = some m.cls := by rw [← hcls]; exact findClass_of_methodNamed B.named
  have hlocks := B.notSynchronized
  subst hsz
  have hD := hD0.self (sz := s.heap.size)
  have hl := lv_entry av (n := maxL) hlen
  rw [lg_entry_eq]
  refine body p e s m below meth c (va_A (w u0) s.heap.size) _ _ ⟨hx, hb, hml, hown, fun w hw => hts w (List.mem_cons_of_mem _ hw), hK, fun q h => Or.inr h⟩ ?_ ⟨hP, hD, va_S.rf⟩ hl
  intro v u H locs ls pc hdg hp hO
  exact W.lret hx hb hr (fun t ht hW => ⟨⟨v, u, rfl, hp, by rw [ht]; exact hO.1, hK.warm hW, hO.2.1⟩, hO.2.2.F ht⟩) hO.2.2.2.2 hdg
theorem Mv.of {y : MethodName} {maxL : Nat} {rm : Room} {av : List Value} {post : St → Prop} (hcls : y.cls = own) (hy : plainName y.cls = true) (hlen : (lg_sl av).length ≤ maxL)
    (body : ∀ (p : Program) (e : Env) (s : State) (m : MethodId) (below : List Frame) (meth : Method) (c : Code) (A : Nat → Prop) (Q : State → Prop) (ls : Array Slot),
      Cx p s m av.toArray c cc maxL own D cy A →
      (∀ (u : St) (H : Heap) (locs : List Loc) (ls : Array Slot) (pc : Nat), decode cc pc = .ok (.return_, 1) → post u → Wo D A (w u) s.heap H locs → W p l e rm s m av.toArray below meth c H locs 0 0 Q (F0 m pc ls [])) →
      Wo D A (w u0) s.heap s.heap [] → lv_has ls maxL (lv_args 0 av) → W p l e rm s m av.toArray below meth c s.heap [] 0 0 Q (F0 m 0 ls [])) : Mv l D cy w y (.code y cc maxL none) rm av u0 post := by
  intro sz
  refine Met.ofW (cc := cc) (maxL := maxL) (ret := none) hy rfl ?_
  intro p e s m args below meth c s₁ B hml hv
  obtain ⟨rfl, hsz, hP, hK, hD0⟩ := hv
  have hx := B.exec
  have hb := B.bytes
  have hr := B.returns
  have hts := atoms_spec (ws := .code y cc maxL none :: gtb) B.pre
  have hown : s.vm.findClass own = some m.cls := by rw [← hcls]; exact findClass_of_methodNamed B.named
  have hlocks := B.notSynchronized
  subst hsz
  have hD := hD0.self (sz := s.heap.size)
  have hl := lv_entry av (n := maxL) hlen
  rw [lg_entry_eq]
  refine body p e s m below meth c (va_A (w u0) s.heap.size) _ _ ⟨hx, hb, hml, hown, fun w hw => hts w (List.mem_cons_of_mem _ hw), hK, fun q h => Or.inr h⟩ ?_ ⟨hP, hD, va_S.rf⟩ hl
  intro u H locs ls pc hdg hp hO
  exact W.vret hx hb hr (fun t ht hW => ⟨⟨u, rfl, hp, by rw [ht]; exact hO.1, hK.warm hW, hO.2.1⟩, hO.2.2.F ht⟩) hO.2.2.2.2 hdg
/-! calls within one world -/
theorem pre_ok {av : List Value} {hp : va_P D vwCl (w u0) H} (hK : Kk D cy s) (hD : va_D A (w u0)) : ∀ U : State, U.heap = H → s.WarmedH U.vm → va_Pc av (fun U => U.heap.size = H.size ∧ va_P D vwCl (w u0) U.heap ∧ Kk D cy U ∧ va_D (fun _ => True) (w u0)) av.toArray U :=
  fun U hU hW => ⟨rfl, by rw [hU], by rw [hU]; exact hp, hK.warm hW, hD.weaken (fun _ _ _ _ => trivial)⟩
theorem pre_blind {av : List Value} {sz : Nat} : FrameBlind (va_Pc av (fun U => U.heap.size = sz ∧ va_P D vwCl (w u0) U.heap ∧ Kk D cy U ∧ va_D (fun _ => True) (w u0))) := fun a U g mk q => by
  obtain ⟨q0, q1, qP, qK, qD⟩ := q
  exact ⟨q0, q1, qP, qK.call, qD⟩
variable {y : MethodName} {bytes : ByteArray} {maxL n index : Nat} {rm : Room} {b : Nat} {As : List Value} {Cn : String}
theorem cVi {ty : FieldType} {post : Int32 → St → Prop} (C : Cx p s m args c cc nL own D cy A) (hO : Wo D A (w u0) s.heap H locs) (hM : Mi l D cy w y (.code y bytes maxL (some ty)) rm (.ref b :: As) u0 post)
    (cw : CallW R s args own Cn index y bytes maxL (some ty) (.code y bytes maxL (some ty) :: gtb) rm 0 0 n) (q0 : Nat) {ci : Nat} {q : vw_C} {fs : List Value} (hc : vwCl[ci]? = some q) (he : (w u0)[q0]? = some (b, .inr (ci, fs))) (hq : q.1 = Cn) (hn : As.length = n) (hls : ls.size = nL) (hW : (rest.map fun v => v.category).sum ≤ 8) (hdg : decode cc pc = .ok (.invokevirtual index, 3)) {st : List Value} (hst : st = As.reverse ++ .ref b :: rest) (hf : cells ≤ R.cells ∧ slots ≤ R.slots)
    (kk : ∀ (r : Int32) (u : St) (H : Heap) (locs : List Loc), post r u → Wo D A (w u) s.heap H locs → W p l e R s m args below meth c H locs cells slots Q (F0 m (pc + 3) ls (.int r :: rest))) : W p l e R s m args below meth c H locs cells slots Q (F0 m pc ls st) := by
  obtain ⟨hx, hb, hml, hown, ht, hK, hA⟩ := C
  obtain ⟨hP, hD, hS⟩ := hO
  subst hst
  have hF : ∀ q, va_A (w u0) H.size q → A q := fun q h => hD.self' hS hA h
  have hrec := va_recv hK.1 hP hc he
  rw [hq] at hrec
  refine va_calli (va_runV (As := As) (rest := rest) ⟨hx, hb, hml, hown, ht⟩ (hM H.size) cw ⟨pre_blind, hrec, pre_ok (hp := hP) hK hD⟩ rfl hn hls rfl (lv_room hW) hdg hf) hS (fun q _ h => hF q h) hF (fun r u t H1 locs1 ht1 hvm hp hB hz hk hS1 => ?_)
  obtain ⟨hP1, hK1, hD1⟩ := hB
  rw [ht1] at hP1
  exact kk r u H1 locs1 hp ⟨hP1, hD1.weaken (fun _ q _ h => hF q.1 h), hS1⟩
theorem cVj {post : Int64 → St → Prop} (C : Cx p s m args c cc nL own D cy A) (hO : Wo D A (w u0) s.heap H locs) (hM : Mj l D cy w y (.code y bytes maxL (some .long)) rm (.ref b :: As) u0 post)
    (cw : CallW R s args own Cn index y bytes maxL (some .long) (.code y bytes maxL (some .long) :: gtb) rm 0 0 n) (q0 : Nat) {ci : Nat} {q : vw_C} {fs : List Value} (hc : vwCl[ci]? = some q) (he : (w u0)[q0]? = some (b, .inr (ci, fs))) (hq : q.1 = Cn) (hn : As.length = n) (hls : ls.size = nL) (hW : (rest.map fun v => v.category).sum ≤ 8) (hdg : decode cc pc = .ok (.invokevirtual index, 3)) {st : List Value} (hst : st = As.reverse ++ .ref b :: rest) (hf : cells ≤ R.cells ∧ slots ≤ R.slots)
    (kk : ∀ (r : Int64) (u : St) (H : Heap) (locs : List Loc), post r u → Wo D A (w u) s.heap H locs → W p l e R s m args below meth c H locs cells slots Q (F0 m (pc + 3) ls (.long r :: rest))) : W p l e R s m args below meth c H locs cells slots Q (F0 m pc ls st) := by
  obtain ⟨hx, hb, hml, hown, ht, hK, hA⟩ := C
  obtain ⟨hP, hD, hS⟩ := hO
  subst hst
  have hF : ∀ q, va_A (w u0) H.size q → A q := fun q h => hD.self' hS hA h
  have hrec := va_recv hK.1 hP hc he
  rw [hq] at hrec
  refine va_calll (va_runV (As := As) (rest := rest) ⟨hx, hb, hml, hown, ht⟩ (hM H.size) cw ⟨pre_blind, hrec, pre_ok (hp := hP) hK hD⟩ rfl hn hls rfl (lv_room hW) hdg hf) hS (fun q _ h => hF q h) hF (fun r u t H1 locs1 ht1 hvm hp hB hz hk hS1 => ?_)
  obtain ⟨hP1, hK1, hD1⟩ := hB
  rw [ht1] at hP1
  exact kk r u H1 locs1 hp ⟨hP1, hD1.weaken (fun _ q _ h => hF q.1 h), hS1⟩
theorem cVv {post : St → Prop} (C : Cx p s m args c cc nL own D cy A) (hO : Wo D A (w u0) s.heap H locs) (hM : Mv l D cy w y (.code y bytes maxL none) rm (.ref b :: As) u0 post)
    (cw : CallW R s args own Cn index y bytes maxL none (.code y bytes maxL none :: gtb) rm 0 0 n) (q0 : Nat) {ci : Nat} {q : vw_C} {fs : List Value} (hc : vwCl[ci]? = some q) (he : (w u0)[q0]? = some (b, .inr (ci, fs))) (hq : q.1 = Cn) (hn : As.length = n) (hls : ls.size = nL) (hW : (rest.map fun v => v.category).sum ≤ 8) (hdg : decode cc pc = .ok (.invokevirtual index, 3)) {st : List Value} (hst : st = As.reverse ++ .ref b :: rest) (hf : cells ≤ R.cells ∧ slots ≤ R.slots)
    (kk : ∀ (u : St) (H : Heap) (locs : List Loc), post u → Wo D A (w u) s.heap H locs → W p l e R s m args below meth c H locs cells slots Q (F0 m (pc + 3) ls rest)) : W p l e R s m args below meth c H locs cells slots Q (F0 m pc ls st) := by
  obtain ⟨hx, hb, hml, hown, ht, hK, hA⟩ := C
  obtain ⟨hP, hD, hS⟩ := hO
  subst hst
  have hF : ∀ q, va_A (w u0) H.size q → A q := fun q h => hD.self' hS hA h
  have hrec := va_recv hK.1 hP hc he
  rw [hq] at hrec
  refine va_callv (va_runV (As := As) (rest := rest) ⟨hx, hb, hml, hown, ht⟩ (hM H.size) cw ⟨pre_blind, hrec, pre_ok (hp := hP) hK hD⟩ rfl hn hls rfl (lv_room hW) hdg hf) hS (fun q _ h => hF q h) hF (fun u t H1 locs1 ht1 hvm hp hB hz hk hS1 => ?_)
  obtain ⟨hP1, hK1, hD1⟩ := hB
  rw [ht1] at hP1
  exact kk u H1 locs1 hp ⟨hP1, hD1.weaken (fun _ q _ h => hF q.1 h), hS1⟩
theorem cSi {ty : FieldType} {post : Int32 → St → Prop} (C : Cx p s m args c cc nL own D cy A) (hO : Wo D A (w u0) s.heap H locs) (hM : Mi l D cy w y (.code y bytes maxL (some ty)) rm As u0 post)
    (cw : CallB R s args own index y bytes maxL (some ty) (.code y bytes maxL (some ty) :: gtb) rm 0 0 n ∧ (Cond.static y).before args s = true) (hn : As.length = n) (hls : ls.size = nL) (hW : (rest.map fun v => v.category).sum ≤ 8) (hdg : decode cc pc = .ok (.invokestatic index, 3)) {st : List Value} (hst : st = As.reverse ++ rest) (hf : cells ≤ R.cells ∧ slots ≤ R.slots)
    (kk : ∀ (r : Int32) (u : St) (H : Heap) (locs : List Loc), post r u → Wo D A (w u) s.heap H locs → W p l e R s m args below meth c H locs cells slots Q (F0 m (pc + 3) ls (.int r :: rest))) : W p l e R s m args below meth c H locs cells slots Q (F0 m pc ls st) := by
  obtain ⟨hx, hb, hml, hown, ht, hK, hA⟩ := C
  obtain ⟨hP, hD, hS⟩ := hO
  subst hst
  have hF : ∀ q, va_A (w u0) H.size q → A q := fun q h => hD.self' hS hA h
  refine va_calli (va_runS (As := As) (rest := rest) ⟨hx, hb, hml, hown, ht⟩ (hM H.size) cw ⟨pre_blind, pre_ok (hp := hP) hK hD⟩ rfl hn hls rfl (lv_room hW) hdg hf) hS (fun q _ h => hF q h) hF (fun r u t H1 locs1 ht1 hvm hp hB hz hk hS1 => ?_)
  obtain ⟨hP1, hK1, hD1⟩ := hB
  rw [ht1] at hP1
  exact kk r u H1 locs1 hp ⟨hP1, hD1.weaken (fun _ q _ h => hF q.1 h), hS1⟩
theorem cSv {post : St → Prop} (C : Cx p s m args c cc nL own D cy A) (hO : Wo D A (w u0) s.heap H locs) (hM : Mv l D cy w y (.code y bytes maxL none) rm As u0 post)
    (cw : CallB R s args own index y bytes maxL none (.code y bytes maxL none :: gtb) rm 0 0 n ∧ (Cond.static y).before args s = true) (hn : As.length = n) (hls : ls.size = nL) (hW : (rest.map fun v => v.category).sum ≤ 8) (hdg : decode cc pc = .ok (.invokestatic index, 3)) {st : List Value} (hst : st = As.reverse ++ rest) (hf : cells ≤ R.cells ∧ slots ≤ R.slots)
    (kk : ∀ (u : St) (H : Heap) (locs : List Loc), post u → Wo D A (w u) s.heap H locs → W p l e R s m args below meth c H locs cells slots Q (F0 m (pc + 3) ls rest)) : W p l e R s m args below meth c H locs cells slots Q (F0 m pc ls st) := by
  obtain ⟨hx, hb, hml, hown, ht, hK, hA⟩ := C
  obtain ⟨hP, hD, hS⟩ := hO
  subst hst
  have hF : ∀ q, va_A (w u0) H.size q → A q := fun q h => hD.self' hS hA h
  refine va_callv (va_runS (As := As) (rest := rest) ⟨hx, hb, hml, hown, ht⟩ (hM H.size) cw ⟨pre_blind, pre_ok (hp := hP) hK hD⟩ rfl hn hls rfl (lv_room hW) hdg hf) hS (fun q _ h => hF q h) hF (fun u t H1 locs1 ht1 hvm hp hB hz hk hS1 => ?_)
  obtain ⟨hP1, hK1, hD1⟩ := hB
  rw [ht1] at hP1
  exact kk u H1 locs1 hp ⟨hP1, hD1.weaken (fun _ q _ h => hF q.1 h), hS1⟩
theorem cNv {host : String} {post : St → Prop} (C : Cx p s m args c cc nL own D cy A) (hO : Wo D A (w u0) s.heap H locs) (hM : Mv l D cy w y (.code y bytes maxL none) rm As u0 post)
    (cw : va_CN R s args own index y host bytes maxL none (.code y bytes maxL none :: gtb) rm 0 0 n ∧ (Cond.static y).before args s = true ∧ True) (hn : As.length = n) (hls : ls.size = nL) (hW : (rest.map fun v => v.category).sum ≤ 8) (hdg : decode cc pc = .ok (.invokestatic index, 3)) {st : List Value} (hst : st = As.reverse ++ rest) (hf : cells ≤ R.cells ∧ slots ≤ R.slots)
    (kk : ∀ (u : St) (H : Heap) (locs : List Loc), post u → Wo D A (w u) s.heap H locs → W p l e R s m args below meth c H locs cells slots Q (F0 m (pc + 3) ls rest)) : W p l e R s m args below meth c H locs cells slots Q (F0 m pc ls st) := by
  obtain ⟨hx, hb, hml, hown, ht, hK, hA⟩ := C
  obtain ⟨hP, hD, hS⟩ := hO
  subst hst
  have hF : ∀ q, va_A (w u0) H.size q → A q := fun q h => hD.self' hS hA h
  refine va_callv (va_runSN (As := As) (rest := rest) ⟨hx, hb, hml, hown, ht⟩ (hM H.size) cw ⟨pre_blind, pre_ok (hp := hP) hK hD⟩ rfl hn hls rfl (lv_room hW) hdg hf) hS (fun q _ h => hF q h) hF (fun u t H1 locs1 ht1 hvm hp hB hz hk hS1 => ?_)
  obtain ⟨hP1, hK1, hD1⟩ := hB
  rw [ht1] at hP1
  exact kk u H1 locs1 hp ⟨hP1, hD1.weaken (fun _ q _ h => hF q.1 h), hS1⟩
end FR
end
section
/-! loads and stores over a world -/
section GA
variable {p : Program} {l : Launch} {e : Env} {R : Room} {s : State} {m : MethodId} {args : Array Value} {below : List Frame} {meth : Method} {c : Code} {H : Heap} {locs : List Loc} {cells slots : Nat} {Q : State → Prop}
variable {cc : ByteArray} {pc nL : Nat} {ls : Array Slot} {rest : List Value} {D : va_G} {cy : Nat → ClassId} {A : Nat → Prop} {own : String} {ws : va_W} {b : Nat}
theorem gF {ci k index : Nat} {T : u_T} {N : Nat} {Cn ref : String} {fs : List Value} {v : Value} (C : Cx p s m args c cc nL own D cy A) (hO : Wo D A ws s.heap H locs) (q0 : Nat) (he : ws[q0]? = some (b, .inr (ci, fs))) (hc : vwCl[ci]? = some (Cn, T, N)) (hin : ∀ w ∈ u_ws Cn T N, w ∈ gtb) (hk : k < N) (hl : Cond.fieldLink own index ref (T k).2.1 (T k).2.2.1 ∈ gtb) (href : (T k).1 = ref) (hv : fs[k]? = some v) (hdg : decode cc pc = .ok (.getfield index, 3))
    (kk : W p l e R s m args below meth c H locs cells slots Q (F0 m (pc + 3) ls (v :: rest))) : W p l e R s m args below meth c H locs cells slots Q (F0 m pc ls (.ref b :: rest)) := by
  obtain ⟨hx, hb, hml, hown, ht, hK, hA⟩ := C
  subst href
  exact va_get hx hb ht hin hown hK.1 hO.1 q0 he hc k hk (ht _ hl) (fun _ h => h) hv hdg kk
theorem pF {ci k index : Nat} {T : u_T} {N : Nat} {Cn ref : String} {fs : List Value} {v : Value} {ws' : va_W} {ty : FieldType} (C : Cx p s m args c cc nL own D cy A) (hO : Wo D A ws s.heap H locs) (q0 : Nat) (he : ws[q0]? = some (b, .inr (ci, fs))) (hc : vwCl[ci]? = some (Cn, T, N)) (hin : ∀ w ∈ u_ws Cn T N, w ∈ gtb) (hk : k < N) (hl : Cond.fieldLink own index ref (T k).2.1 (T k).2.2.1 ∈ gtb) (href : (T k).1 = ref) (ty0 : Nat → FieldType) (hty : ∀ k, k < N → parseFieldDescriptor (T k).2.2.1 = some (ty0 k)) (hnm : ∀ a, a < N → ∀ b, b < N → a ≠ b → (T a).2.1 ≠ (T b).2.1) (hfin : (T k).2.2.2 = false) (hd : parseFieldDescriptor (T k).2.2.1 = some ty) (hn : narrow ty v = v) (hfit : fits ty v = true) (hlen : k < fs.length) (hw : ws.set q0 (b, .inr (ci, fs.set k v)) = ws') (hdg : decode cc pc = .ok (.putfield index, 3))
    (kk : ∀ (H : Heap) (locs : List Loc), Wo D A ws' s.heap H locs → W p l e R s m args below meth c H locs cells slots Q (F0 m (pc + 3) ls rest)) : W p l e R s m args below meth c H locs cells slots Q (F0 m pc ls (v :: .ref b :: rest)) := by
  obtain ⟨hx, hb, hml, hown, ht, hK, hA⟩ := C
  subst href
  exact va_put hx hb ht hin ty0 hty hnm hown hK.1 hO.1 hO.2.1 hO.2.2 q0 he hc k hk (ht _ hl) (fun _ h => h) hfin hd hn hfit hlen hdg (fun H1 locs1 h1 h2 h3 => kk H1 locs1 (by rw [hw] at h1 h2; exact ⟨h1, h2, h3⟩))
theorem aI {n : Nat} {f : Nat → Int32} {i : Int32} (C : Cx p s m args c cc nL own D cy A) (hO : Wo D A ws s.heap H locs) (q0 : Nat) (ha : ws[q0]? = some (b, .inl (cy 1, n, .inl f))) (hin : vp_in i n) (hdg : decode cc pc = .ok (.iaload, 1))
    (kk : W p l e R s m args below meth c H locs cells slots Q (F0 m (pc + 1) ls (.int (f i.toNatClampNeg) :: rest))) : W p l e R s m args below meth c H locs cells slots Q (F0 m pc ls (.int i :: .ref b :: rest)) :=
  va_iald C.1 C.2.1 C.2.2.2.2.2.1.1 hO.1 q0 1 ha rfl hin hdg kk
theorem aB {n : Nat} {f : Nat → Int32} {i : Int32} (C : Cx p s m args c cc nL own D cy A) (hO : Wo D A ws s.heap H locs) (q0 : Nat) (ha : ws[q0]? = some (b, .inl (cy 0, n, .inl f))) (hin : vp_in i n) (hdg : decode cc pc = .ok (.baload, 1))
    (kk : W p l e R s m args below meth c H locs cells slots Q (F0 m (pc + 1) ls (.int (f i.toNatClampNeg) :: rest))) : W p l e R s m args below meth c H locs cells slots Q (F0 m pc ls (.int i :: .ref b :: rest)) :=
  va_bald C.1 C.2.1 C.2.2.2.2.2.1.1 hO.1 q0 0 ha rfl hin hdg kk
theorem aZ {n : Nat} {f : Nat → Int32} {i : Int32} (C : Cx p s m args c cc nL own D cy A) (hO : Wo D A ws s.heap H locs) (q0 : Nat) (ha : ws[q0]? = some (b, .inl (cy 3, n, .inl f))) (hin : vp_in i n) (hdg : decode cc pc = .ok (.baload, 1))
    (kk : W p l e R s m args below meth c H locs cells slots Q (F0 m (pc + 1) ls (.int (f i.toNatClampNeg) :: rest))) : W p l e R s m args below meth c H locs cells slots Q (F0 m pc ls (.int i :: .ref b :: rest)) :=
  va_zald C.1 C.2.1 C.2.2.2.2.2.1.1 hO.1 q0 3 ha rfl hin hdg kk
theorem aJ {n : Nat} {f : Nat → Int64} {i : Int32} (C : Cx p s m args c cc nL own D cy A) (hO : Wo D A ws s.heap H locs) (q0 : Nat) (ha : ws[q0]? = some (b, .inl (cy 2, n, .inr (.inl f)))) (hin : vp_in i n) (hdg : decode cc pc = .ok (.laload, 1))
    (kk : W p l e R s m args below meth c H locs cells slots Q (F0 m (pc + 1) ls (.long (f i.toNatClampNeg) :: rest))) : W p l e R s m args below meth c H locs cells slots Q (F0 m pc ls (.int i :: .ref b :: rest)) :=
  va_lald C.1 C.2.1 C.2.2.2.2.2.1.1 hO.1 q0 2 ha rfl hin hdg kk
theorem aII {n : Nat} {f : Nat → Option Nat} {i : Int32} (C : Cx p s m args c cc nL own D cy A) (hO : Wo D A ws s.heap H locs) (q0 : Nat) (ha : ws[q0]? = some (b, .inl (cy 4, n, .inr (.inr (.inr (.inr f)))))) (hin : vp_in i n) (hdg : decode cc pc = .ok (.aaload, 1))
    (kk : W p l e R s m args below meth c H locs cells slots Q (F0 m (pc + 1) ls (va_rf (f i.toNatClampNeg) :: rest))) : W p l e R s m args below meth c H locs cells slots Q (F0 m pc ls (.int i :: .ref b :: rest)) := by
  have hlt : i.toNatClampNeg < n := Nat.not_le.mp fun q => hin (Or.inr q)
  exact W.aald (v := va_rf (f i.toNatClampNeg)) (ty := .array .int) C.1 C.2.1 (hO.1 q0 _ ha) ((C.2.2.2.2.2.1.1.2 4 _ rfl).1 n (fun j => va_rf (f j))) rfl (fun q => by cases q) (by show ¬ (i < 0 ∨ (arrV _ _ _).slots.size ≤ _); rw [arrV_size]; exact hin) (by show (arrV _ _ _).slots[_]? = _; rw [arrV_read _ _ hlt]) rfl rfl hdg kk
theorem aIs {n : Nat} {f : Nat → Int32} {i x : Int32} {ws' : va_W} (C : Cx p s m args c cc nL own D cy A) (hO : Wo D A ws s.heap H locs) (q0 : Nat) (ha : ws[q0]? = some (b, .inl (cy 1, n, .inl f))) (hin : vp_in i n) (hw : ws.set q0 (b, .inl (cy 1, n, .inl (upd f i.toNatClampNeg x))) = ws') (hdg : decode cc pc = .ok (.iastore, 1))
    (kk : ∀ (H : Heap) (locs : List Loc), Wo D A ws' s.heap H locs → W p l e R s m args below meth c H locs cells slots Q (F0 m (pc + 1) ls rest)) : W p l e R s m args below meth c H locs cells slots Q (F0 m pc ls (.int x :: .int i :: .ref b :: rest)) :=
  va_iast C.1 C.2.1 C.2.2.2.2.2.1.1 hO.1 hO.2.1 hO.2.2 q0 1 ha rfl hin hdg (fun H1 locs1 h1 h2 h3 => kk H1 locs1 (by rw [hw] at h1 h2; exact ⟨h1, h2, h3⟩))
theorem aBs {n : Nat} {f : Nat → Int32} {i x : Int32} {ws' : va_W} (C : Cx p s m args c cc nL own D cy A) (hO : Wo D A ws s.heap H locs) (q0 : Nat) (ha : ws[q0]? = some (b, .inl (cy 0, n, .inl f))) (hin : vp_in i n) (hw : ws.set q0 (b, .inl (cy 0, n, .inl (upd f i.toNatClampNeg (vp_nar .byte x)))) = ws') (hdg : decode cc pc = .ok (.bastore, 1))
    (kk : ∀ (H : Heap) (locs : List Loc), Wo D A ws' s.heap H locs → W p l e R s m args below meth c H locs cells slots Q (F0 m (pc + 1) ls rest)) : W p l e R s m args below meth c H locs cells slots Q (F0 m pc ls (.int x :: .int i :: .ref b :: rest)) :=
  va_bast C.1 C.2.1 C.2.2.2.2.2.1.1 hO.1 hO.2.1 hO.2.2 q0 0 ha rfl hin hdg (fun H1 locs1 h1 h2 h3 => kk H1 locs1 (by rw [hw] at h1 h2; exact ⟨h1, h2, h3⟩))
theorem aZs {n : Nat} {f : Nat → Int32} {i x : Int32} {ws' : va_W} (C : Cx p s m args c cc nL own D cy A) (hO : Wo D A ws s.heap H locs) (q0 : Nat) (ha : ws[q0]? = some (b, .inl (cy 3, n, .inl f))) (hin : vp_in i n) (hw : ws.set q0 (b, .inl (cy 3, n, .inl (upd f i.toNatClampNeg (vp_nar .boolean x)))) = ws') (hdg : decode cc pc = .ok (.bastore, 1))
    (kk : ∀ (H : Heap) (locs : List Loc), Wo D A ws' s.heap H locs → W p l e R s m args below meth c H locs cells slots Q (F0 m (pc + 1) ls rest)) : W p l e R s m args below meth c H locs cells slots Q (F0 m pc ls (.int x :: .int i :: .ref b :: rest)) :=
  va_zast C.1 C.2.1 C.2.2.2.2.2.1.1 hO.1 hO.2.1 hO.2.2 q0 3 ha rfl hin hdg (fun H1 locs1 h1 h2 h3 => kk H1 locs1 (by rw [hw] at h1 h2; exact ⟨h1, h2, h3⟩))
theorem aJs {n : Nat} {f : Nat → Int64} {i : Int32} {x : Int64} {ws' : va_W} (C : Cx p s m args c cc nL own D cy A) (hO : Wo D A ws s.heap H locs) (q0 : Nat) (ha : ws[q0]? = some (b, .inl (cy 2, n, .inr (.inl f)))) (hin : vp_in i n) (hw : ws.set q0 (b, .inl (cy 2, n, .inr (.inl (vp_updL f i.toNatClampNeg x)))) = ws') (hdg : decode cc pc = .ok (.lastore, 1))
    (kk : ∀ (H : Heap) (locs : List Loc), Wo D A ws' s.heap H locs → W p l e R s m args below meth c H locs cells slots Q (F0 m (pc + 1) ls rest)) : W p l e R s m args below meth c H locs cells slots Q (F0 m pc ls (.long x :: .int i :: .ref b :: rest)) :=
  va_last C.1 C.2.1 C.2.2.2.2.2.1.1 hO.1 hO.2.1 hO.2.2 q0 2 ha rfl hin hdg (fun H1 locs1 h1 h2 h3 => kk H1 locs1 (by rw [hw] at h1 h2; exact ⟨h1, h2, h3⟩))
theorem aLen {x : vp_A} {ty : FieldType} {cA : ClassId} {v : Int32} (C : Cx p s m args c cc nL own D cy A) (hO : Wo D A ws s.heap H locs) (q0 t0 : Nat) (ha : ws[q0]? = some (b, .inl (cA, x))) (ht : (tyL cy)[t0]? = some (cA, ty)) (hv : Int32.ofNat x.1 = v) (hdg : decode cc pc = .ok (.arraylength, 1))
    (kk : W p l e R s m args below meth c H locs cells slots Q (F0 m (pc + 1) ls (.int v :: rest))) : W p l e R s m args below meth c H locs cells slots Q (F0 m pc ls (.ref b :: rest)) :=
  va_alen C.1 C.2.1 C.2.2.2.2.2.1.1 hO.1 q0 t0 ha ht hv hdg kk
/-- the value on top by another name -/
theorem tE {x y : Int32} (h : x = y) (kk : W p l e R s m args below meth c H locs cells slots Q (F0 m pc ls (.int y :: rest))) : W p l e R s m args below meth c H locs cells slots Q (F0 m pc ls (.int x :: rest)) := by rw [h]; exact kk
theorem tEv {x y : Value} (h : x = y) (kk : W p l e R s m args below meth c H locs cells slots Q (F0 m pc ls (y :: rest))) : W p l e R s m args below meth c H locs cells slots Q (F0 m pc ls (x :: rest)) := by rw [h]; exact kk
end GA
def cW (cy : Nat → ClassId) (a : Nat → Nat) (u : St) : va_W := [(a 0, .inr (10, [.ref (a 1), .ref (a 27), .ref (a 28), .ref (a 30), .ref (a 32), .ref (a 34), .ref (a 36), .ref (a 39), .ref (a 45), .ref (a 46), .int (fI u 0 10), .int (fI u 0 11), .ref (fR u 1)])), (a 1, .inr (7, [.ref (a 2), .int (fI u 1 1), .int (fI u 1 2), .int (fI u 1 3), .int (fI u 1 4), .long (fL u 1 5), .int (fI u 1 6)])), (a 2, .inl (cy 0, 1600, .inl (fA u 2))), (a 3, .inr (9, [.ref (a 4), .ref (a 5), .ref (a 6), .ref (a 7), .ref (a 8), .ref (a 9), .ref (a 10), .ref (a 11), .ref (a 12), .int (fI u 3 9), .int (fI u 3 10), .int (fI u 3 11), .int (fI u 3 12), .int (fI u 3 13), .int (fI u 3 14), .int (fI u 3 15), .int (fI u 3 16), .int (fI u 3 17)])), (a 4, .inl (cy 2, 8, .inr (.inl (fJ u 4)))), (a 5, .inl (cy 2, 8, .inr (.inl (fJ u 5)))), (a 6, .inl (cy 2, 6, .inr (.inl (fJ u 6)))), (a 7, .inl (cy 1, 14, .inl (fA u 7))), (a 8, .inl (cy 1, 14, .inl (fA u 8))), (a 9, .inl (cy 1, 8, .inl (fA u 9))), (a 10, .inl (cy 1, 6, .inl (fA u 10))), (a 11, .inl (cy 1, 6, .inl (fA u 11))), (a 12, .inr (4, [.ref (a 13), .ref (a 14), .int (fI u 12 2), .int (fI u 12 3), .int (fI u 12 4), .int (fI u 12 5), .int (fI u 12 6), .int (fI u 12 7), .int (fI u 12 8), .int (fI u 12 9), .int (fI u 12 10)])), (a 13, .inl (cy 1, 300, .inl (fA u 13))), (a 14, .inl (cy 1, 31, .inl (fA u 14))), (a 15, .inr (9, [.ref (a 16), .ref (a 17), .ref (a 18), .ref (a 19), .ref (a 20), .ref (a 21), .ref (a 22), .ref (a 23), .ref (a 24), .int (fI u 15 9), .int (fI u 15 10), .int (fI u 15 11), .int (fI u 15 12), .int (fI u 15 13), .int (fI u 15 14), .int (fI u 15 15), .int (fI u 15 16), .int (fI u 15 17)])), (a 16, .inl (cy 2, 8, .inr (.inl (fJ u 16)))), (a 17, .inl (cy 2, 8, .inr (.inl (fJ u 17)))), (a 18, .inl (cy 2, 6, .inr (.inl (fJ u 18)))), (a 19, .inl (cy 1, 14, .inl (fA u 19))), (a 20, .inl (cy 1, 14, .inl (fA u 20))), (a 21, .inl (cy 1, 8, .inl (fA u 21))), (a 22, .inl (cy 1, 6, .inl (fA u 22))), (a 23, .inl (cy 1, 6, .inl (fA u 23))), (a 24, .inr (4, [.ref (a 25), .ref (a 26), .int (fI u 24 2), .int (fI u 24 3), .int (fI u 24 4), .int (fI u 24 5), .int (fI u 24 6), .int (fI u 24 7), .int (fI u 24 8), .int (fI u 24 9), .int (fI u 24 10)])), (a 25, .inl (cy 1, 300, .inl (fA u 25))), (a 26, .inl (cy 1, 31, .inl (fA u 26))), (a 27, .inr (5, [.ref (a 1), .ref (fR u 2), .int (fI u 27 2), .int (fI u 27 3)])), (a 28, .inr (2, [.ref (a 29), .ref (fR u 0)])), (a 29, .inl (cy 1, 29, .inl (fA u 29))), (a 30, .inr (0, [.ref (a 31), .int (fI u 30 1), .int (fI u 30 2), .int (fI u 30 3)])), (a 31, .inl (cy 4, 41, .inr (.inr (.inr (.inr (fun i => if i < 41 then some (a (47 + i)) else none)))))), (a 32, .inr (8, [.ref (a 28), .ref (a 33)])), (a 33, .inl (cy 1, 64, .inl (fA u 33))), (a 34, .inr (6, [.ref (a 28), .ref (a 32), .ref (a 35)])), (a 35, .inl (cy 1, 384, .inl (fA u 35))), (a 36, .inr (1, [.ref (a 28), .ref (a 37), .ref (a 38)])), (a 37, .inl (cy 1, 8, .inl (fA u 37))), (a 38, .inl (cy 1, 8, .inl (fA u 38))), (a 39, .inr (3, [.ref (a 40), .ref (a 41), .ref (a 42), .ref (a 43), .ref (a 44), .int (fI u 39 5), .int (fI u 39 6)])), (a 40, .inl (cy 1, 30, .inl (fA u 40))), (a 41, .inl (cy 1, 30, .inl (fA u 41))), (a 42, .inl (cy 3, 30, .inl (fA u 42))), (a 43, .inl (cy 1, 30, .inl (fA u 43))), (a 44, .inl (cy 1, 30, .inl (fA u 44))), (a 45, .inl (cy 4, 3, .inr (.inr (.inr (.inr (fun i => if i < 3 then some (a (88 + i)) else none)))))), (a 46, .inl (cy 1, 8, .inl (fA u 46)))] ++ (List.range 44).map (fun i => (a (47 + i), .inl (cy 1, 29, .inl (fB u i))))
section
variable {cy : Nat → ClassId} {a : Nat → Nat} {u : St}
theorem cW_0 : (cW cy a u)[0]? = some (a 0, .inr (10, [.ref (a 1), .ref (a 27), .ref (a 28), .ref (a 30), .ref (a 32), .ref (a 34), .ref (a 36), .ref (a 39), .ref (a 45), .ref (a 46), .int (fI u 0 10), .int (fI u 0 11), .ref (fR u 1)])) := rfl
theorem cW_s0_10 {v : Int32} : (cW cy a u).set 0 (a 0, .inr (10, ([.ref (a 1), .ref (a 27), .ref (a 28), .ref (a 30), .ref (a 32), .ref (a 34), .ref (a 36), .ref (a 39), .ref (a 45), .ref (a 46), .int (fI u 0 10), .int (fI u 0 11), .ref (fR u 1)] : List Value).set 10 (.int v))) = cW cy a (sI u 0 10 v) := rfl
theorem cW_s0_11 {v : Int32} : (cW cy a u).set 0 (a 0, .inr (10, ([.ref (a 1), .ref (a 27), .ref (a 28), .ref (a 30), .ref (a 32), .ref (a 34), .ref (a 36), .ref (a 39), .ref (a 45), .ref (a 46), .int (fI u 0 10), .int (fI u 0 11), .ref (fR u 1)] : List Value).set 11 (.int v))) = cW cy a (sI u 0 11 v) := rfl
theorem cW_s0_12 {v : Nat} : (cW cy a u).set 0 (a 0, .inr (10, ([.ref (a 1), .ref (a 27), .ref (a 28), .ref (a 30), .ref (a 32), .ref (a 34), .ref (a 36), .ref (a 39), .ref (a 45), .ref (a 46), .int (fI u 0 10), .int (fI u 0 11), .ref (fR u 1)] : List Value).set 12 (.ref v))) = cW cy a (sR u 1 v) := rfl
theorem cW_1 : (cW cy a u)[1]? = some (a 1, .inr (7, [.ref (a 2), .int (fI u 1 1), .int (fI u 1 2), .int (fI u 1 3), .int (fI u 1 4), .long (fL u 1 5), .int (fI u 1 6)])) := rfl
theorem cW_s1_1 {v : Int32} : (cW cy a u).set 1 (a 1, .inr (7, ([.ref (a 2), .int (fI u 1 1), .int (fI u 1 2), .int (fI u 1 3), .int (fI u 1 4), .long (fL u 1 5), .int (fI u 1 6)] : List Value).set 1 (.int v))) = cW cy a (sI u 1 1 v) := rfl
theorem cW_s1_2 {v : Int32} : (cW cy a u).set 1 (a 1, .inr (7, ([.ref (a 2), .int (fI u 1 1), .int (fI u 1 2), .int (fI u 1 3), .int (fI u 1 4), .long (fL u 1 5), .int (fI u 1 6)] : List Value).set 2 (.int v))) = cW cy a (sI u 1 2 v) := rfl
theorem cW_s1_3 {v : Int32} : (cW cy a u).set 1 (a 1, .inr (7, ([.ref (a 2), .int (fI u 1 1), .int (fI u 1 2), .int (fI u 1 3), .int (fI u 1 4), .long (fL u 1 5), .int (fI u 1 6)] : List Value).set 3 (.int v))) = cW cy a (sI u 1 3 v) := rfl
theorem cW_s1_4 {v : Int32} : (cW cy a u).set 1 (a 1, .inr (7, ([.ref (a 2), .int (fI u 1 1), .int (fI u 1 2), .int (fI u 1 3), .int (fI u 1 4), .long (fL u 1 5), .int (fI u 1 6)] : List Value).set 4 (.int v))) = cW cy a (sI u 1 4 v) := rfl
theorem cW_s1_5 {v : Int64} : (cW cy a u).set 1 (a 1, .inr (7, ([.ref (a 2), .int (fI u 1 1), .int (fI u 1 2), .int (fI u 1 3), .int (fI u 1 4), .long (fL u 1 5), .int (fI u 1 6)] : List Value).set 5 (.long v))) = cW cy a (sL u 1 5 v) := rfl
theorem cW_s1_6 {v : Int32} : (cW cy a u).set 1 (a 1, .inr (7, ([.ref (a 2), .int (fI u 1 1), .int (fI u 1 2), .int (fI u 1 3), .int (fI u 1 4), .long (fL u 1 5), .int (fI u 1 6)] : List Value).set 6 (.int v))) = cW cy a (sI u 1 6 v) := rfl
theorem cW_2 : (cW cy a u)[2]? = some (a 2, .inl (cy 0, 1600, .inl (fA u 2))) := rfl
theorem cW_s2 {f : Nat → Int32} : (cW cy a u).set 2 (a 2, .inl (cy 0, 1600, .inl f)) = cW cy a (sA u 2 f) := rfl
theorem cW_3 : (cW cy a u)[3]? = some (a 3, .inr (9, [.ref (a 4), .ref (a 5), .ref (a 6), .ref (a 7), .ref (a 8), .ref (a 9), .ref (a 10), .ref (a 11), .ref (a 12), .int (fI u 3 9), .int (fI u 3 10), .int (fI u 3 11), .int (fI u 3 12), .int (fI u 3 13), .int (fI u 3 14), .int (fI u 3 15), .int (fI u 3 16), .int (fI u 3 17)])) := rfl
theorem cW_s3_9 {v : Int32} : (cW cy a u).set 3 (a 3, .inr (9, ([.ref (a 4), .ref (a 5), .ref (a 6), .ref (a 7), .ref (a 8), .ref (a 9), .ref (a 10), .ref (a 11), .ref (a 12), .int (fI u 3 9), .int (fI u 3 10), .int (fI u 3 11), .int (fI u 3 12), .int (fI u 3 13), .int (fI u 3 14), .int (fI u 3 15), .int (fI u 3 16), .int (fI u 3 17)] : List Value).set 9 (.int v))) = cW cy a (sI u 3 9 v) := rfl
theorem cW_s3_10 {v : Int32} : (cW cy a u).set 3 (a 3, .inr (9, ([.ref (a 4), .ref (a 5), .ref (a 6), .ref (a 7), .ref (a 8), .ref (a 9), .ref (a 10), .ref (a 11), .ref (a 12), .int (fI u 3 9), .int (fI u 3 10), .int (fI u 3 11), .int (fI u 3 12), .int (fI u 3 13), .int (fI u 3 14), .int (fI u 3 15), .int (fI u 3 16), .int (fI u 3 17)] : List Value).set 10 (.int v))) = cW cy a (sI u 3 10 v) := rfl
theorem cW_s3_11 {v : Int32} : (cW cy a u).set 3 (a 3, .inr (9, ([.ref (a 4), .ref (a 5), .ref (a 6), .ref (a 7), .ref (a 8), .ref (a 9), .ref (a 10), .ref (a 11), .ref (a 12), .int (fI u 3 9), .int (fI u 3 10), .int (fI u 3 11), .int (fI u 3 12), .int (fI u 3 13), .int (fI u 3 14), .int (fI u 3 15), .int (fI u 3 16), .int (fI u 3 17)] : List Value).set 11 (.int v))) = cW cy a (sI u 3 11 v) := rfl
theorem cW_s3_12 {v : Int32} : (cW cy a u).set 3 (a 3, .inr (9, ([.ref (a 4), .ref (a 5), .ref (a 6), .ref (a 7), .ref (a 8), .ref (a 9), .ref (a 10), .ref (a 11), .ref (a 12), .int (fI u 3 9), .int (fI u 3 10), .int (fI u 3 11), .int (fI u 3 12), .int (fI u 3 13), .int (fI u 3 14), .int (fI u 3 15), .int (fI u 3 16), .int (fI u 3 17)] : List Value).set 12 (.int v))) = cW cy a (sI u 3 12 v) := rfl
theorem cW_s3_13 {v : Int32} : (cW cy a u).set 3 (a 3, .inr (9, ([.ref (a 4), .ref (a 5), .ref (a 6), .ref (a 7), .ref (a 8), .ref (a 9), .ref (a 10), .ref (a 11), .ref (a 12), .int (fI u 3 9), .int (fI u 3 10), .int (fI u 3 11), .int (fI u 3 12), .int (fI u 3 13), .int (fI u 3 14), .int (fI u 3 15), .int (fI u 3 16), .int (fI u 3 17)] : List Value).set 13 (.int v))) = cW cy a (sI u 3 13 v) := rfl
theorem cW_s3_14 {v : Int32} : (cW cy a u).set 3 (a 3, .inr (9, ([.ref (a 4), .ref (a 5), .ref (a 6), .ref (a 7), .ref (a 8), .ref (a 9), .ref (a 10), .ref (a 11), .ref (a 12), .int (fI u 3 9), .int (fI u 3 10), .int (fI u 3 11), .int (fI u 3 12), .int (fI u 3 13), .int (fI u 3 14), .int (fI u 3 15), .int (fI u 3 16), .int (fI u 3 17)] : List Value).set 14 (.int v))) = cW cy a (sI u 3 14 v) := rfl
theorem cW_s3_15 {v : Int32} : (cW cy a u).set 3 (a 3, .inr (9, ([.ref (a 4), .ref (a 5), .ref (a 6), .ref (a 7), .ref (a 8), .ref (a 9), .ref (a 10), .ref (a 11), .ref (a 12), .int (fI u 3 9), .int (fI u 3 10), .int (fI u 3 11), .int (fI u 3 12), .int (fI u 3 13), .int (fI u 3 14), .int (fI u 3 15), .int (fI u 3 16), .int (fI u 3 17)] : List Value).set 15 (.int v))) = cW cy a (sI u 3 15 v) := rfl
theorem cW_s3_16 {v : Int32} : (cW cy a u).set 3 (a 3, .inr (9, ([.ref (a 4), .ref (a 5), .ref (a 6), .ref (a 7), .ref (a 8), .ref (a 9), .ref (a 10), .ref (a 11), .ref (a 12), .int (fI u 3 9), .int (fI u 3 10), .int (fI u 3 11), .int (fI u 3 12), .int (fI u 3 13), .int (fI u 3 14), .int (fI u 3 15), .int (fI u 3 16), .int (fI u 3 17)] : List Value).set 16 (.int v))) = cW cy a (sI u 3 16 v) := rfl
theorem cW_s3_17 {v : Int32} : (cW cy a u).set 3 (a 3, .inr (9, ([.ref (a 4), .ref (a 5), .ref (a 6), .ref (a 7), .ref (a 8), .ref (a 9), .ref (a 10), .ref (a 11), .ref (a 12), .int (fI u 3 9), .int (fI u 3 10), .int (fI u 3 11), .int (fI u 3 12), .int (fI u 3 13), .int (fI u 3 14), .int (fI u 3 15), .int (fI u 3 16), .int (fI u 3 17)] : List Value).set 17 (.int v))) = cW cy a (sI u 3 17 v) := rfl
theorem cW_4 : (cW cy a u)[4]? = some (a 4, .inl (cy 2, 8, .inr (.inl (fJ u 4)))) := rfl
theorem cW_s4 {f : Nat → Int64} : (cW cy a u).set 4 (a 4, .inl (cy 2, 8, .inr (.inl f))) = cW cy a (sJ u 4 f) := rfl
theorem cW_5 : (cW cy a u)[5]? = some (a 5, .inl (cy 2, 8, .inr (.inl (fJ u 5)))) := rfl
theorem cW_s5 {f : Nat → Int64} : (cW cy a u).set 5 (a 5, .inl (cy 2, 8, .inr (.inl f))) = cW cy a (sJ u 5 f) := rfl
theorem cW_6 : (cW cy a u)[6]? = some (a 6, .inl (cy 2, 6, .inr (.inl (fJ u 6)))) := rfl
theorem cW_s6 {f : Nat → Int64} : (cW cy a u).set 6 (a 6, .inl (cy 2, 6, .inr (.inl f))) = cW cy a (sJ u 6 f) := rfl
theorem cW_7 : (cW cy a u)[7]? = some (a 7, .inl (cy 1, 14, .inl (fA u 7))) := rfl
theorem cW_s7 {f : Nat → Int32} : (cW cy a u).set 7 (a 7, .inl (cy 1, 14, .inl f)) = cW cy a (sA u 7 f) := rfl
theorem cW_8 : (cW cy a u)[8]? = some (a 8, .inl (cy 1, 14, .inl (fA u 8))) := rfl
theorem cW_s8 {f : Nat → Int32} : (cW cy a u).set 8 (a 8, .inl (cy 1, 14, .inl f)) = cW cy a (sA u 8 f) := rfl
theorem cW_9 : (cW cy a u)[9]? = some (a 9, .inl (cy 1, 8, .inl (fA u 9))) := rfl
theorem cW_s9 {f : Nat → Int32} : (cW cy a u).set 9 (a 9, .inl (cy 1, 8, .inl f)) = cW cy a (sA u 9 f) := rfl
theorem cW_10 : (cW cy a u)[10]? = some (a 10, .inl (cy 1, 6, .inl (fA u 10))) := rfl
theorem cW_s10 {f : Nat → Int32} : (cW cy a u).set 10 (a 10, .inl (cy 1, 6, .inl f)) = cW cy a (sA u 10 f) := rfl
theorem cW_11 : (cW cy a u)[11]? = some (a 11, .inl (cy 1, 6, .inl (fA u 11))) := rfl
theorem cW_s11 {f : Nat → Int32} : (cW cy a u).set 11 (a 11, .inl (cy 1, 6, .inl f)) = cW cy a (sA u 11 f) := rfl
theorem cW_12 : (cW cy a u)[12]? = some (a 12, .inr (4, [.ref (a 13), .ref (a 14), .int (fI u 12 2), .int (fI u 12 3), .int (fI u 12 4), .int (fI u 12 5), .int (fI u 12 6), .int (fI u 12 7), .int (fI u 12 8), .int (fI u 12 9), .int (fI u 12 10)])) := rfl
theorem cW_s12_2 {v : Int32} : (cW cy a u).set 12 (a 12, .inr (4, ([.ref (a 13), .ref (a 14), .int (fI u 12 2), .int (fI u 12 3), .int (fI u 12 4), .int (fI u 12 5), .int (fI u 12 6), .int (fI u 12 7), .int (fI u 12 8), .int (fI u 12 9), .int (fI u 12 10)] : List Value).set 2 (.int v))) = cW cy a (sI u 12 2 v) := rfl
theorem cW_s12_3 {v : Int32} : (cW cy a u).set 12 (a 12, .inr (4, ([.ref (a 13), .ref (a 14), .int (fI u 12 2), .int (fI u 12 3), .int (fI u 12 4), .int (fI u 12 5), .int (fI u 12 6), .int (fI u 12 7), .int (fI u 12 8), .int (fI u 12 9), .int (fI u 12 10)] : List Value).set 3 (.int v))) = cW cy a (sI u 12 3 v) := rfl
theorem cW_s12_4 {v : Int32} : (cW cy a u).set 12 (a 12, .inr (4, ([.ref (a 13), .ref (a 14), .int (fI u 12 2), .int (fI u 12 3), .int (fI u 12 4), .int (fI u 12 5), .int (fI u 12 6), .int (fI u 12 7), .int (fI u 12 8), .int (fI u 12 9), .int (fI u 12 10)] : List Value).set 4 (.int v))) = cW cy a (sI u 12 4 v) := rfl
theorem cW_s12_5 {v : Int32} : (cW cy a u).set 12 (a 12, .inr (4, ([.ref (a 13), .ref (a 14), .int (fI u 12 2), .int (fI u 12 3), .int (fI u 12 4), .int (fI u 12 5), .int (fI u 12 6), .int (fI u 12 7), .int (fI u 12 8), .int (fI u 12 9), .int (fI u 12 10)] : List Value).set 5 (.int v))) = cW cy a (sI u 12 5 v) := rfl
theorem cW_s12_6 {v : Int32} : (cW cy a u).set 12 (a 12, .inr (4, ([.ref (a 13), .ref (a 14), .int (fI u 12 2), .int (fI u 12 3), .int (fI u 12 4), .int (fI u 12 5), .int (fI u 12 6), .int (fI u 12 7), .int (fI u 12 8), .int (fI u 12 9), .int (fI u 12 10)] : List Value).set 6 (.int v))) = cW cy a (sI u 12 6 v) := rfl
theorem cW_s12_7 {v : Int32} : (cW cy a u).set 12 (a 12, .inr (4, ([.ref (a 13), .ref (a 14), .int (fI u 12 2), .int (fI u 12 3), .int (fI u 12 4), .int (fI u 12 5), .int (fI u 12 6), .int (fI u 12 7), .int (fI u 12 8), .int (fI u 12 9), .int (fI u 12 10)] : List Value).set 7 (.int v))) = cW cy a (sI u 12 7 v) := rfl
theorem cW_s12_8 {v : Int32} : (cW cy a u).set 12 (a 12, .inr (4, ([.ref (a 13), .ref (a 14), .int (fI u 12 2), .int (fI u 12 3), .int (fI u 12 4), .int (fI u 12 5), .int (fI u 12 6), .int (fI u 12 7), .int (fI u 12 8), .int (fI u 12 9), .int (fI u 12 10)] : List Value).set 8 (.int v))) = cW cy a (sI u 12 8 v) := rfl
theorem cW_s12_9 {v : Int32} : (cW cy a u).set 12 (a 12, .inr (4, ([.ref (a 13), .ref (a 14), .int (fI u 12 2), .int (fI u 12 3), .int (fI u 12 4), .int (fI u 12 5), .int (fI u 12 6), .int (fI u 12 7), .int (fI u 12 8), .int (fI u 12 9), .int (fI u 12 10)] : List Value).set 9 (.int v))) = cW cy a (sI u 12 9 v) := rfl
theorem cW_s12_10 {v : Int32} : (cW cy a u).set 12 (a 12, .inr (4, ([.ref (a 13), .ref (a 14), .int (fI u 12 2), .int (fI u 12 3), .int (fI u 12 4), .int (fI u 12 5), .int (fI u 12 6), .int (fI u 12 7), .int (fI u 12 8), .int (fI u 12 9), .int (fI u 12 10)] : List Value).set 10 (.int v))) = cW cy a (sI u 12 10 v) := rfl
theorem cW_13 : (cW cy a u)[13]? = some (a 13, .inl (cy 1, 300, .inl (fA u 13))) := rfl
theorem cW_s13 {f : Nat → Int32} : (cW cy a u).set 13 (a 13, .inl (cy 1, 300, .inl f)) = cW cy a (sA u 13 f) := rfl
theorem cW_14 : (cW cy a u)[14]? = some (a 14, .inl (cy 1, 31, .inl (fA u 14))) := rfl
theorem cW_s14 {f : Nat → Int32} : (cW cy a u).set 14 (a 14, .inl (cy 1, 31, .inl f)) = cW cy a (sA u 14 f) := rfl
theorem cW_15 : (cW cy a u)[15]? = some (a 15, .inr (9, [.ref (a 16), .ref (a 17), .ref (a 18), .ref (a 19), .ref (a 20), .ref (a 21), .ref (a 22), .ref (a 23), .ref (a 24), .int (fI u 15 9), .int (fI u 15 10), .int (fI u 15 11), .int (fI u 15 12), .int (fI u 15 13), .int (fI u 15 14), .int (fI u 15 15), .int (fI u 15 16), .int (fI u 15 17)])) := rfl
theorem cW_s15_9 {v : Int32} : (cW cy a u).set 15 (a 15, .inr (9, ([.ref (a 16), .ref (a 17), .ref (a 18), .ref (a 19), .ref (a 20), .ref (a 21), .ref (a 22), .ref (a 23), .ref (a 24), .int (fI u 15 9), .int (fI u 15 10), .int (fI u 15 11), .int (fI u 15 12), .int (fI u 15 13), .int (fI u 15 14), .int (fI u 15 15), .int (fI u 15 16), .int (fI u 15 17)] : List Value).set 9 (.int v))) = cW cy a (sI u 15 9 v) := rfl
theorem cW_s15_10 {v : Int32} : (cW cy a u).set 15 (a 15, .inr (9, ([.ref (a 16), .ref (a 17), .ref (a 18), .ref (a 19), .ref (a 20), .ref (a 21), .ref (a 22), .ref (a 23), .ref (a 24), .int (fI u 15 9), .int (fI u 15 10), .int (fI u 15 11), .int (fI u 15 12), .int (fI u 15 13), .int (fI u 15 14), .int (fI u 15 15), .int (fI u 15 16), .int (fI u 15 17)] : List Value).set 10 (.int v))) = cW cy a (sI u 15 10 v) := rfl
theorem cW_s15_11 {v : Int32} : (cW cy a u).set 15 (a 15, .inr (9, ([.ref (a 16), .ref (a 17), .ref (a 18), .ref (a 19), .ref (a 20), .ref (a 21), .ref (a 22), .ref (a 23), .ref (a 24), .int (fI u 15 9), .int (fI u 15 10), .int (fI u 15 11), .int (fI u 15 12), .int (fI u 15 13), .int (fI u 15 14), .int (fI u 15 15), .int (fI u 15 16), .int (fI u 15 17)] : List Value).set 11 (.int v))) = cW cy a (sI u 15 11 v) := rfl
theorem cW_s15_12 {v : Int32} : (cW cy a u).set 15 (a 15, .inr (9, ([.ref (a 16), .ref (a 17), .ref (a 18), .ref (a 19), .ref (a 20), .ref (a 21), .ref (a 22), .ref (a 23), .ref (a 24), .int (fI u 15 9), .int (fI u 15 10), .int (fI u 15 11), .int (fI u 15 12), .int (fI u 15 13), .int (fI u 15 14), .int (fI u 15 15), .int (fI u 15 16), .int (fI u 15 17)] : List Value).set 12 (.int v))) = cW cy a (sI u 15 12 v) := rfl
theorem cW_s15_13 {v : Int32} : (cW cy a u).set 15 (a 15, .inr (9, ([.ref (a 16), .ref (a 17), .ref (a 18), .ref (a 19), .ref (a 20), .ref (a 21), .ref (a 22), .ref (a 23), .ref (a 24), .int (fI u 15 9), .int (fI u 15 10), .int (fI u 15 11), .int (fI u 15 12), .int (fI u 15 13), .int (fI u 15 14), .int (fI u 15 15), .int (fI u 15 16), .int (fI u 15 17)] : List Value).set 13 (.int v))) = cW cy a (sI u 15 13 v) := rfl
theorem cW_s15_14 {v : Int32} : (cW cy a u).set 15 (a 15, .inr (9, ([.ref (a 16), .ref (a 17), .ref (a 18), .ref (a 19), .ref (a 20), .ref (a 21), .ref (a 22), .ref (a 23), .ref (a 24), .int (fI u 15 9), .int (fI u 15 10), .int (fI u 15 11), .int (fI u 15 12), .int (fI u 15 13), .int (fI u 15 14), .int (fI u 15 15), .int (fI u 15 16), .int (fI u 15 17)] : List Value).set 14 (.int v))) = cW cy a (sI u 15 14 v) := rfl
theorem cW_s15_15 {v : Int32} : (cW cy a u).set 15 (a 15, .inr (9, ([.ref (a 16), .ref (a 17), .ref (a 18), .ref (a 19), .ref (a 20), .ref (a 21), .ref (a 22), .ref (a 23), .ref (a 24), .int (fI u 15 9), .int (fI u 15 10), .int (fI u 15 11), .int (fI u 15 12), .int (fI u 15 13), .int (fI u 15 14), .int (fI u 15 15), .int (fI u 15 16), .int (fI u 15 17)] : List Value).set 15 (.int v))) = cW cy a (sI u 15 15 v) := rfl
theorem cW_s15_16 {v : Int32} : (cW cy a u).set 15 (a 15, .inr (9, ([.ref (a 16), .ref (a 17), .ref (a 18), .ref (a 19), .ref (a 20), .ref (a 21), .ref (a 22), .ref (a 23), .ref (a 24), .int (fI u 15 9), .int (fI u 15 10), .int (fI u 15 11), .int (fI u 15 12), .int (fI u 15 13), .int (fI u 15 14), .int (fI u 15 15), .int (fI u 15 16), .int (fI u 15 17)] : List Value).set 16 (.int v))) = cW cy a (sI u 15 16 v) := rfl
theorem cW_s15_17 {v : Int32} : (cW cy a u).set 15 (a 15, .inr (9, ([.ref (a 16), .ref (a 17), .ref (a 18), .ref (a 19), .ref (a 20), .ref (a 21), .ref (a 22), .ref (a 23), .ref (a 24), .int (fI u 15 9), .int (fI u 15 10), .int (fI u 15 11), .int (fI u 15 12), .int (fI u 15 13), .int (fI u 15 14), .int (fI u 15 15), .int (fI u 15 16), .int (fI u 15 17)] : List Value).set 17 (.int v))) = cW cy a (sI u 15 17 v) := rfl
theorem cW_16 : (cW cy a u)[16]? = some (a 16, .inl (cy 2, 8, .inr (.inl (fJ u 16)))) := rfl
theorem cW_s16 {f : Nat → Int64} : (cW cy a u).set 16 (a 16, .inl (cy 2, 8, .inr (.inl f))) = cW cy a (sJ u 16 f) := rfl
theorem cW_17 : (cW cy a u)[17]? = some (a 17, .inl (cy 2, 8, .inr (.inl (fJ u 17)))) := rfl
theorem cW_s17 {f : Nat → Int64} : (cW cy a u).set 17 (a 17, .inl (cy 2, 8, .inr (.inl f))) = cW cy a (sJ u 17 f) := rfl
theorem cW_18 : (cW cy a u)[18]? = some (a 18, .inl (cy 2, 6, .inr (.inl (fJ u 18)))) := rfl
theorem cW_s18 {f : Nat → Int64} : (cW cy a u).set 18 (a 18, .inl (cy 2, 6, .inr (.inl f))) = cW cy a (sJ u 18 f) := rfl
theorem cW_19 : (cW cy a u)[19]? = some (a 19, .inl (cy 1, 14, .inl (fA u 19))) := rfl
theorem cW_s19 {f : Nat → Int32} : (cW cy a u).set 19 (a 19, .inl (cy 1, 14, .inl f)) = cW cy a (sA u 19 f) := rfl
theorem cW_20 : (cW cy a u)[20]? = some (a 20, .inl (cy 1, 14, .inl (fA u 20))) := rfl
theorem cW_s20 {f : Nat → Int32} : (cW cy a u).set 20 (a 20, .inl (cy 1, 14, .inl f)) = cW cy a (sA u 20 f) := rfl
theorem cW_21 : (cW cy a u)[21]? = some (a 21, .inl (cy 1, 8, .inl (fA u 21))) := rfl
theorem cW_s21 {f : Nat → Int32} : (cW cy a u).set 21 (a 21, .inl (cy 1, 8, .inl f)) = cW cy a (sA u 21 f) := rfl
theorem cW_22 : (cW cy a u)[22]? = some (a 22, .inl (cy 1, 6, .inl (fA u 22))) := rfl
theorem cW_s22 {f : Nat → Int32} : (cW cy a u).set 22 (a 22, .inl (cy 1, 6, .inl f)) = cW cy a (sA u 22 f) := rfl
theorem cW_23 : (cW cy a u)[23]? = some (a 23, .inl (cy 1, 6, .inl (fA u 23))) := rfl
theorem cW_s23 {f : Nat → Int32} : (cW cy a u).set 23 (a 23, .inl (cy 1, 6, .inl f)) = cW cy a (sA u 23 f) := rfl
theorem cW_24 : (cW cy a u)[24]? = some (a 24, .inr (4, [.ref (a 25), .ref (a 26), .int (fI u 24 2), .int (fI u 24 3), .int (fI u 24 4), .int (fI u 24 5), .int (fI u 24 6), .int (fI u 24 7), .int (fI u 24 8), .int (fI u 24 9), .int (fI u 24 10)])) := rfl
theorem cW_s24_2 {v : Int32} : (cW cy a u).set 24 (a 24, .inr (4, ([.ref (a 25), .ref (a 26), .int (fI u 24 2), .int (fI u 24 3), .int (fI u 24 4), .int (fI u 24 5), .int (fI u 24 6), .int (fI u 24 7), .int (fI u 24 8), .int (fI u 24 9), .int (fI u 24 10)] : List Value).set 2 (.int v))) = cW cy a (sI u 24 2 v) := rfl
theorem cW_s24_3 {v : Int32} : (cW cy a u).set 24 (a 24, .inr (4, ([.ref (a 25), .ref (a 26), .int (fI u 24 2), .int (fI u 24 3), .int (fI u 24 4), .int (fI u 24 5), .int (fI u 24 6), .int (fI u 24 7), .int (fI u 24 8), .int (fI u 24 9), .int (fI u 24 10)] : List Value).set 3 (.int v))) = cW cy a (sI u 24 3 v) := rfl
theorem cW_s24_4 {v : Int32} : (cW cy a u).set 24 (a 24, .inr (4, ([.ref (a 25), .ref (a 26), .int (fI u 24 2), .int (fI u 24 3), .int (fI u 24 4), .int (fI u 24 5), .int (fI u 24 6), .int (fI u 24 7), .int (fI u 24 8), .int (fI u 24 9), .int (fI u 24 10)] : List Value).set 4 (.int v))) = cW cy a (sI u 24 4 v) := rfl
theorem cW_s24_5 {v : Int32} : (cW cy a u).set 24 (a 24, .inr (4, ([.ref (a 25), .ref (a 26), .int (fI u 24 2), .int (fI u 24 3), .int (fI u 24 4), .int (fI u 24 5), .int (fI u 24 6), .int (fI u 24 7), .int (fI u 24 8), .int (fI u 24 9), .int (fI u 24 10)] : List Value).set 5 (.int v))) = cW cy a (sI u 24 5 v) := rfl
theorem cW_s24_6 {v : Int32} : (cW cy a u).set 24 (a 24, .inr (4, ([.ref (a 25), .ref (a 26), .int (fI u 24 2), .int (fI u 24 3), .int (fI u 24 4), .int (fI u 24 5), .int (fI u 24 6), .int (fI u 24 7), .int (fI u 24 8), .int (fI u 24 9), .int (fI u 24 10)] : List Value).set 6 (.int v))) = cW cy a (sI u 24 6 v) := rfl
theorem cW_s24_7 {v : Int32} : (cW cy a u).set 24 (a 24, .inr (4, ([.ref (a 25), .ref (a 26), .int (fI u 24 2), .int (fI u 24 3), .int (fI u 24 4), .int (fI u 24 5), .int (fI u 24 6), .int (fI u 24 7), .int (fI u 24 8), .int (fI u 24 9), .int (fI u 24 10)] : List Value).set 7 (.int v))) = cW cy a (sI u 24 7 v) := rfl
theorem cW_s24_8 {v : Int32} : (cW cy a u).set 24 (a 24, .inr (4, ([.ref (a 25), .ref (a 26), .int (fI u 24 2), .int (fI u 24 3), .int (fI u 24 4), .int (fI u 24 5), .int (fI u 24 6), .int (fI u 24 7), .int (fI u 24 8), .int (fI u 24 9), .int (fI u 24 10)] : List Value).set 8 (.int v))) = cW cy a (sI u 24 8 v) := rfl
theorem cW_s24_9 {v : Int32} : (cW cy a u).set 24 (a 24, .inr (4, ([.ref (a 25), .ref (a 26), .int (fI u 24 2), .int (fI u 24 3), .int (fI u 24 4), .int (fI u 24 5), .int (fI u 24 6), .int (fI u 24 7), .int (fI u 24 8), .int (fI u 24 9), .int (fI u 24 10)] : List Value).set 9 (.int v))) = cW cy a (sI u 24 9 v) := rfl
theorem cW_s24_10 {v : Int32} : (cW cy a u).set 24 (a 24, .inr (4, ([.ref (a 25), .ref (a 26), .int (fI u 24 2), .int (fI u 24 3), .int (fI u 24 4), .int (fI u 24 5), .int (fI u 24 6), .int (fI u 24 7), .int (fI u 24 8), .int (fI u 24 9), .int (fI u 24 10)] : List Value).set 10 (.int v))) = cW cy a (sI u 24 10 v) := rfl
theorem cW_25 : (cW cy a u)[25]? = some (a 25, .inl (cy 1, 300, .inl (fA u 25))) := rfl
theorem cW_s25 {f : Nat → Int32} : (cW cy a u).set 25 (a 25, .inl (cy 1, 300, .inl f)) = cW cy a (sA u 25 f) := rfl
theorem cW_26 : (cW cy a u)[26]? = some (a 26, .inl (cy 1, 31, .inl (fA u 26))) := rfl
theorem cW_s26 {f : Nat → Int32} : (cW cy a u).set 26 (a 26, .inl (cy 1, 31, .inl f)) = cW cy a (sA u 26 f) := rfl
theorem cW_27 : (cW cy a u)[27]? = some (a 27, .inr (5, [.ref (a 1), .ref (fR u 2), .int (fI u 27 2), .int (fI u 27 3)])) := rfl
theorem cW_s27_1 {v : Nat} : (cW cy a u).set 27 (a 27, .inr (5, ([.ref (a 1), .ref (fR u 2), .int (fI u 27 2), .int (fI u 27 3)] : List Value).set 1 (.ref v))) = cW cy a (sR u 2 v) := rfl
theorem cW_s27_2 {v : Int32} : (cW cy a u).set 27 (a 27, .inr (5, ([.ref (a 1), .ref (fR u 2), .int (fI u 27 2), .int (fI u 27 3)] : List Value).set 2 (.int v))) = cW cy a (sI u 27 2 v) := rfl
theorem cW_s27_3 {v : Int32} : (cW cy a u).set 27 (a 27, .inr (5, ([.ref (a 1), .ref (fR u 2), .int (fI u 27 2), .int (fI u 27 3)] : List Value).set 3 (.int v))) = cW cy a (sI u 27 3 v) := rfl
theorem cW_28 : (cW cy a u)[28]? = some (a 28, .inr (2, [.ref (a 29), .ref (fR u 0)])) := rfl
theorem cW_s28_1 {v : Nat} : (cW cy a u).set 28 (a 28, .inr (2, ([.ref (a 29), .ref (fR u 0)] : List Value).set 1 (.ref v))) = cW cy a (sR u 0 v) := rfl
theorem cW_29 : (cW cy a u)[29]? = some (a 29, .inl (cy 1, 29, .inl (fA u 29))) := rfl
theorem cW_s29 {f : Nat → Int32} : (cW cy a u).set 29 (a 29, .inl (cy 1, 29, .inl f)) = cW cy a (sA u 29 f) := rfl
theorem cW_30 : (cW cy a u)[30]? = some (a 30, .inr (0, [.ref (a 31), .int (fI u 30 1), .int (fI u 30 2), .int (fI u 30 3)])) := rfl
theorem cW_s30_1 {v : Int32} : (cW cy a u).set 30 (a 30, .inr (0, ([.ref (a 31), .int (fI u 30 1), .int (fI u 30 2), .int (fI u 30 3)] : List Value).set 1 (.int v))) = cW cy a (sI u 30 1 v) := rfl
theorem cW_s30_2 {v : Int32} : (cW cy a u).set 30 (a 30, .inr (0, ([.ref (a 31), .int (fI u 30 1), .int (fI u 30 2), .int (fI u 30 3)] : List Value).set 2 (.int v))) = cW cy a (sI u 30 2 v) := rfl
theorem cW_s30_3 {v : Int32} : (cW cy a u).set 30 (a 30, .inr (0, ([.ref (a 31), .int (fI u 30 1), .int (fI u 30 2), .int (fI u 30 3)] : List Value).set 3 (.int v))) = cW cy a (sI u 30 3 v) := rfl
theorem cW_31 : (cW cy a u)[31]? = some (a 31, .inl (cy 4, 41, .inr (.inr (.inr (.inr (fun i => if i < 41 then some (a (47 + i)) else none)))))) := rfl
theorem cW_32 : (cW cy a u)[32]? = some (a 32, .inr (8, [.ref (a 28), .ref (a 33)])) := rfl
theorem cW_33 : (cW cy a u)[33]? = some (a 33, .inl (cy 1, 64, .inl (fA u 33))) := rfl
theorem cW_s33 {f : Nat → Int32} : (cW cy a u).set 33 (a 33, .inl (cy 1, 64, .inl f)) = cW cy a (sA u 33 f) := rfl
theorem cW_34 : (cW cy a u)[34]? = some (a 34, .inr (6, [.ref (a 28), .ref (a 32), .ref (a 35)])) := rfl
theorem cW_35 : (cW cy a u)[35]? = some (a 35, .inl (cy 1, 384, .inl (fA u 35))) := rfl
theorem cW_s35 {f : Nat → Int32} : (cW cy a u).set 35 (a 35, .inl (cy 1, 384, .inl f)) = cW cy a (sA u 35 f) := rfl
theorem cW_36 : (cW cy a u)[36]? = some (a 36, .inr (1, [.ref (a 28), .ref (a 37), .ref (a 38)])) := rfl
theorem cW_37 : (cW cy a u)[37]? = some (a 37, .inl (cy 1, 8, .inl (fA u 37))) := rfl
theorem cW_s37 {f : Nat → Int32} : (cW cy a u).set 37 (a 37, .inl (cy 1, 8, .inl f)) = cW cy a (sA u 37 f) := rfl
theorem cW_38 : (cW cy a u)[38]? = some (a 38, .inl (cy 1, 8, .inl (fA u 38))) := rfl
theorem cW_s38 {f : Nat → Int32} : (cW cy a u).set 38 (a 38, .inl (cy 1, 8, .inl f)) = cW cy a (sA u 38 f) := rfl
theorem cW_39 : (cW cy a u)[39]? = some (a 39, .inr (3, [.ref (a 40), .ref (a 41), .ref (a 42), .ref (a 43), .ref (a 44), .int (fI u 39 5), .int (fI u 39 6)])) := rfl
theorem cW_s39_5 {v : Int32} : (cW cy a u).set 39 (a 39, .inr (3, ([.ref (a 40), .ref (a 41), .ref (a 42), .ref (a 43), .ref (a 44), .int (fI u 39 5), .int (fI u 39 6)] : List Value).set 5 (.int v))) = cW cy a (sI u 39 5 v) := rfl
theorem cW_s39_6 {v : Int32} : (cW cy a u).set 39 (a 39, .inr (3, ([.ref (a 40), .ref (a 41), .ref (a 42), .ref (a 43), .ref (a 44), .int (fI u 39 5), .int (fI u 39 6)] : List Value).set 6 (.int v))) = cW cy a (sI u 39 6 v) := rfl
theorem cW_40 : (cW cy a u)[40]? = some (a 40, .inl (cy 1, 30, .inl (fA u 40))) := rfl
theorem cW_s40 {f : Nat → Int32} : (cW cy a u).set 40 (a 40, .inl (cy 1, 30, .inl f)) = cW cy a (sA u 40 f) := rfl
theorem cW_41 : (cW cy a u)[41]? = some (a 41, .inl (cy 1, 30, .inl (fA u 41))) := rfl
theorem cW_s41 {f : Nat → Int32} : (cW cy a u).set 41 (a 41, .inl (cy 1, 30, .inl f)) = cW cy a (sA u 41 f) := rfl
theorem cW_42 : (cW cy a u)[42]? = some (a 42, .inl (cy 3, 30, .inl (fA u 42))) := rfl
theorem cW_s42 {f : Nat → Int32} : (cW cy a u).set 42 (a 42, .inl (cy 3, 30, .inl f)) = cW cy a (sA u 42 f) := rfl
theorem cW_43 : (cW cy a u)[43]? = some (a 43, .inl (cy 1, 30, .inl (fA u 43))) := rfl
theorem cW_s43 {f : Nat → Int32} : (cW cy a u).set 43 (a 43, .inl (cy 1, 30, .inl f)) = cW cy a (sA u 43 f) := rfl
theorem cW_44 : (cW cy a u)[44]? = some (a 44, .inl (cy 1, 30, .inl (fA u 44))) := rfl
theorem cW_s44 {f : Nat → Int32} : (cW cy a u).set 44 (a 44, .inl (cy 1, 30, .inl f)) = cW cy a (sA u 44 f) := rfl
theorem cW_45 : (cW cy a u)[45]? = some (a 45, .inl (cy 4, 3, .inr (.inr (.inr (.inr (fun i => if i < 3 then some (a (88 + i)) else none)))))) := rfl
theorem cW_46 : (cW cy a u)[46]? = some (a 46, .inl (cy 1, 8, .inl (fA u 46))) := rfl
theorem cW_s46 {f : Nat → Int32} : (cW cy a u).set 46 (a 46, .inl (cy 1, 8, .inl f)) = cW cy a (sA u 46 f) := rfl
theorem cW_row {k : Nat} (h : k < 44) : (cW cy a u)[47 + k]? = some (a (47 + k), .inl (cy 1, 29, .inl (fB u k))) := by
  unfold cW
  rw [List.getElem?_append_right (by show 47 ≤ 47 + k; omega)]
  show ((List.range 44).map _)[47 + k - 47]? = _
  rw [show 47 + k - 47 = k by omega, List.getElem?_map, List.getElem?_range h]
  rfl
theorem cW_srow {k : Nat} (h : k < 44) {f : Nat → Int32} : (cW cy a u).set (47 + k) (a (47 + k), .inl (cy 1, 29, .inl f)) = cW cy a (sB u k f) := by
  unfold cW
  rw [List.set_append_right _ _ (by show 47 ≤ 47 + k; omega)]
  show _ ++ ((List.range 44).map _).set (47 + k - 47) _ = _
  rw [show 47 + k - 47 = k by omega]
  show _ ++ _ = _ ++ _
  refine congr (congrArg _ rfl) ?_
  apply List.ext_getElem?
  intro j
  by_cases hj : j = k
  · subst hj
    rw [List.getElem?_set_self (by rw [List.length_map, List.length_range]; exact h), List.getElem?_map, List.getElem?_range h]
    show _ = some (_, Sum.inl (_, _, Sum.inl (va_up _ _ _ _)))
    rw [va_up_self]
  · rw [List.getElem?_set_ne (fun q => hj q.symm), List.getElem?_map, List.getElem?_map]
    by_cases hl : j < 44
    · rw [List.getElem?_range hl]
      show some _ = some (_, Sum.inl (_, _, Sum.inl (va_up _ _ _ _)))
      rw [va_up_ne _ _ hj]
    · rw [List.getElem?_eq_none (by rw [List.length_range]; omega)]
      rfl
end
def mW (cy : Nat → ClassId) (a : Nat → Nat) (u : St) : va_W := [(a 0, .inr (11, [.ref (a 1), .ref (a 2), .int (fI u 0 2), .int (fI u 0 3), .int (fI u 0 4), .int (fI u 0 5), .int (fI u 0 6), .int (fI u 0 7), .int (fI u 0 8), .int (fI u 0 9), .long (fL u 0 10), .ref (a 3), .ref (a 4), .ref (a 5), .ref (a 6), .ref (a 7), .ref (a 8), .ref (a 9), .ref (a 10), .ref (a 11), .ref (a 12), .ref (a 13), .ref (a 14), .ref (a 15), .ref (a 16), .ref (a 17), .ref (a 18), .ref (a 19), .ref (a 20), .ref (a 21), .ref (a 22), .ref (a 23), .ref (a 24), .ref (a 25), .ref (a 26), .ref (a 27), .int (fI u 0 36), .int (fI u 0 37), .int (fI u 0 38), .int (fI u 0 39), .int (fI u 0 40), .int (fI u 0 41), .int (fI u 0 42), .int (fI u 0 43), .ref (a 28), .int (fI u 0 45), .ref (a 29), .int (fI u 0 47), .int (fI u 0 48), .ref (a 30), .int (fI u 0 50), .ref (a 31), .ref (a 32), .ref (a 33), .ref (a 34), .ref (a 35), .ref (a 36), .ref (a 37), .ref (a 38), .ref (a 39), .ref (a 40), .int (fI u 0 61), .int (fI u 0 62), .ref (a 41), .ref (a 42)])), (a 1, .inl (cy 0, 1620, .inl (fA u 1))), (a 2, .inl (cy 0, 1600, .inl (fA u 2))), (a 3, .inl (cy 1, 2, .inl (fA u 3))), (a 4, .inl (cy 1, 2, .inl (fA u 4))), (a 5, .inl (cy 1, 2, .inl (fA u 5))), (a 6, .inl (cy 1, 2, .inl (fA u 6))), (a 7, .inl (cy 1, 2, .inl (fA u 7))), (a 8, .inl (cy 1, 2, .inl (fA u 8))), (a 9, .inl (cy 1, 2, .inl (fA u 9))), (a 10, .inl (cy 1, 2, .inl (fA u 10))), (a 11, .inl (cy 1, 2, .inl (fA u 11))), (a 12, .inl (cy 1, 2, .inl (fA u 12))), (a 13, .inl (cy 1, 28, .inl (fA u 13))), (a 14, .inl (cy 1, 28, .inl (fA u 14))), (a 15, .inl (cy 1, 16, .inl (fA u 15))), (a 16, .inl (cy 1, 12, .inl (fA u 16))), (a 17, .inl (cy 1, 12, .inl (fA u 17))), (a 18, .inl (cy 1, 2, .inl (fA u 18))), (a 19, .inl (cy 1, 2, .inl (fA u 19))), (a 20, .inl (cy 2, 16, .inr (.inl (fJ u 20)))), (a 21, .inl (cy 2, 16, .inr (.inl (fJ u 21)))), (a 22, .inl (cy 2, 12, .inr (.inl (fJ u 22)))), (a 23, .inl (cy 1, 1120, .inl (fA u 23))), (a 24, .inl (cy 1, 1120, .inl (fA u 24))), (a 25, .inl (cy 1, 90, .inl (fA u 25))), (a 26, .inl (cy 1, 90, .inl (fA u 26))), (a 27, .inl (cy 1, 60, .inl (fA u 27))), (a 28, .inl (cy 1, 29, .inl (fA u 28))), (a 29, .inl (cy 1, 1189, .inl (fA u 29))), (a 30, .inl (cy 1, 8, .inl (fA u 30))), (a 31, .inl (cy 1, 128, .inl (fA u 31))), (a 32, .inl (cy 1, 64, .inl (fA u 32))), (a 33, .inl (cy 1, 186, .inl (fA u 33))), (a 34, .inl (cy 1, 30, .inl (fA u 34))), (a 35, .inl (cy 1, 30, .inl (fA u 35))), (a 36, .inl (cy 1, 30, .inl (fA u 36))), (a 37, .inl (cy 1, 30, .inl (fA u 37))), (a 38, .inl (cy 1, 30, .inl (fA u 38))), (a 39, .inl (cy 1, 3, .inl (fA u 39))), (a 40, .inl (cy 1, 29, .inl (fA u 40))), (a 41, .inl (cy 1, 87, .inl (fA u 41))), (a 42, .inl (cy 3, 3, .inl (fA u 42)))]
section
variable {cy : Nat → ClassId} {a : Nat → Nat} {u : St}
theorem mW_0 : (mW cy a u)[0]? = some (a 0, .inr (11, [.ref (a 1), .ref (a 2), .int (fI u 0 2), .int (fI u 0 3), .int (fI u 0 4), .int (fI u 0 5), .int (fI u 0 6), .int (fI u 0 7), .int (fI u 0 8), .int (fI u 0 9), .long (fL u 0 10), .ref (a 3), .ref (a 4), .ref (a 5), .ref (a 6), .ref (a 7), .ref (a 8), .ref (a 9), .ref (a 10), .ref (a 11), .ref (a 12), .ref (a 13), .ref (a 14), .ref (a 15), .ref (a 16), .ref (a 17), .ref (a 18), .ref (a 19), .ref (a 20), .ref (a 21), .ref (a 22), .ref (a 23), .ref (a 24), .ref (a 25), .ref (a 26), .ref (a 27), .int (fI u 0 36), .int (fI u 0 37), .int (fI u 0 38), .int (fI u 0 39), .int (fI u 0 40), .int (fI u 0 41), .int (fI u 0 42), .int (fI u 0 43), .ref (a 28), .int (fI u 0 45), .ref (a 29), .int (fI u 0 47), .int (fI u 0 48), .ref (a 30), .int (fI u 0 50), .ref (a 31), .ref (a 32), .ref (a 33), .ref (a 34), .ref (a 35), .ref (a 36), .ref (a 37), .ref (a 38), .ref (a 39), .ref (a 40), .int (fI u 0 61), .int (fI u 0 62), .ref (a 41), .ref (a 42)])) := rfl
theorem mW_s0_2 {v : Int32} : (mW cy a u).set 0 (a 0, .inr (11, ([.ref (a 1), .ref (a 2), .int (fI u 0 2), .int (fI u 0 3), .int (fI u 0 4), .int (fI u 0 5), .int (fI u 0 6), .int (fI u 0 7), .int (fI u 0 8), .int (fI u 0 9), .long (fL u 0 10), .ref (a 3), .ref (a 4), .ref (a 5), .ref (a 6), .ref (a 7), .ref (a 8), .ref (a 9), .ref (a 10), .ref (a 11), .ref (a 12), .ref (a 13), .ref (a 14), .ref (a 15), .ref (a 16), .ref (a 17), .ref (a 18), .ref (a 19), .ref (a 20), .ref (a 21), .ref (a 22), .ref (a 23), .ref (a 24), .ref (a 25), .ref (a 26), .ref (a 27), .int (fI u 0 36), .int (fI u 0 37), .int (fI u 0 38), .int (fI u 0 39), .int (fI u 0 40), .int (fI u 0 41), .int (fI u 0 42), .int (fI u 0 43), .ref (a 28), .int (fI u 0 45), .ref (a 29), .int (fI u 0 47), .int (fI u 0 48), .ref (a 30), .int (fI u 0 50), .ref (a 31), .ref (a 32), .ref (a 33), .ref (a 34), .ref (a 35), .ref (a 36), .ref (a 37), .ref (a 38), .ref (a 39), .ref (a 40), .int (fI u 0 61), .int (fI u 0 62), .ref (a 41), .ref (a 42)] : List Value).set 2 (.int v))) = mW cy a (sI u 0 2 v) := rfl
theorem mW_s0_3 {v : Int32} : (mW cy a u).set 0 (a 0, .inr (11, ([.ref (a 1), .ref (a 2), .int (fI u 0 2), .int (fI u 0 3), .int (fI u 0 4), .int (fI u 0 5), .int (fI u 0 6), .int (fI u 0 7), .int (fI u 0 8), .int (fI u 0 9), .long (fL u 0 10), .ref (a 3), .ref (a 4), .ref (a 5), .ref (a 6), .ref (a 7), .ref (a 8), .ref (a 9), .ref (a 10), .ref (a 11), .ref (a 12), .ref (a 13), .ref (a 14), .ref (a 15), .ref (a 16), .ref (a 17), .ref (a 18), .ref (a 19), .ref (a 20), .ref (a 21), .ref (a 22), .ref (a 23), .ref (a 24), .ref (a 25), .ref (a 26), .ref (a 27), .int (fI u 0 36), .int (fI u 0 37), .int (fI u 0 38), .int (fI u 0 39), .int (fI u 0 40), .int (fI u 0 41), .int (fI u 0 42), .int (fI u 0 43), .ref (a 28), .int (fI u 0 45), .ref (a 29), .int (fI u 0 47), .int (fI u 0 48), .ref (a 30), .int (fI u 0 50), .ref (a 31), .ref (a 32), .ref (a 33), .ref (a 34), .ref (a 35), .ref (a 36), .ref (a 37), .ref (a 38), .ref (a 39), .ref (a 40), .int (fI u 0 61), .int (fI u 0 62), .ref (a 41), .ref (a 42)] : List Value).set 3 (.int v))) = mW cy a (sI u 0 3 v) := rfl
theorem mW_s0_4 {v : Int32} : (mW cy a u).set 0 (a 0, .inr (11, ([.ref (a 1), .ref (a 2), .int (fI u 0 2), .int (fI u 0 3), .int (fI u 0 4), .int (fI u 0 5), .int (fI u 0 6), .int (fI u 0 7), .int (fI u 0 8), .int (fI u 0 9), .long (fL u 0 10), .ref (a 3), .ref (a 4), .ref (a 5), .ref (a 6), .ref (a 7), .ref (a 8), .ref (a 9), .ref (a 10), .ref (a 11), .ref (a 12), .ref (a 13), .ref (a 14), .ref (a 15), .ref (a 16), .ref (a 17), .ref (a 18), .ref (a 19), .ref (a 20), .ref (a 21), .ref (a 22), .ref (a 23), .ref (a 24), .ref (a 25), .ref (a 26), .ref (a 27), .int (fI u 0 36), .int (fI u 0 37), .int (fI u 0 38), .int (fI u 0 39), .int (fI u 0 40), .int (fI u 0 41), .int (fI u 0 42), .int (fI u 0 43), .ref (a 28), .int (fI u 0 45), .ref (a 29), .int (fI u 0 47), .int (fI u 0 48), .ref (a 30), .int (fI u 0 50), .ref (a 31), .ref (a 32), .ref (a 33), .ref (a 34), .ref (a 35), .ref (a 36), .ref (a 37), .ref (a 38), .ref (a 39), .ref (a 40), .int (fI u 0 61), .int (fI u 0 62), .ref (a 41), .ref (a 42)] : List Value).set 4 (.int v))) = mW cy a (sI u 0 4 v) := rfl
theorem mW_s0_5 {v : Int32} : (mW cy a u).set 0 (a 0, .inr (11, ([.ref (a 1), .ref (a 2), .int (fI u 0 2), .int (fI u 0 3), .int (fI u 0 4), .int (fI u 0 5), .int (fI u 0 6), .int (fI u 0 7), .int (fI u 0 8), .int (fI u 0 9), .long (fL u 0 10), .ref (a 3), .ref (a 4), .ref (a 5), .ref (a 6), .ref (a 7), .ref (a 8), .ref (a 9), .ref (a 10), .ref (a 11), .ref (a 12), .ref (a 13), .ref (a 14), .ref (a 15), .ref (a 16), .ref (a 17), .ref (a 18), .ref (a 19), .ref (a 20), .ref (a 21), .ref (a 22), .ref (a 23), .ref (a 24), .ref (a 25), .ref (a 26), .ref (a 27), .int (fI u 0 36), .int (fI u 0 37), .int (fI u 0 38), .int (fI u 0 39), .int (fI u 0 40), .int (fI u 0 41), .int (fI u 0 42), .int (fI u 0 43), .ref (a 28), .int (fI u 0 45), .ref (a 29), .int (fI u 0 47), .int (fI u 0 48), .ref (a 30), .int (fI u 0 50), .ref (a 31), .ref (a 32), .ref (a 33), .ref (a 34), .ref (a 35), .ref (a 36), .ref (a 37), .ref (a 38), .ref (a 39), .ref (a 40), .int (fI u 0 61), .int (fI u 0 62), .ref (a 41), .ref (a 42)] : List Value).set 5 (.int v))) = mW cy a (sI u 0 5 v) := rfl
theorem mW_s0_6 {v : Int32} : (mW cy a u).set 0 (a 0, .inr (11, ([.ref (a 1), .ref (a 2), .int (fI u 0 2), .int (fI u 0 3), .int (fI u 0 4), .int (fI u 0 5), .int (fI u 0 6), .int (fI u 0 7), .int (fI u 0 8), .int (fI u 0 9), .long (fL u 0 10), .ref (a 3), .ref (a 4), .ref (a 5), .ref (a 6), .ref (a 7), .ref (a 8), .ref (a 9), .ref (a 10), .ref (a 11), .ref (a 12), .ref (a 13), .ref (a 14), .ref (a 15), .ref (a 16), .ref (a 17), .ref (a 18), .ref (a 19), .ref (a 20), .ref (a 21), .ref (a 22), .ref (a 23), .ref (a 24), .ref (a 25), .ref (a 26), .ref (a 27), .int (fI u 0 36), .int (fI u 0 37), .int (fI u 0 38), .int (fI u 0 39), .int (fI u 0 40), .int (fI u 0 41), .int (fI u 0 42), .int (fI u 0 43), .ref (a 28), .int (fI u 0 45), .ref (a 29), .int (fI u 0 47), .int (fI u 0 48), .ref (a 30), .int (fI u 0 50), .ref (a 31), .ref (a 32), .ref (a 33), .ref (a 34), .ref (a 35), .ref (a 36), .ref (a 37), .ref (a 38), .ref (a 39), .ref (a 40), .int (fI u 0 61), .int (fI u 0 62), .ref (a 41), .ref (a 42)] : List Value).set 6 (.int v))) = mW cy a (sI u 0 6 v) := rfl
theorem mW_s0_7 {v : Int32} : (mW cy a u).set 0 (a 0, .inr (11, ([.ref (a 1), .ref (a 2), .int (fI u 0 2), .int (fI u 0 3), .int (fI u 0 4), .int (fI u 0 5), .int (fI u 0 6), .int (fI u 0 7), .int (fI u 0 8), .int (fI u 0 9), .long (fL u 0 10), .ref (a 3), .ref (a 4), .ref (a 5), .ref (a 6), .ref (a 7), .ref (a 8), .ref (a 9), .ref (a 10), .ref (a 11), .ref (a 12), .ref (a 13), .ref (a 14), .ref (a 15), .ref (a 16), .ref (a 17), .ref (a 18), .ref (a 19), .ref (a 20), .ref (a 21), .ref (a 22), .ref (a 23), .ref (a 24), .ref (a 25), .ref (a 26), .ref (a 27), .int (fI u 0 36), .int (fI u 0 37), .int (fI u 0 38), .int (fI u 0 39), .int (fI u 0 40), .int (fI u 0 41), .int (fI u 0 42), .int (fI u 0 43), .ref (a 28), .int (fI u 0 45), .ref (a 29), .int (fI u 0 47), .int (fI u 0 48), .ref (a 30), .int (fI u 0 50), .ref (a 31), .ref (a 32), .ref (a 33), .ref (a 34), .ref (a 35), .ref (a 36), .ref (a 37), .ref (a 38), .ref (a 39), .ref (a 40), .int (fI u 0 61), .int (fI u 0 62), .ref (a 41), .ref (a 42)] : List Value).set 7 (.int v))) = mW cy a (sI u 0 7 v) := rfl
theorem mW_s0_8 {v : Int32} : (mW cy a u).set 0 (a 0, .inr (11, ([.ref (a 1), .ref (a 2), .int (fI u 0 2), .int (fI u 0 3), .int (fI u 0 4), .int (fI u 0 5), .int (fI u 0 6), .int (fI u 0 7), .int (fI u 0 8), .int (fI u 0 9), .long (fL u 0 10), .ref (a 3), .ref (a 4), .ref (a 5), .ref (a 6), .ref (a 7), .ref (a 8), .ref (a 9), .ref (a 10), .ref (a 11), .ref (a 12), .ref (a 13), .ref (a 14), .ref (a 15), .ref (a 16), .ref (a 17), .ref (a 18), .ref (a 19), .ref (a 20), .ref (a 21), .ref (a 22), .ref (a 23), .ref (a 24), .ref (a 25), .ref (a 26), .ref (a 27), .int (fI u 0 36), .int (fI u 0 37), .int (fI u 0 38), .int (fI u 0 39), .int (fI u 0 40), .int (fI u 0 41), .int (fI u 0 42), .int (fI u 0 43), .ref (a 28), .int (fI u 0 45), .ref (a 29), .int (fI u 0 47), .int (fI u 0 48), .ref (a 30), .int (fI u 0 50), .ref (a 31), .ref (a 32), .ref (a 33), .ref (a 34), .ref (a 35), .ref (a 36), .ref (a 37), .ref (a 38), .ref (a 39), .ref (a 40), .int (fI u 0 61), .int (fI u 0 62), .ref (a 41), .ref (a 42)] : List Value).set 8 (.int v))) = mW cy a (sI u 0 8 v) := rfl
theorem mW_s0_9 {v : Int32} : (mW cy a u).set 0 (a 0, .inr (11, ([.ref (a 1), .ref (a 2), .int (fI u 0 2), .int (fI u 0 3), .int (fI u 0 4), .int (fI u 0 5), .int (fI u 0 6), .int (fI u 0 7), .int (fI u 0 8), .int (fI u 0 9), .long (fL u 0 10), .ref (a 3), .ref (a 4), .ref (a 5), .ref (a 6), .ref (a 7), .ref (a 8), .ref (a 9), .ref (a 10), .ref (a 11), .ref (a 12), .ref (a 13), .ref (a 14), .ref (a 15), .ref (a 16), .ref (a 17), .ref (a 18), .ref (a 19), .ref (a 20), .ref (a 21), .ref (a 22), .ref (a 23), .ref (a 24), .ref (a 25), .ref (a 26), .ref (a 27), .int (fI u 0 36), .int (fI u 0 37), .int (fI u 0 38), .int (fI u 0 39), .int (fI u 0 40), .int (fI u 0 41), .int (fI u 0 42), .int (fI u 0 43), .ref (a 28), .int (fI u 0 45), .ref (a 29), .int (fI u 0 47), .int (fI u 0 48), .ref (a 30), .int (fI u 0 50), .ref (a 31), .ref (a 32), .ref (a 33), .ref (a 34), .ref (a 35), .ref (a 36), .ref (a 37), .ref (a 38), .ref (a 39), .ref (a 40), .int (fI u 0 61), .int (fI u 0 62), .ref (a 41), .ref (a 42)] : List Value).set 9 (.int v))) = mW cy a (sI u 0 9 v) := rfl
theorem mW_s0_10 {v : Int64} : (mW cy a u).set 0 (a 0, .inr (11, ([.ref (a 1), .ref (a 2), .int (fI u 0 2), .int (fI u 0 3), .int (fI u 0 4), .int (fI u 0 5), .int (fI u 0 6), .int (fI u 0 7), .int (fI u 0 8), .int (fI u 0 9), .long (fL u 0 10), .ref (a 3), .ref (a 4), .ref (a 5), .ref (a 6), .ref (a 7), .ref (a 8), .ref (a 9), .ref (a 10), .ref (a 11), .ref (a 12), .ref (a 13), .ref (a 14), .ref (a 15), .ref (a 16), .ref (a 17), .ref (a 18), .ref (a 19), .ref (a 20), .ref (a 21), .ref (a 22), .ref (a 23), .ref (a 24), .ref (a 25), .ref (a 26), .ref (a 27), .int (fI u 0 36), .int (fI u 0 37), .int (fI u 0 38), .int (fI u 0 39), .int (fI u 0 40), .int (fI u 0 41), .int (fI u 0 42), .int (fI u 0 43), .ref (a 28), .int (fI u 0 45), .ref (a 29), .int (fI u 0 47), .int (fI u 0 48), .ref (a 30), .int (fI u 0 50), .ref (a 31), .ref (a 32), .ref (a 33), .ref (a 34), .ref (a 35), .ref (a 36), .ref (a 37), .ref (a 38), .ref (a 39), .ref (a 40), .int (fI u 0 61), .int (fI u 0 62), .ref (a 41), .ref (a 42)] : List Value).set 10 (.long v))) = mW cy a (sL u 0 10 v) := rfl
theorem mW_s0_36 {v : Int32} : (mW cy a u).set 0 (a 0, .inr (11, ([.ref (a 1), .ref (a 2), .int (fI u 0 2), .int (fI u 0 3), .int (fI u 0 4), .int (fI u 0 5), .int (fI u 0 6), .int (fI u 0 7), .int (fI u 0 8), .int (fI u 0 9), .long (fL u 0 10), .ref (a 3), .ref (a 4), .ref (a 5), .ref (a 6), .ref (a 7), .ref (a 8), .ref (a 9), .ref (a 10), .ref (a 11), .ref (a 12), .ref (a 13), .ref (a 14), .ref (a 15), .ref (a 16), .ref (a 17), .ref (a 18), .ref (a 19), .ref (a 20), .ref (a 21), .ref (a 22), .ref (a 23), .ref (a 24), .ref (a 25), .ref (a 26), .ref (a 27), .int (fI u 0 36), .int (fI u 0 37), .int (fI u 0 38), .int (fI u 0 39), .int (fI u 0 40), .int (fI u 0 41), .int (fI u 0 42), .int (fI u 0 43), .ref (a 28), .int (fI u 0 45), .ref (a 29), .int (fI u 0 47), .int (fI u 0 48), .ref (a 30), .int (fI u 0 50), .ref (a 31), .ref (a 32), .ref (a 33), .ref (a 34), .ref (a 35), .ref (a 36), .ref (a 37), .ref (a 38), .ref (a 39), .ref (a 40), .int (fI u 0 61), .int (fI u 0 62), .ref (a 41), .ref (a 42)] : List Value).set 36 (.int v))) = mW cy a (sI u 0 36 v) := rfl
theorem mW_s0_37 {v : Int32} : (mW cy a u).set 0 (a 0, .inr (11, ([.ref (a 1), .ref (a 2), .int (fI u 0 2), .int (fI u 0 3), .int (fI u 0 4), .int (fI u 0 5), .int (fI u 0 6), .int (fI u 0 7), .int (fI u 0 8), .int (fI u 0 9), .long (fL u 0 10), .ref (a 3), .ref (a 4), .ref (a 5), .ref (a 6), .ref (a 7), .ref (a 8), .ref (a 9), .ref (a 10), .ref (a 11), .ref (a 12), .ref (a 13), .ref (a 14), .ref (a 15), .ref (a 16), .ref (a 17), .ref (a 18), .ref (a 19), .ref (a 20), .ref (a 21), .ref (a 22), .ref (a 23), .ref (a 24), .ref (a 25), .ref (a 26), .ref (a 27), .int (fI u 0 36), .int (fI u 0 37), .int (fI u 0 38), .int (fI u 0 39), .int (fI u 0 40), .int (fI u 0 41), .int (fI u 0 42), .int (fI u 0 43), .ref (a 28), .int (fI u 0 45), .ref (a 29), .int (fI u 0 47), .int (fI u 0 48), .ref (a 30), .int (fI u 0 50), .ref (a 31), .ref (a 32), .ref (a 33), .ref (a 34), .ref (a 35), .ref (a 36), .ref (a 37), .ref (a 38), .ref (a 39), .ref (a 40), .int (fI u 0 61), .int (fI u 0 62), .ref (a 41), .ref (a 42)] : List Value).set 37 (.int v))) = mW cy a (sI u 0 37 v) := rfl
theorem mW_s0_38 {v : Int32} : (mW cy a u).set 0 (a 0, .inr (11, ([.ref (a 1), .ref (a 2), .int (fI u 0 2), .int (fI u 0 3), .int (fI u 0 4), .int (fI u 0 5), .int (fI u 0 6), .int (fI u 0 7), .int (fI u 0 8), .int (fI u 0 9), .long (fL u 0 10), .ref (a 3), .ref (a 4), .ref (a 5), .ref (a 6), .ref (a 7), .ref (a 8), .ref (a 9), .ref (a 10), .ref (a 11), .ref (a 12), .ref (a 13), .ref (a 14), .ref (a 15), .ref (a 16), .ref (a 17), .ref (a 18), .ref (a 19), .ref (a 20), .ref (a 21), .ref (a 22), .ref (a 23), .ref (a 24), .ref (a 25), .ref (a 26), .ref (a 27), .int (fI u 0 36), .int (fI u 0 37), .int (fI u 0 38), .int (fI u 0 39), .int (fI u 0 40), .int (fI u 0 41), .int (fI u 0 42), .int (fI u 0 43), .ref (a 28), .int (fI u 0 45), .ref (a 29), .int (fI u 0 47), .int (fI u 0 48), .ref (a 30), .int (fI u 0 50), .ref (a 31), .ref (a 32), .ref (a 33), .ref (a 34), .ref (a 35), .ref (a 36), .ref (a 37), .ref (a 38), .ref (a 39), .ref (a 40), .int (fI u 0 61), .int (fI u 0 62), .ref (a 41), .ref (a 42)] : List Value).set 38 (.int v))) = mW cy a (sI u 0 38 v) := rfl
theorem mW_s0_39 {v : Int32} : (mW cy a u).set 0 (a 0, .inr (11, ([.ref (a 1), .ref (a 2), .int (fI u 0 2), .int (fI u 0 3), .int (fI u 0 4), .int (fI u 0 5), .int (fI u 0 6), .int (fI u 0 7), .int (fI u 0 8), .int (fI u 0 9), .long (fL u 0 10), .ref (a 3), .ref (a 4), .ref (a 5), .ref (a 6), .ref (a 7), .ref (a 8), .ref (a 9), .ref (a 10), .ref (a 11), .ref (a 12), .ref (a 13), .ref (a 14), .ref (a 15), .ref (a 16), .ref (a 17), .ref (a 18), .ref (a 19), .ref (a 20), .ref (a 21), .ref (a 22), .ref (a 23), .ref (a 24), .ref (a 25), .ref (a 26), .ref (a 27), .int (fI u 0 36), .int (fI u 0 37), .int (fI u 0 38), .int (fI u 0 39), .int (fI u 0 40), .int (fI u 0 41), .int (fI u 0 42), .int (fI u 0 43), .ref (a 28), .int (fI u 0 45), .ref (a 29), .int (fI u 0 47), .int (fI u 0 48), .ref (a 30), .int (fI u 0 50), .ref (a 31), .ref (a 32), .ref (a 33), .ref (a 34), .ref (a 35), .ref (a 36), .ref (a 37), .ref (a 38), .ref (a 39), .ref (a 40), .int (fI u 0 61), .int (fI u 0 62), .ref (a 41), .ref (a 42)] : List Value).set 39 (.int v))) = mW cy a (sI u 0 39 v) := rfl
theorem mW_s0_40 {v : Int32} : (mW cy a u).set 0 (a 0, .inr (11, ([.ref (a 1), .ref (a 2), .int (fI u 0 2), .int (fI u 0 3), .int (fI u 0 4), .int (fI u 0 5), .int (fI u 0 6), .int (fI u 0 7), .int (fI u 0 8), .int (fI u 0 9), .long (fL u 0 10), .ref (a 3), .ref (a 4), .ref (a 5), .ref (a 6), .ref (a 7), .ref (a 8), .ref (a 9), .ref (a 10), .ref (a 11), .ref (a 12), .ref (a 13), .ref (a 14), .ref (a 15), .ref (a 16), .ref (a 17), .ref (a 18), .ref (a 19), .ref (a 20), .ref (a 21), .ref (a 22), .ref (a 23), .ref (a 24), .ref (a 25), .ref (a 26), .ref (a 27), .int (fI u 0 36), .int (fI u 0 37), .int (fI u 0 38), .int (fI u 0 39), .int (fI u 0 40), .int (fI u 0 41), .int (fI u 0 42), .int (fI u 0 43), .ref (a 28), .int (fI u 0 45), .ref (a 29), .int (fI u 0 47), .int (fI u 0 48), .ref (a 30), .int (fI u 0 50), .ref (a 31), .ref (a 32), .ref (a 33), .ref (a 34), .ref (a 35), .ref (a 36), .ref (a 37), .ref (a 38), .ref (a 39), .ref (a 40), .int (fI u 0 61), .int (fI u 0 62), .ref (a 41), .ref (a 42)] : List Value).set 40 (.int v))) = mW cy a (sI u 0 40 v) := rfl
theorem mW_s0_41 {v : Int32} : (mW cy a u).set 0 (a 0, .inr (11, ([.ref (a 1), .ref (a 2), .int (fI u 0 2), .int (fI u 0 3), .int (fI u 0 4), .int (fI u 0 5), .int (fI u 0 6), .int (fI u 0 7), .int (fI u 0 8), .int (fI u 0 9), .long (fL u 0 10), .ref (a 3), .ref (a 4), .ref (a 5), .ref (a 6), .ref (a 7), .ref (a 8), .ref (a 9), .ref (a 10), .ref (a 11), .ref (a 12), .ref (a 13), .ref (a 14), .ref (a 15), .ref (a 16), .ref (a 17), .ref (a 18), .ref (a 19), .ref (a 20), .ref (a 21), .ref (a 22), .ref (a 23), .ref (a 24), .ref (a 25), .ref (a 26), .ref (a 27), .int (fI u 0 36), .int (fI u 0 37), .int (fI u 0 38), .int (fI u 0 39), .int (fI u 0 40), .int (fI u 0 41), .int (fI u 0 42), .int (fI u 0 43), .ref (a 28), .int (fI u 0 45), .ref (a 29), .int (fI u 0 47), .int (fI u 0 48), .ref (a 30), .int (fI u 0 50), .ref (a 31), .ref (a 32), .ref (a 33), .ref (a 34), .ref (a 35), .ref (a 36), .ref (a 37), .ref (a 38), .ref (a 39), .ref (a 40), .int (fI u 0 61), .int (fI u 0 62), .ref (a 41), .ref (a 42)] : List Value).set 41 (.int v))) = mW cy a (sI u 0 41 v) := rfl
theorem mW_s0_42 {v : Int32} : (mW cy a u).set 0 (a 0, .inr (11, ([.ref (a 1), .ref (a 2), .int (fI u 0 2), .int (fI u 0 3), .int (fI u 0 4), .int (fI u 0 5), .int (fI u 0 6), .int (fI u 0 7), .int (fI u 0 8), .int (fI u 0 9), .long (fL u 0 10), .ref (a 3), .ref (a 4), .ref (a 5), .ref (a 6), .ref (a 7), .ref (a 8), .ref (a 9), .ref (a 10), .ref (a 11), .ref (a 12), .ref (a 13), .ref (a 14), .ref (a 15), .ref (a 16), .ref (a 17), .ref (a 18), .ref (a 19), .ref (a 20), .ref (a 21), .ref (a 22), .ref (a 23), .ref (a 24), .ref (a 25), .ref (a 26), .ref (a 27), .int (fI u 0 36), .int (fI u 0 37), .int (fI u 0 38), .int (fI u 0 39), .int (fI u 0 40), .int (fI u 0 41), .int (fI u 0 42), .int (fI u 0 43), .ref (a 28), .int (fI u 0 45), .ref (a 29), .int (fI u 0 47), .int (fI u 0 48), .ref (a 30), .int (fI u 0 50), .ref (a 31), .ref (a 32), .ref (a 33), .ref (a 34), .ref (a 35), .ref (a 36), .ref (a 37), .ref (a 38), .ref (a 39), .ref (a 40), .int (fI u 0 61), .int (fI u 0 62), .ref (a 41), .ref (a 42)] : List Value).set 42 (.int v))) = mW cy a (sI u 0 42 v) := rfl
theorem mW_s0_43 {v : Int32} : (mW cy a u).set 0 (a 0, .inr (11, ([.ref (a 1), .ref (a 2), .int (fI u 0 2), .int (fI u 0 3), .int (fI u 0 4), .int (fI u 0 5), .int (fI u 0 6), .int (fI u 0 7), .int (fI u 0 8), .int (fI u 0 9), .long (fL u 0 10), .ref (a 3), .ref (a 4), .ref (a 5), .ref (a 6), .ref (a 7), .ref (a 8), .ref (a 9), .ref (a 10), .ref (a 11), .ref (a 12), .ref (a 13), .ref (a 14), .ref (a 15), .ref (a 16), .ref (a 17), .ref (a 18), .ref (a 19), .ref (a 20), .ref (a 21), .ref (a 22), .ref (a 23), .ref (a 24), .ref (a 25), .ref (a 26), .ref (a 27), .int (fI u 0 36), .int (fI u 0 37), .int (fI u 0 38), .int (fI u 0 39), .int (fI u 0 40), .int (fI u 0 41), .int (fI u 0 42), .int (fI u 0 43), .ref (a 28), .int (fI u 0 45), .ref (a 29), .int (fI u 0 47), .int (fI u 0 48), .ref (a 30), .int (fI u 0 50), .ref (a 31), .ref (a 32), .ref (a 33), .ref (a 34), .ref (a 35), .ref (a 36), .ref (a 37), .ref (a 38), .ref (a 39), .ref (a 40), .int (fI u 0 61), .int (fI u 0 62), .ref (a 41), .ref (a 42)] : List Value).set 43 (.int v))) = mW cy a (sI u 0 43 v) := rfl
theorem mW_s0_45 {v : Int32} : (mW cy a u).set 0 (a 0, .inr (11, ([.ref (a 1), .ref (a 2), .int (fI u 0 2), .int (fI u 0 3), .int (fI u 0 4), .int (fI u 0 5), .int (fI u 0 6), .int (fI u 0 7), .int (fI u 0 8), .int (fI u 0 9), .long (fL u 0 10), .ref (a 3), .ref (a 4), .ref (a 5), .ref (a 6), .ref (a 7), .ref (a 8), .ref (a 9), .ref (a 10), .ref (a 11), .ref (a 12), .ref (a 13), .ref (a 14), .ref (a 15), .ref (a 16), .ref (a 17), .ref (a 18), .ref (a 19), .ref (a 20), .ref (a 21), .ref (a 22), .ref (a 23), .ref (a 24), .ref (a 25), .ref (a 26), .ref (a 27), .int (fI u 0 36), .int (fI u 0 37), .int (fI u 0 38), .int (fI u 0 39), .int (fI u 0 40), .int (fI u 0 41), .int (fI u 0 42), .int (fI u 0 43), .ref (a 28), .int (fI u 0 45), .ref (a 29), .int (fI u 0 47), .int (fI u 0 48), .ref (a 30), .int (fI u 0 50), .ref (a 31), .ref (a 32), .ref (a 33), .ref (a 34), .ref (a 35), .ref (a 36), .ref (a 37), .ref (a 38), .ref (a 39), .ref (a 40), .int (fI u 0 61), .int (fI u 0 62), .ref (a 41), .ref (a 42)] : List Value).set 45 (.int v))) = mW cy a (sI u 0 45 v) := rfl
theorem mW_s0_47 {v : Int32} : (mW cy a u).set 0 (a 0, .inr (11, ([.ref (a 1), .ref (a 2), .int (fI u 0 2), .int (fI u 0 3), .int (fI u 0 4), .int (fI u 0 5), .int (fI u 0 6), .int (fI u 0 7), .int (fI u 0 8), .int (fI u 0 9), .long (fL u 0 10), .ref (a 3), .ref (a 4), .ref (a 5), .ref (a 6), .ref (a 7), .ref (a 8), .ref (a 9), .ref (a 10), .ref (a 11), .ref (a 12), .ref (a 13), .ref (a 14), .ref (a 15), .ref (a 16), .ref (a 17), .ref (a 18), .ref (a 19), .ref (a 20), .ref (a 21), .ref (a 22), .ref (a 23), .ref (a 24), .ref (a 25), .ref (a 26), .ref (a 27), .int (fI u 0 36), .int (fI u 0 37), .int (fI u 0 38), .int (fI u 0 39), .int (fI u 0 40), .int (fI u 0 41), .int (fI u 0 42), .int (fI u 0 43), .ref (a 28), .int (fI u 0 45), .ref (a 29), .int (fI u 0 47), .int (fI u 0 48), .ref (a 30), .int (fI u 0 50), .ref (a 31), .ref (a 32), .ref (a 33), .ref (a 34), .ref (a 35), .ref (a 36), .ref (a 37), .ref (a 38), .ref (a 39), .ref (a 40), .int (fI u 0 61), .int (fI u 0 62), .ref (a 41), .ref (a 42)] : List Value).set 47 (.int v))) = mW cy a (sI u 0 47 v) := rfl
theorem mW_s0_48 {v : Int32} : (mW cy a u).set 0 (a 0, .inr (11, ([.ref (a 1), .ref (a 2), .int (fI u 0 2), .int (fI u 0 3), .int (fI u 0 4), .int (fI u 0 5), .int (fI u 0 6), .int (fI u 0 7), .int (fI u 0 8), .int (fI u 0 9), .long (fL u 0 10), .ref (a 3), .ref (a 4), .ref (a 5), .ref (a 6), .ref (a 7), .ref (a 8), .ref (a 9), .ref (a 10), .ref (a 11), .ref (a 12), .ref (a 13), .ref (a 14), .ref (a 15), .ref (a 16), .ref (a 17), .ref (a 18), .ref (a 19), .ref (a 20), .ref (a 21), .ref (a 22), .ref (a 23), .ref (a 24), .ref (a 25), .ref (a 26), .ref (a 27), .int (fI u 0 36), .int (fI u 0 37), .int (fI u 0 38), .int (fI u 0 39), .int (fI u 0 40), .int (fI u 0 41), .int (fI u 0 42), .int (fI u 0 43), .ref (a 28), .int (fI u 0 45), .ref (a 29), .int (fI u 0 47), .int (fI u 0 48), .ref (a 30), .int (fI u 0 50), .ref (a 31), .ref (a 32), .ref (a 33), .ref (a 34), .ref (a 35), .ref (a 36), .ref (a 37), .ref (a 38), .ref (a 39), .ref (a 40), .int (fI u 0 61), .int (fI u 0 62), .ref (a 41), .ref (a 42)] : List Value).set 48 (.int v))) = mW cy a (sI u 0 48 v) := rfl
theorem mW_s0_50 {v : Int32} : (mW cy a u).set 0 (a 0, .inr (11, ([.ref (a 1), .ref (a 2), .int (fI u 0 2), .int (fI u 0 3), .int (fI u 0 4), .int (fI u 0 5), .int (fI u 0 6), .int (fI u 0 7), .int (fI u 0 8), .int (fI u 0 9), .long (fL u 0 10), .ref (a 3), .ref (a 4), .ref (a 5), .ref (a 6), .ref (a 7), .ref (a 8), .ref (a 9), .ref (a 10), .ref (a 11), .ref (a 12), .ref (a 13), .ref (a 14), .ref (a 15), .ref (a 16), .ref (a 17), .ref (a 18), .ref (a 19), .ref (a 20), .ref (a 21), .ref (a 22), .ref (a 23), .ref (a 24), .ref (a 25), .ref (a 26), .ref (a 27), .int (fI u 0 36), .int (fI u 0 37), .int (fI u 0 38), .int (fI u 0 39), .int (fI u 0 40), .int (fI u 0 41), .int (fI u 0 42), .int (fI u 0 43), .ref (a 28), .int (fI u 0 45), .ref (a 29), .int (fI u 0 47), .int (fI u 0 48), .ref (a 30), .int (fI u 0 50), .ref (a 31), .ref (a 32), .ref (a 33), .ref (a 34), .ref (a 35), .ref (a 36), .ref (a 37), .ref (a 38), .ref (a 39), .ref (a 40), .int (fI u 0 61), .int (fI u 0 62), .ref (a 41), .ref (a 42)] : List Value).set 50 (.int v))) = mW cy a (sI u 0 50 v) := rfl
theorem mW_s0_61 {v : Int32} : (mW cy a u).set 0 (a 0, .inr (11, ([.ref (a 1), .ref (a 2), .int (fI u 0 2), .int (fI u 0 3), .int (fI u 0 4), .int (fI u 0 5), .int (fI u 0 6), .int (fI u 0 7), .int (fI u 0 8), .int (fI u 0 9), .long (fL u 0 10), .ref (a 3), .ref (a 4), .ref (a 5), .ref (a 6), .ref (a 7), .ref (a 8), .ref (a 9), .ref (a 10), .ref (a 11), .ref (a 12), .ref (a 13), .ref (a 14), .ref (a 15), .ref (a 16), .ref (a 17), .ref (a 18), .ref (a 19), .ref (a 20), .ref (a 21), .ref (a 22), .ref (a 23), .ref (a 24), .ref (a 25), .ref (a 26), .ref (a 27), .int (fI u 0 36), .int (fI u 0 37), .int (fI u 0 38), .int (fI u 0 39), .int (fI u 0 40), .int (fI u 0 41), .int (fI u 0 42), .int (fI u 0 43), .ref (a 28), .int (fI u 0 45), .ref (a 29), .int (fI u 0 47), .int (fI u 0 48), .ref (a 30), .int (fI u 0 50), .ref (a 31), .ref (a 32), .ref (a 33), .ref (a 34), .ref (a 35), .ref (a 36), .ref (a 37), .ref (a 38), .ref (a 39), .ref (a 40), .int (fI u 0 61), .int (fI u 0 62), .ref (a 41), .ref (a 42)] : List Value).set 61 (.int v))) = mW cy a (sI u 0 61 v) := rfl
theorem mW_s0_62 {v : Int32} : (mW cy a u).set 0 (a 0, .inr (11, ([.ref (a 1), .ref (a 2), .int (fI u 0 2), .int (fI u 0 3), .int (fI u 0 4), .int (fI u 0 5), .int (fI u 0 6), .int (fI u 0 7), .int (fI u 0 8), .int (fI u 0 9), .long (fL u 0 10), .ref (a 3), .ref (a 4), .ref (a 5), .ref (a 6), .ref (a 7), .ref (a 8), .ref (a 9), .ref (a 10), .ref (a 11), .ref (a 12), .ref (a 13), .ref (a 14), .ref (a 15), .ref (a 16), .ref (a 17), .ref (a 18), .ref (a 19), .ref (a 20), .ref (a 21), .ref (a 22), .ref (a 23), .ref (a 24), .ref (a 25), .ref (a 26), .ref (a 27), .int (fI u 0 36), .int (fI u 0 37), .int (fI u 0 38), .int (fI u 0 39), .int (fI u 0 40), .int (fI u 0 41), .int (fI u 0 42), .int (fI u 0 43), .ref (a 28), .int (fI u 0 45), .ref (a 29), .int (fI u 0 47), .int (fI u 0 48), .ref (a 30), .int (fI u 0 50), .ref (a 31), .ref (a 32), .ref (a 33), .ref (a 34), .ref (a 35), .ref (a 36), .ref (a 37), .ref (a 38), .ref (a 39), .ref (a 40), .int (fI u 0 61), .int (fI u 0 62), .ref (a 41), .ref (a 42)] : List Value).set 62 (.int v))) = mW cy a (sI u 0 62 v) := rfl
theorem mW_1 : (mW cy a u)[1]? = some (a 1, .inl (cy 0, 1620, .inl (fA u 1))) := rfl
theorem mW_s1 {f : Nat → Int32} : (mW cy a u).set 1 (a 1, .inl (cy 0, 1620, .inl f)) = mW cy a (sA u 1 f) := rfl
theorem mW_2 : (mW cy a u)[2]? = some (a 2, .inl (cy 0, 1600, .inl (fA u 2))) := rfl
theorem mW_s2 {f : Nat → Int32} : (mW cy a u).set 2 (a 2, .inl (cy 0, 1600, .inl f)) = mW cy a (sA u 2 f) := rfl
theorem mW_3 : (mW cy a u)[3]? = some (a 3, .inl (cy 1, 2, .inl (fA u 3))) := rfl
theorem mW_s3 {f : Nat → Int32} : (mW cy a u).set 3 (a 3, .inl (cy 1, 2, .inl f)) = mW cy a (sA u 3 f) := rfl
theorem mW_4 : (mW cy a u)[4]? = some (a 4, .inl (cy 1, 2, .inl (fA u 4))) := rfl
theorem mW_s4 {f : Nat → Int32} : (mW cy a u).set 4 (a 4, .inl (cy 1, 2, .inl f)) = mW cy a (sA u 4 f) := rfl
theorem mW_5 : (mW cy a u)[5]? = some (a 5, .inl (cy 1, 2, .inl (fA u 5))) := rfl
theorem mW_s5 {f : Nat → Int32} : (mW cy a u).set 5 (a 5, .inl (cy 1, 2, .inl f)) = mW cy a (sA u 5 f) := rfl
theorem mW_6 : (mW cy a u)[6]? = some (a 6, .inl (cy 1, 2, .inl (fA u 6))) := rfl
theorem mW_s6 {f : Nat → Int32} : (mW cy a u).set 6 (a 6, .inl (cy 1, 2, .inl f)) = mW cy a (sA u 6 f) := rfl
theorem mW_7 : (mW cy a u)[7]? = some (a 7, .inl (cy 1, 2, .inl (fA u 7))) := rfl
theorem mW_s7 {f : Nat → Int32} : (mW cy a u).set 7 (a 7, .inl (cy 1, 2, .inl f)) = mW cy a (sA u 7 f) := rfl
theorem mW_8 : (mW cy a u)[8]? = some (a 8, .inl (cy 1, 2, .inl (fA u 8))) := rfl
theorem mW_s8 {f : Nat → Int32} : (mW cy a u).set 8 (a 8, .inl (cy 1, 2, .inl f)) = mW cy a (sA u 8 f) := rfl
theorem mW_9 : (mW cy a u)[9]? = some (a 9, .inl (cy 1, 2, .inl (fA u 9))) := rfl
theorem mW_s9 {f : Nat → Int32} : (mW cy a u).set 9 (a 9, .inl (cy 1, 2, .inl f)) = mW cy a (sA u 9 f) := rfl
theorem mW_10 : (mW cy a u)[10]? = some (a 10, .inl (cy 1, 2, .inl (fA u 10))) := rfl
theorem mW_s10 {f : Nat → Int32} : (mW cy a u).set 10 (a 10, .inl (cy 1, 2, .inl f)) = mW cy a (sA u 10 f) := rfl
theorem mW_11 : (mW cy a u)[11]? = some (a 11, .inl (cy 1, 2, .inl (fA u 11))) := rfl
theorem mW_s11 {f : Nat → Int32} : (mW cy a u).set 11 (a 11, .inl (cy 1, 2, .inl f)) = mW cy a (sA u 11 f) := rfl
theorem mW_12 : (mW cy a u)[12]? = some (a 12, .inl (cy 1, 2, .inl (fA u 12))) := rfl
theorem mW_s12 {f : Nat → Int32} : (mW cy a u).set 12 (a 12, .inl (cy 1, 2, .inl f)) = mW cy a (sA u 12 f) := rfl
theorem mW_13 : (mW cy a u)[13]? = some (a 13, .inl (cy 1, 28, .inl (fA u 13))) := rfl
theorem mW_s13 {f : Nat → Int32} : (mW cy a u).set 13 (a 13, .inl (cy 1, 28, .inl f)) = mW cy a (sA u 13 f) := rfl
theorem mW_14 : (mW cy a u)[14]? = some (a 14, .inl (cy 1, 28, .inl (fA u 14))) := rfl
theorem mW_s14 {f : Nat → Int32} : (mW cy a u).set 14 (a 14, .inl (cy 1, 28, .inl f)) = mW cy a (sA u 14 f) := rfl
theorem mW_15 : (mW cy a u)[15]? = some (a 15, .inl (cy 1, 16, .inl (fA u 15))) := rfl
theorem mW_s15 {f : Nat → Int32} : (mW cy a u).set 15 (a 15, .inl (cy 1, 16, .inl f)) = mW cy a (sA u 15 f) := rfl
theorem mW_16 : (mW cy a u)[16]? = some (a 16, .inl (cy 1, 12, .inl (fA u 16))) := rfl
theorem mW_s16 {f : Nat → Int32} : (mW cy a u).set 16 (a 16, .inl (cy 1, 12, .inl f)) = mW cy a (sA u 16 f) := rfl
theorem mW_17 : (mW cy a u)[17]? = some (a 17, .inl (cy 1, 12, .inl (fA u 17))) := rfl
theorem mW_s17 {f : Nat → Int32} : (mW cy a u).set 17 (a 17, .inl (cy 1, 12, .inl f)) = mW cy a (sA u 17 f) := rfl
theorem mW_18 : (mW cy a u)[18]? = some (a 18, .inl (cy 1, 2, .inl (fA u 18))) := rfl
theorem mW_s18 {f : Nat → Int32} : (mW cy a u).set 18 (a 18, .inl (cy 1, 2, .inl f)) = mW cy a (sA u 18 f) := rfl
theorem mW_19 : (mW cy a u)[19]? = some (a 19, .inl (cy 1, 2, .inl (fA u 19))) := rfl
theorem mW_s19 {f : Nat → Int32} : (mW cy a u).set 19 (a 19, .inl (cy 1, 2, .inl f)) = mW cy a (sA u 19 f) := rfl
theorem mW_20 : (mW cy a u)[20]? = some (a 20, .inl (cy 2, 16, .inr (.inl (fJ u 20)))) := rfl
theorem mW_s20 {f : Nat → Int64} : (mW cy a u).set 20 (a 20, .inl (cy 2, 16, .inr (.inl f))) = mW cy a (sJ u 20 f) := rfl
theorem mW_21 : (mW cy a u)[21]? = some (a 21, .inl (cy 2, 16, .inr (.inl (fJ u 21)))) := rfl
theorem mW_s21 {f : Nat → Int64} : (mW cy a u).set 21 (a 21, .inl (cy 2, 16, .inr (.inl f))) = mW cy a (sJ u 21 f) := rfl
theorem mW_22 : (mW cy a u)[22]? = some (a 22, .inl (cy 2, 12, .inr (.inl (fJ u 22)))) := rfl
theorem mW_s22 {f : Nat → Int64} : (mW cy a u).set 22 (a 22, .inl (cy 2, 12, .inr (.inl f))) = mW cy a (sJ u 22 f) := rfl
theorem mW_23 : (mW cy a u)[23]? = some (a 23, .inl (cy 1, 1120, .inl (fA u 23))) := rfl
theorem mW_s23 {f : Nat → Int32} : (mW cy a u).set 23 (a 23, .inl (cy 1, 1120, .inl f)) = mW cy a (sA u 23 f) := rfl
theorem mW_24 : (mW cy a u)[24]? = some (a 24, .inl (cy 1, 1120, .inl (fA u 24))) := rfl
theorem mW_s24 {f : Nat → Int32} : (mW cy a u).set 24 (a 24, .inl (cy 1, 1120, .inl f)) = mW cy a (sA u 24 f) := rfl
theorem mW_25 : (mW cy a u)[25]? = some (a 25, .inl (cy 1, 90, .inl (fA u 25))) := rfl
theorem mW_s25 {f : Nat → Int32} : (mW cy a u).set 25 (a 25, .inl (cy 1, 90, .inl f)) = mW cy a (sA u 25 f) := rfl
theorem mW_26 : (mW cy a u)[26]? = some (a 26, .inl (cy 1, 90, .inl (fA u 26))) := rfl
theorem mW_s26 {f : Nat → Int32} : (mW cy a u).set 26 (a 26, .inl (cy 1, 90, .inl f)) = mW cy a (sA u 26 f) := rfl
theorem mW_27 : (mW cy a u)[27]? = some (a 27, .inl (cy 1, 60, .inl (fA u 27))) := rfl
theorem mW_s27 {f : Nat → Int32} : (mW cy a u).set 27 (a 27, .inl (cy 1, 60, .inl f)) = mW cy a (sA u 27 f) := rfl
theorem mW_28 : (mW cy a u)[28]? = some (a 28, .inl (cy 1, 29, .inl (fA u 28))) := rfl
theorem mW_s28 {f : Nat → Int32} : (mW cy a u).set 28 (a 28, .inl (cy 1, 29, .inl f)) = mW cy a (sA u 28 f) := rfl
theorem mW_29 : (mW cy a u)[29]? = some (a 29, .inl (cy 1, 1189, .inl (fA u 29))) := rfl
theorem mW_s29 {f : Nat → Int32} : (mW cy a u).set 29 (a 29, .inl (cy 1, 1189, .inl f)) = mW cy a (sA u 29 f) := rfl
theorem mW_30 : (mW cy a u)[30]? = some (a 30, .inl (cy 1, 8, .inl (fA u 30))) := rfl
theorem mW_s30 {f : Nat → Int32} : (mW cy a u).set 30 (a 30, .inl (cy 1, 8, .inl f)) = mW cy a (sA u 30 f) := rfl
theorem mW_31 : (mW cy a u)[31]? = some (a 31, .inl (cy 1, 128, .inl (fA u 31))) := rfl
theorem mW_s31 {f : Nat → Int32} : (mW cy a u).set 31 (a 31, .inl (cy 1, 128, .inl f)) = mW cy a (sA u 31 f) := rfl
theorem mW_32 : (mW cy a u)[32]? = some (a 32, .inl (cy 1, 64, .inl (fA u 32))) := rfl
theorem mW_s32 {f : Nat → Int32} : (mW cy a u).set 32 (a 32, .inl (cy 1, 64, .inl f)) = mW cy a (sA u 32 f) := rfl
theorem mW_33 : (mW cy a u)[33]? = some (a 33, .inl (cy 1, 186, .inl (fA u 33))) := rfl
theorem mW_s33 {f : Nat → Int32} : (mW cy a u).set 33 (a 33, .inl (cy 1, 186, .inl f)) = mW cy a (sA u 33 f) := rfl
theorem mW_34 : (mW cy a u)[34]? = some (a 34, .inl (cy 1, 30, .inl (fA u 34))) := rfl
theorem mW_s34 {f : Nat → Int32} : (mW cy a u).set 34 (a 34, .inl (cy 1, 30, .inl f)) = mW cy a (sA u 34 f) := rfl
theorem mW_35 : (mW cy a u)[35]? = some (a 35, .inl (cy 1, 30, .inl (fA u 35))) := rfl
theorem mW_s35 {f : Nat → Int32} : (mW cy a u).set 35 (a 35, .inl (cy 1, 30, .inl f)) = mW cy a (sA u 35 f) := rfl
theorem mW_36 : (mW cy a u)[36]? = some (a 36, .inl (cy 1, 30, .inl (fA u 36))) := rfl
theorem mW_s36 {f : Nat → Int32} : (mW cy a u).set 36 (a 36, .inl (cy 1, 30, .inl f)) = mW cy a (sA u 36 f) := rfl
theorem mW_37 : (mW cy a u)[37]? = some (a 37, .inl (cy 1, 30, .inl (fA u 37))) := rfl
theorem mW_s37 {f : Nat → Int32} : (mW cy a u).set 37 (a 37, .inl (cy 1, 30, .inl f)) = mW cy a (sA u 37 f) := rfl
theorem mW_38 : (mW cy a u)[38]? = some (a 38, .inl (cy 1, 30, .inl (fA u 38))) := rfl
theorem mW_s38 {f : Nat → Int32} : (mW cy a u).set 38 (a 38, .inl (cy 1, 30, .inl f)) = mW cy a (sA u 38 f) := rfl
theorem mW_39 : (mW cy a u)[39]? = some (a 39, .inl (cy 1, 3, .inl (fA u 39))) := rfl
theorem mW_s39 {f : Nat → Int32} : (mW cy a u).set 39 (a 39, .inl (cy 1, 3, .inl f)) = mW cy a (sA u 39 f) := rfl
theorem mW_40 : (mW cy a u)[40]? = some (a 40, .inl (cy 1, 29, .inl (fA u 40))) := rfl
theorem mW_s40 {f : Nat → Int32} : (mW cy a u).set 40 (a 40, .inl (cy 1, 29, .inl f)) = mW cy a (sA u 40 f) := rfl
theorem mW_41 : (mW cy a u)[41]? = some (a 41, .inl (cy 1, 87, .inl (fA u 41))) := rfl
theorem mW_s41 {f : Nat → Int32} : (mW cy a u).set 41 (a 41, .inl (cy 1, 87, .inl f)) = mW cy a (sA u 41 f) := rfl
theorem mW_42 : (mW cy a u)[42]? = some (a 42, .inl (cy 3, 3, .inl (fA u 42))) := rfl
theorem mW_s42 {f : Nat → Int32} : (mW cy a u).set 42 (a 42, .inl (cy 3, 3, .inl f)) = mW cy a (sA u 42 f) := rfl
end
end
section
/-! ints by their numbers; branches told by numbers -/
theorem i32_lt {x y : Int32} : x < y ↔ x.toInt < y.toInt := Int32.lt_iff_toInt_lt
theorem i32_le {x y : Int32} : x ≤ y ↔ x.toInt ≤ y.toInt := Int32.le_iff_toInt_le
theorem i32_eq {x y : Int32} : x = y ↔ x.toInt = y.toInt := Int32.toInt_inj.symm
theorem i32_b (x : Int32) : -2147483648 ≤ x.toInt ∧ x.toInt ≤ 2147483647 := by
  have h1 := Int32.le_toInt x
  have h2 := Int32.toInt_lt x
  constructor <;> omega
theorem i_add {x y : Int32} {X Y : Int} (hx : x.toInt = X) (hy : y.toInt = Y) (h : -2147483648 ≤ X + Y ∧ X + Y ≤ 2147483647) : (x + y).toInt = X + Y := by
  rw [Int32.toInt_add, hx, hy]
  exact Int.bmod_eq_of_le (by omega) (by omega)
theorem i_sub {x y : Int32} {X Y : Int} (hx : x.toInt = X) (hy : y.toInt = Y) (h : -2147483648 ≤ X - Y ∧ X - Y ≤ 2147483647) : (x - y).toInt = X - Y := by
  rw [Int32.toInt_sub, hx, hy]
  exact Int.bmod_eq_of_le (by omega) (by omega)
theorem i_mul {x y : Int32} {X Y : Int} (hx : x.toInt = X) (hy : y.toInt = Y) (h : -2147483648 ≤ X * Y ∧ X * Y ≤ 2147483647) : (x * y).toInt = X * Y := by
  rw [Int32.toInt_mul, hx, hy]
  exact Int.bmod_eq_of_le (by omega) (by omega)
theorem i_in {x : Int32} {X : Int} {n : Nat} (hx : x.toInt = X) (h0 : 0 ≤ X) (h1 : X < (n : Int)) : vp_in x n := by
  have h2 : x.toNatClampNeg = X.toNat := by show x.toInt.toNat = _; rw [hx]
  intro h
  rcases h with h | h
  · rw [i32_lt, hx] at h
    have : (0 : Int32).toInt = 0 := rfl
    omega
  · rw [h2] at h
    omega
theorem i_clt {x : Int32} {X : Int} {n : Nat} (hx : x.toInt = X) (h0 : 0 ≤ X) (h1 : X < (n : Int)) : x.toNatClampNeg < n := by
  have h2 : x.toNatClampNeg = X.toNat := by show x.toInt.toNat = _; rw [hx]
  rw [h2]
  omega
theorem i_shr0 (y : Int32) : (0 : Int32) >>> y = 0 := by simp
theorem i_shl0 (y : Int32) : (0 : Int32) <<< y = 0 := by simp
theorem i_and0 (x : Int32) : x &&& 0 = 0 := by simp
theorem i_and0l (x : Int32) : 0 &&& x = 0 := by simp
theorem i_ne0 {x : Int32} {X : Int} (hx : x.toInt = X) (h : X ≠ 0) : ¬ x = 0 := fun e => h (by rw [← hx, e]; rfl)
section BR
variable {p : Program} {l : Launch} {e : Env} {R : Room} {s : State} {m : MethodId} {args : Array Value} {below : List Frame} {meth : Method} {c : Code} {H : Heap} {locs : List Loc} {cells slots : Nat} {Q : State → Prop}
variable {cc : ByteArray} {pc : Nat} {ls : Array Slot} {rest : List Value}

theorem bs_eq {x : Int32} {X : Int} {off : Int} {tgt : Nat} (hx : p.tables.exec = Jvm.exec) (hb : c.code = cc) (hdg : decode cc pc = .ok (.ifCond .eq off, 3)) (ht : (pc : Int) + off = (tgt : Int)) (hX : x.toInt = X) (kt : X = 0 → W p l e R s m args below meth c H locs cells slots Q (F0 m tgt ls rest)) (kf : ¬ X = 0 → W p l e R s m args below meth c H locs cells slots Q (F0 m (pc + 3) ls rest)) : W p l e R s m args below meth c H locs cells slots Q (F0 m pc ls (.int x :: rest)) :=
  lv_if_eq hx hb hdg ht (fun h => kt (by have z : (0 : Int32).toInt = 0 := rfl; have h2 := h; simp only [i32_eq, hX, z] at h2; omega)) (fun h => kf (by have z : (0 : Int32).toInt = 0 := rfl; have h2 := h; simp only [i32_eq, hX, z] at h2; omega))
theorem bt_eq {x : Int32} {X : Int} {off : Int} {tgt : Nat} (hx : p.tables.exec = Jvm.exec) (hb : c.code = cc) (hdg : decode cc pc = .ok (.ifCond .eq off, 3)) (ht : (pc : Int) + off = (tgt : Int)) (hX : x.toInt = X) (hc : X = 0) (kt : W p l e R s m args below meth c H locs cells slots Q (F0 m tgt ls rest)) : W p l e R s m args below meth c H locs cells slots Q (F0 m pc ls (.int x :: rest)) :=
  bs_eq hx hb hdg ht hX (fun _ => kt) (fun h => absurd hc (by omega))
theorem bn_eq {x : Int32} {X : Int} {off : Int} (hx : p.tables.exec = Jvm.exec) (hb : c.code = cc) (hdg : decode cc pc = .ok (.ifCond .eq off, 3)) (hX : x.toInt = X) (hc : ¬ X = 0) (kf : W p l e R s m args below meth c H locs cells slots Q (F0 m (pc + 3) ls rest)) {tgt : Nat} (ht : (pc : Int) + off = (tgt : Int)) : W p l e R s m args below meth c H locs cells slots Q (F0 m pc ls (.int x :: rest)) :=
  bs_eq hx hb hdg ht hX (fun h => absurd hc (by omega)) (fun _ => kf)
theorem cs_eq {x y : Int32} {X Y : Int} {off : Int} {tgt : Nat} (hx : p.tables.exec = Jvm.exec) (hb : c.code = cc) (hdg : decode cc pc = .ok (.if_icmp .eq off, 3)) (ht : (pc : Int) + off = (tgt : Int)) (hX : x.toInt = X) (hY : y.toInt = Y) (kt : X = Y → W p l e R s m args below meth c H locs cells slots Q (F0 m tgt ls rest)) (kf : ¬ X = Y → W p l e R s m args below meth c H locs cells slots Q (F0 m (pc + 3) ls rest)) : W p l e R s m args below meth c H locs cells slots Q (F0 m pc ls (.int y :: .int x :: rest)) :=
  lv_icmp_eq hx hb hdg ht (fun h => kt (by have h2 := h; simp only [i32_eq, hX, hY] at h2; omega)) (fun h => kf (by have h2 := h; simp only [i32_eq, hX, hY] at h2; omega))
theorem ct_eq {x y : Int32} {X Y : Int} {off : Int} {tgt : Nat} (hx : p.tables.exec = Jvm.exec) (hb : c.code = cc) (hdg : decode cc pc = .ok (.if_icmp .eq off, 3)) (ht : (pc : Int) + off = (tgt : Int)) (hX : x.toInt = X) (hY : y.toInt = Y) (hc : X = Y) (kt : W p l e R s m args below meth c H locs cells slots Q (F0 m tgt ls rest)) : W p l e R s m args below meth c H locs cells slots Q (F0 m pc ls (.int y :: .int x :: rest)) :=
  cs_eq hx hb hdg ht hX hY (fun _ => kt) (fun h => absurd hc (by omega))
theorem cn_eq {x y : Int32} {X Y : Int} {off : Int} (hx : p.tables.exec = Jvm.exec) (hb : c.code = cc) (hdg : decode cc pc = .ok (.if_icmp .eq off, 3)) (hX : x.toInt = X) (hY : y.toInt = Y) (hc : ¬ X = Y) (kf : W p l e R s m args below meth c H locs cells slots Q (F0 m (pc + 3) ls rest)) {tgt : Nat} (ht : (pc : Int) + off = (tgt : Int)) : W p l e R s m args below meth c H locs cells slots Q (F0 m pc ls (.int y :: .int x :: rest)) :=
  cs_eq hx hb hdg ht hX hY (fun h => absurd hc (by omega)) (fun _ => kf)
theorem bs_ne {x : Int32} {X : Int} {off : Int} {tgt : Nat} (hx : p.tables.exec = Jvm.exec) (hb : c.code = cc) (hdg : decode cc pc = .ok (.ifCond .ne off, 3)) (ht : (pc : Int) + off = (tgt : Int)) (hX : x.toInt = X) (kt : ¬ X = 0 → W p l e R s m args below meth c H locs cells slots Q (F0 m tgt ls rest)) (kf : X = 0 → W p l e R s m args below meth c H locs cells slots Q (F0 m (pc + 3) ls rest)) : W p l e R s m args below meth c H locs cells slots Q (F0 m pc ls (.int x :: rest)) :=
  lv_if_ne hx hb hdg ht (fun h => kt (by have z : (0 : Int32).toInt = 0 := rfl; have h2 := h; simp only [i32_eq, hX, z] at h2; omega)) (fun h => kf (by have z : (0 : Int32).toInt = 0 := rfl; have h2 := h; simp only [i32_eq, hX, z] at h2; omega))
theorem bt_ne {x : Int32} {X : Int} {off : Int} {tgt : Nat} (hx : p.tables.exec = Jvm.exec) (hb : c.code = cc) (hdg : decode cc pc = .ok (.ifCond .ne off, 3)) (ht : (pc : Int) + off = (tgt : Int)) (hX : x.toInt = X) (hc : ¬ X = 0) (kt : W p l e R s m args below meth c H locs cells slots Q (F0 m tgt ls rest)) : W p l e R s m args below meth c H locs cells slots Q (F0 m pc ls (.int x :: rest)) :=
  bs_ne hx hb hdg ht hX (fun _ => kt) (fun h => absurd hc (by omega))
theorem bn_ne {x : Int32} {X : Int} {off : Int} (hx : p.tables.exec = Jvm.exec) (hb : c.code = cc) (hdg : decode cc pc = .ok (.ifCond .ne off, 3)) (hX : x.toInt = X) (hc : X = 0) (kf : W p l e R s m args below meth c H locs cells slots Q (F0 m (pc + 3) ls rest)) {tgt : Nat} (ht : (pc : Int) + off = (tgt : Int)) : W p l e R s m args below meth c H locs cells slots Q (F0 m pc ls (.int x :: rest)) :=
  bs_ne hx hb hdg ht hX (fun h => absurd hc (by omega)) (fun _ => kf)
theorem cs_ne {x y : Int32} {X Y : Int} {off : Int} {tgt : Nat} (hx : p.tables.exec = Jvm.exec) (hb : c.code = cc) (hdg : decode cc pc = .ok (.if_icmp .ne off, 3)) (ht : (pc : Int) + off = (tgt : Int)) (hX : x.toInt = X) (hY : y.toInt = Y) (kt : ¬ X = Y → W p l e R s m args below meth c H locs cells slots Q (F0 m tgt ls rest)) (kf : X = Y → W p l e R s m args below meth c H locs cells slots Q (F0 m (pc + 3) ls rest)) : W p l e R s m args below meth c H locs cells slots Q (F0 m pc ls (.int y :: .int x :: rest)) :=
  lv_icmp_ne hx hb hdg ht (fun h => kt (by have h2 := h; simp only [i32_eq, hX, hY] at h2; omega)) (fun h => kf (by have h2 := h; simp only [i32_eq, hX, hY] at h2; omega))
theorem ct_ne {x y : Int32} {X Y : Int} {off : Int} {tgt : Nat} (hx : p.tables.exec = Jvm.exec) (hb : c.code = cc) (hdg : decode cc pc = .ok (.if_icmp .ne off, 3)) (ht : (pc : Int) + off = (tgt : Int)) (hX : x.toInt = X) (hY : y.toInt = Y) (hc : ¬ X = Y) (kt : W p l e R s m args below meth c H locs cells slots Q (F0 m tgt ls rest)) : W p l e R s m args below meth c H locs cells slots Q (F0 m pc ls (.int y :: .int x :: rest)) :=
  cs_ne hx hb hdg ht hX hY (fun _ => kt) (fun h => absurd hc (by omega))
theorem cn_ne {x y : Int32} {X Y : Int} {off : Int} (hx : p.tables.exec = Jvm.exec) (hb : c.code = cc) (hdg : decode cc pc = .ok (.if_icmp .ne off, 3)) (hX : x.toInt = X) (hY : y.toInt = Y) (hc : X = Y) (kf : W p l e R s m args below meth c H locs cells slots Q (F0 m (pc + 3) ls rest)) {tgt : Nat} (ht : (pc : Int) + off = (tgt : Int)) : W p l e R s m args below meth c H locs cells slots Q (F0 m pc ls (.int y :: .int x :: rest)) :=
  cs_ne hx hb hdg ht hX hY (fun h => absurd hc (by omega)) (fun _ => kf)
theorem bs_lt {x : Int32} {X : Int} {off : Int} {tgt : Nat} (hx : p.tables.exec = Jvm.exec) (hb : c.code = cc) (hdg : decode cc pc = .ok (.ifCond .lt off, 3)) (ht : (pc : Int) + off = (tgt : Int)) (hX : x.toInt = X) (kt : X < 0 → W p l e R s m args below meth c H locs cells slots Q (F0 m tgt ls rest)) (kf : 0 ≤ X → W p l e R s m args below meth c H locs cells slots Q (F0 m (pc + 3) ls rest)) : W p l e R s m args below meth c H locs cells slots Q (F0 m pc ls (.int x :: rest)) :=
  lv_if_lt hx hb hdg ht (fun h => kt (by have z : (0 : Int32).toInt = 0 := rfl; have h2 := h; simp only [i32_lt, hX, z] at h2; omega)) (fun h => kf (by have z : (0 : Int32).toInt = 0 := rfl; have h2 := h; simp only [i32_lt, hX, z] at h2; omega))
theorem bt_lt {x : Int32} {X : Int} {off : Int} {tgt : Nat} (hx : p.tables.exec = Jvm.exec) (hb : c.code = cc) (hdg : decode cc pc = .ok (.ifCond .lt off, 3)) (ht : (pc : Int) + off = (tgt : Int)) (hX : x.toInt = X) (hc : X < 0) (kt : W p l e R s m args below meth c H locs cells slots Q (F0 m tgt ls rest)) : W p l e R s m args below meth c H locs cells slots Q (F0 m pc ls (.int x :: rest)) :=
  bs_lt hx hb hdg ht hX (fun _ => kt) (fun h => absurd hc (by omega))
theorem bn_lt {x : Int32} {X : Int} {off : Int} (hx : p.tables.exec = Jvm.exec) (hb : c.code = cc) (hdg : decode cc pc = .ok (.ifCond .lt off, 3)) (hX : x.toInt = X) (hc : 0 ≤ X) (kf : W p l e R s m args below meth c H locs cells slots Q (F0 m (pc + 3) ls rest)) {tgt : Nat} (ht : (pc : Int) + off = (tgt : Int)) : W p l e R s m args below meth c H locs cells slots Q (F0 m pc ls (.int x :: rest)) :=
  bs_lt hx hb hdg ht hX (fun h => absurd hc (by omega)) (fun _ => kf)
theorem cs_lt {x y : Int32} {X Y : Int} {off : Int} {tgt : Nat} (hx : p.tables.exec = Jvm.exec) (hb : c.code = cc) (hdg : decode cc pc = .ok (.if_icmp .lt off, 3)) (ht : (pc : Int) + off = (tgt : Int)) (hX : x.toInt = X) (hY : y.toInt = Y) (kt : X < Y → W p l e R s m args below meth c H locs cells slots Q (F0 m tgt ls rest)) (kf : Y ≤ X → W p l e R s m args below meth c H locs cells slots Q (F0 m (pc + 3) ls rest)) : W p l e R s m args below meth c H locs cells slots Q (F0 m pc ls (.int y :: .int x :: rest)) :=
  lv_icmp_lt hx hb hdg ht (fun h => kt (by have h2 := h; simp only [i32_lt, hX, hY] at h2; omega)) (fun h => kf (by have h2 := h; simp only [i32_lt, hX, hY] at h2; omega))
theorem ct_lt {x y : Int32} {X Y : Int} {off : Int} {tgt : Nat} (hx : p.tables.exec = Jvm.exec) (hb : c.code = cc) (hdg : decode cc pc = .ok (.if_icmp .lt off, 3)) (ht : (pc : Int) + off = (tgt : Int)) (hX : x.toInt = X) (hY : y.toInt = Y) (hc : X < Y) (kt : W p l e R s m args below meth c H locs cells slots Q (F0 m tgt ls rest)) : W p l e R s m args below meth c H locs cells slots Q (F0 m pc ls (.int y :: .int x :: rest)) :=
  cs_lt hx hb hdg ht hX hY (fun _ => kt) (fun h => absurd hc (by omega))
theorem cn_lt {x y : Int32} {X Y : Int} {off : Int} (hx : p.tables.exec = Jvm.exec) (hb : c.code = cc) (hdg : decode cc pc = .ok (.if_icmp .lt off, 3)) (hX : x.toInt = X) (hY : y.toInt = Y) (hc : Y ≤ X) (kf : W p l e R s m args below meth c H locs cells slots Q (F0 m (pc + 3) ls rest)) {tgt : Nat} (ht : (pc : Int) + off = (tgt : Int)) : W p l e R s m args below meth c H locs cells slots Q (F0 m pc ls (.int y :: .int x :: rest)) :=
  cs_lt hx hb hdg ht hX hY (fun h => absurd hc (by omega)) (fun _ => kf)
theorem bs_ge {x : Int32} {X : Int} {off : Int} {tgt : Nat} (hx : p.tables.exec = Jvm.exec) (hb : c.code = cc) (hdg : decode cc pc = .ok (.ifCond .ge off, 3)) (ht : (pc : Int) + off = (tgt : Int)) (hX : x.toInt = X) (kt : 0 ≤ X → W p l e R s m args below meth c H locs cells slots Q (F0 m tgt ls rest)) (kf : X < 0 → W p l e R s m args below meth c H locs cells slots Q (F0 m (pc + 3) ls rest)) : W p l e R s m args below meth c H locs cells slots Q (F0 m pc ls (.int x :: rest)) :=
  lv_if_ge hx hb hdg ht (fun h => kt (by have z : (0 : Int32).toInt = 0 := rfl; have h2 := h; simp only [i32_le, hX, z] at h2; omega)) (fun h => kf (by have z : (0 : Int32).toInt = 0 := rfl; have h2 := h; simp only [i32_le, hX, z] at h2; omega))
theorem bt_ge {x : Int32} {X : Int} {off : Int} {tgt : Nat} (hx : p.tables.exec = Jvm.exec) (hb : c.code = cc) (hdg : decode cc pc = .ok (.ifCond .ge off, 3)) (ht : (pc : Int) + off = (tgt : Int)) (hX : x.toInt = X) (hc : 0 ≤ X) (kt : W p l e R s m args below meth c H locs cells slots Q (F0 m tgt ls rest)) : W p l e R s m args below meth c H locs cells slots Q (F0 m pc ls (.int x :: rest)) :=
  bs_ge hx hb hdg ht hX (fun _ => kt) (fun h => absurd hc (by omega))
theorem bn_ge {x : Int32} {X : Int} {off : Int} (hx : p.tables.exec = Jvm.exec) (hb : c.code = cc) (hdg : decode cc pc = .ok (.ifCond .ge off, 3)) (hX : x.toInt = X) (hc : X < 0) (kf : W p l e R s m args below meth c H locs cells slots Q (F0 m (pc + 3) ls rest)) {tgt : Nat} (ht : (pc : Int) + off = (tgt : Int)) : W p l e R s m args below meth c H locs cells slots Q (F0 m pc ls (.int x :: rest)) :=
  bs_ge hx hb hdg ht hX (fun h => absurd hc (by omega)) (fun _ => kf)
theorem cs_ge {x y : Int32} {X Y : Int} {off : Int} {tgt : Nat} (hx : p.tables.exec = Jvm.exec) (hb : c.code = cc) (hdg : decode cc pc = .ok (.if_icmp .ge off, 3)) (ht : (pc : Int) + off = (tgt : Int)) (hX : x.toInt = X) (hY : y.toInt = Y) (kt : Y ≤ X → W p l e R s m args below meth c H locs cells slots Q (F0 m tgt ls rest)) (kf : X < Y → W p l e R s m args below meth c H locs cells slots Q (F0 m (pc + 3) ls rest)) : W p l e R s m args below meth c H locs cells slots Q (F0 m pc ls (.int y :: .int x :: rest)) :=
  lv_icmp_ge hx hb hdg ht (fun h => kt (by have h2 := h; simp only [i32_le, hX, hY] at h2; omega)) (fun h => kf (by have h2 := h; simp only [i32_le, hX, hY] at h2; omega))
theorem ct_ge {x y : Int32} {X Y : Int} {off : Int} {tgt : Nat} (hx : p.tables.exec = Jvm.exec) (hb : c.code = cc) (hdg : decode cc pc = .ok (.if_icmp .ge off, 3)) (ht : (pc : Int) + off = (tgt : Int)) (hX : x.toInt = X) (hY : y.toInt = Y) (hc : Y ≤ X) (kt : W p l e R s m args below meth c H locs cells slots Q (F0 m tgt ls rest)) : W p l e R s m args below meth c H locs cells slots Q (F0 m pc ls (.int y :: .int x :: rest)) :=
  cs_ge hx hb hdg ht hX hY (fun _ => kt) (fun h => absurd hc (by omega))
theorem cn_ge {x y : Int32} {X Y : Int} {off : Int} (hx : p.tables.exec = Jvm.exec) (hb : c.code = cc) (hdg : decode cc pc = .ok (.if_icmp .ge off, 3)) (hX : x.toInt = X) (hY : y.toInt = Y) (hc : X < Y) (kf : W p l e R s m args below meth c H locs cells slots Q (F0 m (pc + 3) ls rest)) {tgt : Nat} (ht : (pc : Int) + off = (tgt : Int)) : W p l e R s m args below meth c H locs cells slots Q (F0 m pc ls (.int y :: .int x :: rest)) :=
  cs_ge hx hb hdg ht hX hY (fun h => absurd hc (by omega)) (fun _ => kf)
theorem bs_gt {x : Int32} {X : Int} {off : Int} {tgt : Nat} (hx : p.tables.exec = Jvm.exec) (hb : c.code = cc) (hdg : decode cc pc = .ok (.ifCond .gt off, 3)) (ht : (pc : Int) + off = (tgt : Int)) (hX : x.toInt = X) (kt : 0 < X → W p l e R s m args below meth c H locs cells slots Q (F0 m tgt ls rest)) (kf : X ≤ 0 → W p l e R s m args below meth c H locs cells slots Q (F0 m (pc + 3) ls rest)) : W p l e R s m args below meth c H locs cells slots Q (F0 m pc ls (.int x :: rest)) :=
  lv_if_gt hx hb hdg ht (fun h => kt (by have z : (0 : Int32).toInt = 0 := rfl; have h2 := h; simp only [i32_lt, hX, z] at h2; omega)) (fun h => kf (by have z : (0 : Int32).toInt = 0 := rfl; have h2 := h; simp only [i32_lt, hX, z] at h2; omega))
theorem bt_gt {x : Int32} {X : Int} {off : Int} {tgt : Nat} (hx : p.tables.exec = Jvm.exec) (hb : c.code = cc) (hdg : decode cc pc = .ok (.ifCond .gt off, 3)) (ht : (pc : Int) + off = (tgt : Int)) (hX : x.toInt = X) (hc : 0 < X) (kt : W p l e R s m args below meth c H locs cells slots Q (F0 m tgt ls rest)) : W p l e R s m args below meth c H locs cells slots Q (F0 m pc ls (.int x :: rest)) :=
  bs_gt hx hb hdg ht hX (fun _ => kt) (fun h => absurd hc (by omega))
theorem bn_gt {x : Int32} {X : Int} {off : Int} (hx : p.tables.exec = Jvm.exec) (hb : c.code = cc) (hdg : decode cc pc = .ok (.ifCond .gt off, 3)) (hX : x.toInt = X) (hc : X ≤ 0) (kf : W p l e R s m args below meth c H locs cells slots Q (F0 m (pc + 3) ls rest)) {tgt : Nat} (ht : (pc : Int) + off = (tgt : Int)) : W p l e R s m args below meth c H locs cells slots Q (F0 m pc ls (.int x :: rest)) :=
  bs_gt hx hb hdg ht hX (fun h => absurd hc (by omega)) (fun _ => kf)
theorem cs_gt {x y : Int32} {X Y : Int} {off : Int} {tgt : Nat} (hx : p.tables.exec = Jvm.exec) (hb : c.code = cc) (hdg : decode cc pc = .ok (.if_icmp .gt off, 3)) (ht : (pc : Int) + off = (tgt : Int)) (hX : x.toInt = X) (hY : y.toInt = Y) (kt : Y < X → W p l e R s m args below meth c H locs cells slots Q (F0 m tgt ls rest)) (kf : X ≤ Y → W p l e R s m args below meth c H locs cells slots Q (F0 m (pc + 3) ls rest)) : W p l e R s m args below meth c H locs cells slots Q (F0 m pc ls (.int y :: .int x :: rest)) :=
  lv_icmp_gt hx hb hdg ht (fun h => kt (by have h2 := h; simp only [i32_lt, hX, hY] at h2; omega)) (fun h => kf (by have h2 := h; simp only [i32_lt, hX, hY] at h2; omega))
theorem ct_gt {x y : Int32} {X Y : Int} {off : Int} {tgt : Nat} (hx : p.tables.exec = Jvm.exec) (hb : c.code = cc) (hdg : decode cc pc = .ok (.if_icmp .gt off, 3)) (ht : (pc : Int) + off = (tgt : Int)) (hX : x.toInt = X) (hY : y.toInt = Y) (hc : Y < X) (kt : W p l e R s m args below meth c H locs cells slots Q (F0 m tgt ls rest)) : W p l e R s m args below meth c H locs cells slots Q (F0 m pc ls (.int y :: .int x :: rest)) :=
  cs_gt hx hb hdg ht hX hY (fun _ => kt) (fun h => absurd hc (by omega))
theorem cn_gt {x y : Int32} {X Y : Int} {off : Int} (hx : p.tables.exec = Jvm.exec) (hb : c.code = cc) (hdg : decode cc pc = .ok (.if_icmp .gt off, 3)) (hX : x.toInt = X) (hY : y.toInt = Y) (hc : X ≤ Y) (kf : W p l e R s m args below meth c H locs cells slots Q (F0 m (pc + 3) ls rest)) {tgt : Nat} (ht : (pc : Int) + off = (tgt : Int)) : W p l e R s m args below meth c H locs cells slots Q (F0 m pc ls (.int y :: .int x :: rest)) :=
  cs_gt hx hb hdg ht hX hY (fun h => absurd hc (by omega)) (fun _ => kf)
theorem bs_le {x : Int32} {X : Int} {off : Int} {tgt : Nat} (hx : p.tables.exec = Jvm.exec) (hb : c.code = cc) (hdg : decode cc pc = .ok (.ifCond .le off, 3)) (ht : (pc : Int) + off = (tgt : Int)) (hX : x.toInt = X) (kt : X ≤ 0 → W p l e R s m args below meth c H locs cells slots Q (F0 m tgt ls rest)) (kf : 0 < X → W p l e R s m args below meth c H locs cells slots Q (F0 m (pc + 3) ls rest)) : W p l e R s m args below meth c H locs cells slots Q (F0 m pc ls (.int x :: rest)) :=
  lv_if_le hx hb hdg ht (fun h => kt (by have z : (0 : Int32).toInt = 0 := rfl; have h2 := h; simp only [i32_le, hX, z] at h2; omega)) (fun h => kf (by have z : (0 : Int32).toInt = 0 := rfl; have h2 := h; simp only [i32_le, hX, z] at h2; omega))
theorem bt_le {x : Int32} {X : Int} {off : Int} {tgt : Nat} (hx : p.tables.exec = Jvm.exec) (hb : c.code = cc) (hdg : decode cc pc = .ok (.ifCond .le off, 3)) (ht : (pc : Int) + off = (tgt : Int)) (hX : x.toInt = X) (hc : X ≤ 0) (kt : W p l e R s m args below meth c H locs cells slots Q (F0 m tgt ls rest)) : W p l e R s m args below meth c H locs cells slots Q (F0 m pc ls (.int x :: rest)) :=
  bs_le hx hb hdg ht hX (fun _ => kt) (fun h => absurd hc (by omega))
theorem bn_le {x : Int32} {X : Int} {off : Int} (hx : p.tables.exec = Jvm.exec) (hb : c.code = cc) (hdg : decode cc pc = .ok (.ifCond .le off, 3)) (hX : x.toInt = X) (hc : 0 < X) (kf : W p l e R s m args below meth c H locs cells slots Q (F0 m (pc + 3) ls rest)) {tgt : Nat} (ht : (pc : Int) + off = (tgt : Int)) : W p l e R s m args below meth c H locs cells slots Q (F0 m pc ls (.int x :: rest)) :=
  bs_le hx hb hdg ht hX (fun h => absurd hc (by omega)) (fun _ => kf)
theorem cs_le {x y : Int32} {X Y : Int} {off : Int} {tgt : Nat} (hx : p.tables.exec = Jvm.exec) (hb : c.code = cc) (hdg : decode cc pc = .ok (.if_icmp .le off, 3)) (ht : (pc : Int) + off = (tgt : Int)) (hX : x.toInt = X) (hY : y.toInt = Y) (kt : X ≤ Y → W p l e R s m args below meth c H locs cells slots Q (F0 m tgt ls rest)) (kf : Y < X → W p l e R s m args below meth c H locs cells slots Q (F0 m (pc + 3) ls rest)) : W p l e R s m args below meth c H locs cells slots Q (F0 m pc ls (.int y :: .int x :: rest)) :=
  lv_icmp_le hx hb hdg ht (fun h => kt (by have h2 := h; simp only [i32_le, hX, hY] at h2; omega)) (fun h => kf (by have h2 := h; simp only [i32_le, hX, hY] at h2; omega))
theorem ct_le {x y : Int32} {X Y : Int} {off : Int} {tgt : Nat} (hx : p.tables.exec = Jvm.exec) (hb : c.code = cc) (hdg : decode cc pc = .ok (.if_icmp .le off, 3)) (ht : (pc : Int) + off = (tgt : Int)) (hX : x.toInt = X) (hY : y.toInt = Y) (hc : X ≤ Y) (kt : W p l e R s m args below meth c H locs cells slots Q (F0 m tgt ls rest)) : W p l e R s m args below meth c H locs cells slots Q (F0 m pc ls (.int y :: .int x :: rest)) :=
  cs_le hx hb hdg ht hX hY (fun _ => kt) (fun h => absurd hc (by omega))
theorem cn_le {x y : Int32} {X Y : Int} {off : Int} (hx : p.tables.exec = Jvm.exec) (hb : c.code = cc) (hdg : decode cc pc = .ok (.if_icmp .le off, 3)) (hX : x.toInt = X) (hY : y.toInt = Y) (hc : Y < X) (kf : W p l e R s m args below meth c H locs cells slots Q (F0 m (pc + 3) ls rest)) {tgt : Nat} (ht : (pc : Int) + off = (tgt : Int)) : W p l e R s m args below meth c H locs cells slots Q (F0 m pc ls (.int y :: .int x :: rest)) :=
  cs_le hx hb hdg ht hX hY (fun h => absurd hc (by omega)) (fun _ => kf)
end BR
end
section
def q_end (n : Int32) : Int32 := if n.toInt = 0 then 0 else -1
def q_term (n : Int32) : Int32 := if 0 ≤ n.toInt ∧ n.toInt ≤ 30 then 0 else -1
def q_prec (n : Int32) : Int32 := if 0 ≤ n.toInt ∧ n.toInt ≤ 99 then 0 else -1
def q_odds (n q : Int32) : Int32 := if (0 ≤ n.toInt ∧ n.toInt ≤ 4) ∧ 0 ≤ q.toInt ∧ q.toInt ≤ 1 then 1 else -1
def q_later (x : Int32) : Int32 := if 0 ≤ x.toInt ∧ x.toInt ≤ 1000 then x else -1
def q_about (w : Int32) : Int32 := if 0 ≤ w.toInt ∧ w.toInt ≤ 15 ∧ ¬ w.toInt = 4 then 0 else -1
def q_rest (w : Int32) : Int32 := if 8 ≤ w.toInt ∧ w.toInt ≤ 14 then 0 else -1
def q_image (b : Int32) : Int32 := if 0 ≤ b.toInt ∧ b.toInt ≤ 2 then 0 else -1
theorem dX2_hasKnot_0 : decode cX2_hasKnot 0 = .ok (.iload_n 1, 1) := by decide +kernel
theorem dX2_hasKnot_1 : decode cX2_hasKnot 1 = .ok (.ifCond .lt 18, 3) := by decide +kernel
theorem dX2_hasKnot_4 : decode cX2_hasKnot 4 = .ok (.iload_n 1, 1) := by decide +kernel
theorem dX2_hasKnot_5 : decode cX2_hasKnot 5 = .ok (.aload_n 0, 1) := by decide +kernel
theorem dX2_hasKnot_6 : decode cX2_hasKnot 6 = .ok (.getfield 15, 3) := by decide +kernel
theorem dX2_hasKnot_9 : decode cX2_hasKnot 9 = .ok (.getfield 19, 3) := by decide +kernel
theorem dX2_hasKnot_12 : decode cX2_hasKnot 12 = .ok (.if_icmp .ge 7, 3) := by decide +kernel
theorem dX2_hasKnot_15 : decode cX2_hasKnot 15 = .ok (.iconst 1, 1) := by decide +kernel
theorem dX2_hasKnot_16 : decode cX2_hasKnot 16 = .ok (.goto 4, 3) := by decide +kernel
theorem dX2_hasKnot_19 : decode cX2_hasKnot 19 = .ok (.iconst 0, 1) := by decide +kernel
theorem dX2_hasKnot_20 : decode cX2_hasKnot 20 = .ok (.ireturn, 1) := by decide +kernel
theorem wd_820 : (Cond.code ⟨"WebCourt$Court", "hasKnot", "(I)Z"⟩ prog_4_method_3_code (2 : Nat) (Option.some FieldType.boolean)) ∈ gtb := gtb_c3 231 (by decide +kernel) rfl
theorem wd_358 : (Cond.fieldLink "WebCourt$Court" (15 : Nat) "WebCourt$Court" "web" "LWebCourt$Web;") ∈ gtb := gtb_c2 9 (by decide +kernel) rfl
theorem wd_363 : (Cond.laysFinal "WebCourt$Court" "WebCourt$Court" "row" "[I") ∈ gtb := gtb_c2 14 (by decide +kernel) rfl
theorem wd_365 : (Cond.lays "WebCourt$Court" "WebCourt$Court" "web" "LWebCourt$Web;") ∈ gtb := gtb_c2 16 (by decide +kernel) rfl
theorem inFX2 : ∀ w ∈ u_ws RX2 TX2 2, w ∈ gtb := by
  show ∀ w ∈ [u_lay RX2 TX2 0, u_lay RX2 TX2 1], w ∈ gtb
  exact List.forall_mem_cons.mpr ⟨wd_363, List.forall_mem_cons.mpr ⟨wd_365, fun _ h => absurd h List.not_mem_nil⟩⟩
theorem gf_RX2_15 {p : Program} {l : Launch} {e : Env} {R : Room} {s : State} {m : MethodId} {args : Array Value} {below : List Frame} {meth : Method} {c : Code} {H : Heap} {locs : List Loc} {cells slots : Nat} {Q : State → Prop} {cc : ByteArray} {pc nL : Nat} {ls : Array Slot} {rest : List Value} {D : va_G} {cy : Nat → ClassId} {A : Nat → Prop} {ws : va_W} {b : Nat} {fs : List Value} {v : Value} (C : Cx p s m args c cc nL RX2 D cy A) (hO : Wo D A ws s.heap H locs) (q0 : Nat) (he : ws[q0]? = some (b, .inr (2, fs))) (hv : fs[1]? = some v) (hdg : decode cc pc = .ok (.getfield 15, 3)) (kk : W p l e R s m args below meth c H locs cells slots Q (F0 m (pc + 3) ls (v :: rest))) : W p l e R s m args below meth c H locs cells slots Q (F0 m pc ls (.ref b :: rest)) := gF (k := 1) C hO q0 he rfl inFX2 (by decide) wd_358 rfl hv hdg kk
theorem wd_252 : (Cond.fieldLink "WebCourt$Court" (19 : Nat) "WebCourt$Web" "knots" "I") ∈ gtb := gtb_c1 143 (by decide +kernel) rfl
theorem wd_289 : (Cond.laysFinal "WebCourt$Web" "WebCourt$Web" "knotNames" "[J") ∈ gtb := gtb_c1 180 (by decide +kernel) rfl
theorem wd_291 : (Cond.laysFinal "WebCourt$Web" "WebCourt$Web" "pleaNames" "[J") ∈ gtb := gtb_c1 182 (by decide +kernel) rfl
theorem wd_293 : (Cond.laysFinal "WebCourt$Web" "WebCourt$Web" "caseNames" "[J") ∈ gtb := gtb_c1 184 (by decide +kernel) rfl
theorem wd_295 : (Cond.laysFinal "WebCourt$Web" "WebCourt$Web" "lineFrom" "[I") ∈ gtb := gtb_c1 186 (by decide +kernel) rfl
theorem wd_297 : (Cond.laysFinal "WebCourt$Web" "WebCourt$Web" "lineTo" "[I") ∈ gtb := gtb_c1 188 (by decide +kernel) rfl
theorem wd_299 : (Cond.laysFinal "WebCourt$Web" "WebCourt$Web" "strong" "[I") ∈ gtb := gtb_c1 190 (by decide +kernel) rfl
theorem wd_301 : (Cond.laysFinal "WebCourt$Web" "WebCourt$Web" "caseKnots" "[I") ∈ gtb := gtb_c1 192 (by decide +kernel) rfl
theorem wd_303 : (Cond.laysFinal "WebCourt$Web" "WebCourt$Web" "casePleas" "[I") ∈ gtb := gtb_c1 194 (by decide +kernel) rfl
theorem wd_305 : (Cond.laysFinal "WebCourt$Web" "WebCourt$Web" "law" "LWebCourt$Law;") ∈ gtb := gtb_c1 196 (by decide +kernel) rfl
theorem wd_307 : (Cond.lays "WebCourt$Web" "WebCourt$Web" "knots" "I") ∈ gtb := gtb_c1 198 (by decide +kernel) rfl
theorem wd_309 : (Cond.lays "WebCourt$Web" "WebCourt$Web" "lines" "I") ∈ gtb := gtb_c1 200 (by decide +kernel) rfl
theorem wd_311 : (Cond.lays "WebCourt$Web" "WebCourt$Web" "pleas" "I") ∈ gtb := gtb_c1 202 (by decide +kernel) rfl
theorem wd_313 : (Cond.lays "WebCourt$Web" "WebCourt$Web" "cases" "I") ∈ gtb := gtb_c1 204 (by decide +kernel) rfl
theorem wd_315 : (Cond.lays "WebCourt$Web" "WebCourt$Web" "sticky" "I") ∈ gtb := gtb_c1 206 (by decide +kernel) rfl
theorem wd_317 : (Cond.lays "WebCourt$Web" "WebCourt$Web" "bench" "I") ∈ gtb := gtb_c1 208 (by decide +kernel) rfl
theorem wd_319 : (Cond.lays "WebCourt$Web" "WebCourt$Web" "back" "I") ∈ gtb := gtb_c1 210 (by decide +kernel) rfl
theorem wd_321 : (Cond.lays "WebCourt$Web" "WebCourt$Web" "draw" "I") ∈ gtb := gtb_c1 212 (by decide +kernel) rfl
theorem wd_323 : (Cond.lays "WebCourt$Web" "WebCourt$Web" "toldOnce" "I") ∈ gtb := gtb_c1 214 (by decide +kernel) rfl
theorem inFX9 : ∀ w ∈ u_ws RX9 TX9 18, w ∈ gtb := by
  show ∀ w ∈ [u_lay RX9 TX9 0, u_lay RX9 TX9 1, u_lay RX9 TX9 2, u_lay RX9 TX9 3, u_lay RX9 TX9 4, u_lay RX9 TX9 5, u_lay RX9 TX9 6, u_lay RX9 TX9 7, u_lay RX9 TX9 8, u_lay RX9 TX9 9, u_lay RX9 TX9 10, u_lay RX9 TX9 11, u_lay RX9 TX9 12, u_lay RX9 TX9 13, u_lay RX9 TX9 14, u_lay RX9 TX9 15, u_lay RX9 TX9 16, u_lay RX9 TX9 17], w ∈ gtb
  exact List.forall_mem_cons.mpr ⟨wd_289, List.forall_mem_cons.mpr ⟨wd_291, List.forall_mem_cons.mpr ⟨wd_293, List.forall_mem_cons.mpr ⟨wd_295, List.forall_mem_cons.mpr ⟨wd_297, List.forall_mem_cons.mpr ⟨wd_299, List.forall_mem_cons.mpr ⟨wd_301, List.forall_mem_cons.mpr ⟨wd_303, List.forall_mem_cons.mpr ⟨wd_305, List.forall_mem_cons.mpr ⟨wd_307, List.forall_mem_cons.mpr ⟨wd_309, List.forall_mem_cons.mpr ⟨wd_311, List.forall_mem_cons.mpr ⟨wd_313, List.forall_mem_cons.mpr ⟨wd_315, List.forall_mem_cons.mpr ⟨wd_317, List.forall_mem_cons.mpr ⟨wd_319, List.forall_mem_cons.mpr ⟨wd_321, List.forall_mem_cons.mpr ⟨wd_323, fun _ h => absurd h List.not_mem_nil⟩⟩⟩⟩⟩⟩⟩⟩⟩⟩⟩⟩⟩⟩⟩⟩⟩⟩
theorem gf_RX2_19 {p : Program} {l : Launch} {e : Env} {R : Room} {s : State} {m : MethodId} {args : Array Value} {below : List Frame} {meth : Method} {c : Code} {H : Heap} {locs : List Loc} {cells slots : Nat} {Q : State → Prop} {cc : ByteArray} {pc nL : Nat} {ls : Array Slot} {rest : List Value} {D : va_G} {cy : Nat → ClassId} {A : Nat → Prop} {ws : va_W} {b : Nat} {fs : List Value} {v : Value} (C : Cx p s m args c cc nL RX2 D cy A) (hO : Wo D A ws s.heap H locs) (q0 : Nat) (he : ws[q0]? = some (b, .inr (9, fs))) (hv : fs[9]? = some v) (hdg : decode cc pc = .ok (.getfield 19, 3)) (kk : W p l e R s m args below meth c H locs cells slots Q (F0 m (pc + 3) ls (v :: rest))) : W p l e R s m args below meth c H locs cells slots Q (F0 m pc ls (.ref b :: rest)) := gF (k := 9) C hO q0 he rfl inFX9 (by decide) wd_252 rfl hv hdg kk
set_option maxHeartbeats 4000000 in
set_option maxRecDepth 100000 in
theorem T_X2_hasKnot (l : Launch) (D : va_G) (cy : Nat → ClassId) (a : Nat → Nat) (u : St) (hI_3_9 : fI u 3 9 = 0) (hR_0 : fR u 0 = a 3) (x1 : Int32)  : Mi l D cy (cW cy a) yX2_hasKnot (.code yX2_hasKnot cX2_hasKnot 2 (some .boolean)) (rmo 0 0) [.ref (a 28), .int x1] u (fun (r : Int32) (u' : St) => r = 0 ∧ u' = u) := by
  refine Mi.of (own := RX2) rfl (by decide) (Nat.le_of_ble_eq_true rfl) ?_
  intro p e s m below meth c A Q ls C hret hO hl
  obtain ⟨hx, hb, hml, hown, ht, hK, hA⟩ := id C
  have hl : lv_has ls 2 [(0, .ref (a 28)), (1, .int x1)] := hl
  refine lv_iload_n hx hb dX2_hasKnot_0 rfl (lv_at hl 1 rfl) ?_
  refine bs_lt (tgt := 19) (X := (x1).toInt) hx hb dX2_hasKnot_1 (by decide) rfl (fun c1 => ?_) (fun c1 => ?_)
  · refine lv_iconst (v := 0) hx hb dX2_hasKnot_19 (by decide) ?_
    refine hret _ _ _ _ _ _ dX2_hasKnot_20 rfl ?_ hO
    exact ⟨rfl, rfl⟩
  · refine lv_iload_n hx hb dX2_hasKnot_4 rfl (lv_at hl 1 rfl) ?_
    refine lv_aload_n hx hb dX2_hasKnot_5 rfl (lv_at hl 0 rfl) ?_
    refine gf_RX2_15 (v := .ref (a 3)) C hO 28 cW_28 (congrArg (fun z : Nat => some (Value.ref z)) hR_0) dX2_hasKnot_6 ?_
    refine gf_RX2_19 (v := .int 0) C hO 3 cW_3 (congrArg (fun z : Int32 => some (Value.int z)) hI_3_9) dX2_hasKnot_9 ?_
    refine ct_ge (tgt := 19) (X := (x1).toInt) (Y := 0) hx hb dX2_hasKnot_12 (by decide) rfl rfl (by omega) ?_
    refine lv_iconst (v := 0) hx hb dX2_hasKnot_19 (by decide) ?_
    refine hret _ _ _ _ _ _ dX2_hasKnot_20 rfl ?_ hO
    exact ⟨rfl, rfl⟩
theorem dX2_hasPlea_0 : decode cX2_hasPlea 0 = .ok (.iload_n 1, 1) := by decide +kernel
theorem dX2_hasPlea_1 : decode cX2_hasPlea 1 = .ok (.ifCond .lt 18, 3) := by decide +kernel
theorem dX2_hasPlea_4 : decode cX2_hasPlea 4 = .ok (.iload_n 1, 1) := by decide +kernel
theorem dX2_hasPlea_5 : decode cX2_hasPlea 5 = .ok (.aload_n 0, 1) := by decide +kernel
theorem dX2_hasPlea_6 : decode cX2_hasPlea 6 = .ok (.getfield 15, 3) := by decide +kernel
theorem dX2_hasPlea_9 : decode cX2_hasPlea 9 = .ok (.getfield 40, 3) := by decide +kernel
theorem dX2_hasPlea_12 : decode cX2_hasPlea 12 = .ok (.if_icmp .ge 7, 3) := by decide +kernel
theorem dX2_hasPlea_15 : decode cX2_hasPlea 15 = .ok (.iconst 1, 1) := by decide +kernel
theorem dX2_hasPlea_16 : decode cX2_hasPlea 16 = .ok (.goto 4, 3) := by decide +kernel
theorem dX2_hasPlea_19 : decode cX2_hasPlea 19 = .ok (.iconst 0, 1) := by decide +kernel
theorem dX2_hasPlea_20 : decode cX2_hasPlea 20 = .ok (.ireturn, 1) := by decide +kernel
theorem wd_836 : (Cond.code ⟨"WebCourt$Court", "hasPlea", "(I)Z"⟩ prog_4_method_4_code (2 : Nat) (Option.some FieldType.boolean)) ∈ gtb := gtb_c4 7 (by decide +kernel) rfl
theorem wd_263 : (Cond.fieldLink "WebCourt$Court" (40 : Nat) "WebCourt$Web" "pleas" "I") ∈ gtb := gtb_c1 154 (by decide +kernel) rfl
theorem gf_RX2_40 {p : Program} {l : Launch} {e : Env} {R : Room} {s : State} {m : MethodId} {args : Array Value} {below : List Frame} {meth : Method} {c : Code} {H : Heap} {locs : List Loc} {cells slots : Nat} {Q : State → Prop} {cc : ByteArray} {pc nL : Nat} {ls : Array Slot} {rest : List Value} {D : va_G} {cy : Nat → ClassId} {A : Nat → Prop} {ws : va_W} {b : Nat} {fs : List Value} {v : Value} (C : Cx p s m args c cc nL RX2 D cy A) (hO : Wo D A ws s.heap H locs) (q0 : Nat) (he : ws[q0]? = some (b, .inr (9, fs))) (hv : fs[11]? = some v) (hdg : decode cc pc = .ok (.getfield 40, 3)) (kk : W p l e R s m args below meth c H locs cells slots Q (F0 m (pc + 3) ls (v :: rest))) : W p l e R s m args below meth c H locs cells slots Q (F0 m pc ls (.ref b :: rest)) := gF (k := 11) C hO q0 he rfl inFX9 (by decide) wd_263 rfl hv hdg kk
set_option maxHeartbeats 4000000 in
set_option maxRecDepth 100000 in
theorem T_X2_hasPlea (l : Launch) (D : va_G) (cy : Nat → ClassId) (a : Nat → Nat) (u : St) (hI_3_11 : fI u 3 11 = 0) (hR_0 : fR u 0 = a 3) (x1 : Int32)  : Mi l D cy (cW cy a) yX2_hasPlea (.code yX2_hasPlea cX2_hasPlea 2 (some .boolean)) (rmo 0 0) [.ref (a 28), .int x1] u (fun (r : Int32) (u' : St) => r = 0 ∧ u' = u) := by
  refine Mi.of (own := RX2) rfl (by decide) (Nat.le_of_ble_eq_true rfl) ?_
  intro p e s m below meth c A Q ls C hret hO hl
  obtain ⟨hx, hb, hml, hown, ht, hK, hA⟩ := id C
  have hl : lv_has ls 2 [(0, .ref (a 28)), (1, .int x1)] := hl
  refine lv_iload_n hx hb dX2_hasPlea_0 rfl (lv_at hl 1 rfl) ?_
  refine bs_lt (tgt := 19) (X := (x1).toInt) hx hb dX2_hasPlea_1 (by decide) rfl (fun c1 => ?_) (fun c1 => ?_)
  · refine lv_iconst (v := 0) hx hb dX2_hasPlea_19 (by decide) ?_
    refine hret _ _ _ _ _ _ dX2_hasPlea_20 rfl ?_ hO
    exact ⟨rfl, rfl⟩
  · refine lv_iload_n hx hb dX2_hasPlea_4 rfl (lv_at hl 1 rfl) ?_
    refine lv_aload_n hx hb dX2_hasPlea_5 rfl (lv_at hl 0 rfl) ?_
    refine gf_RX2_15 (v := .ref (a 3)) C hO 28 cW_28 (congrArg (fun z : Nat => some (Value.ref z)) hR_0) dX2_hasPlea_6 ?_
    refine gf_RX2_40 (v := .int 0) C hO 3 cW_3 (congrArg (fun z : Int32 => some (Value.int z)) hI_3_11) dX2_hasPlea_9 ?_
    refine ct_ge (tgt := 19) (X := (x1).toInt) (Y := 0) hx hb dX2_hasPlea_12 (by decide) rfl rfl (by omega) ?_
    refine lv_iconst (v := 0) hx hb dX2_hasPlea_19 (by decide) ?_
    refine hret _ _ _ _ _ _ dX2_hasPlea_20 rfl ?_ hO
    exact ⟨rfl, rfl⟩
theorem dX2_hasCase_0 : decode cX2_hasCase 0 = .ok (.iload_n 1, 1) := by decide +kernel
theorem dX2_hasCase_1 : decode cX2_hasCase 1 = .ok (.ifCond .lt 18, 3) := by decide +kernel
theorem dX2_hasCase_4 : decode cX2_hasCase 4 = .ok (.iload_n 1, 1) := by decide +kernel
theorem dX2_hasCase_5 : decode cX2_hasCase 5 = .ok (.aload_n 0, 1) := by decide +kernel
theorem dX2_hasCase_6 : decode cX2_hasCase 6 = .ok (.getfield 15, 3) := by decide +kernel
theorem dX2_hasCase_9 : decode cX2_hasCase 9 = .ok (.getfield 34, 3) := by decide +kernel
theorem dX2_hasCase_12 : decode cX2_hasCase 12 = .ok (.if_icmp .ge 7, 3) := by decide +kernel
theorem dX2_hasCase_15 : decode cX2_hasCase 15 = .ok (.iconst 1, 1) := by decide +kernel
theorem dX2_hasCase_16 : decode cX2_hasCase 16 = .ok (.goto 4, 3) := by decide +kernel
theorem dX2_hasCase_19 : decode cX2_hasCase 19 = .ok (.iconst 0, 1) := by decide +kernel
theorem dX2_hasCase_20 : decode cX2_hasCase 20 = .ok (.ireturn, 1) := by decide +kernel
theorem wd_844 : (Cond.code ⟨"WebCourt$Court", "hasCase", "(I)Z"⟩ prog_4_method_5_code (2 : Nat) (Option.some FieldType.boolean)) ∈ gtb := gtb_c4 15 (by decide +kernel) rfl
theorem wd_269 : (Cond.fieldLink "WebCourt$Court" (34 : Nat) "WebCourt$Web" "cases" "I") ∈ gtb := gtb_c1 160 (by decide +kernel) rfl
theorem gf_RX2_34 {p : Program} {l : Launch} {e : Env} {R : Room} {s : State} {m : MethodId} {args : Array Value} {below : List Frame} {meth : Method} {c : Code} {H : Heap} {locs : List Loc} {cells slots : Nat} {Q : State → Prop} {cc : ByteArray} {pc nL : Nat} {ls : Array Slot} {rest : List Value} {D : va_G} {cy : Nat → ClassId} {A : Nat → Prop} {ws : va_W} {b : Nat} {fs : List Value} {v : Value} (C : Cx p s m args c cc nL RX2 D cy A) (hO : Wo D A ws s.heap H locs) (q0 : Nat) (he : ws[q0]? = some (b, .inr (9, fs))) (hv : fs[12]? = some v) (hdg : decode cc pc = .ok (.getfield 34, 3)) (kk : W p l e R s m args below meth c H locs cells slots Q (F0 m (pc + 3) ls (v :: rest))) : W p l e R s m args below meth c H locs cells slots Q (F0 m pc ls (.ref b :: rest)) := gF (k := 12) C hO q0 he rfl inFX9 (by decide) wd_269 rfl hv hdg kk
set_option maxHeartbeats 4000000 in
set_option maxRecDepth 100000 in
theorem T_X2_hasCase (l : Launch) (D : va_G) (cy : Nat → ClassId) (a : Nat → Nat) (u : St) (hI_3_12 : fI u 3 12 = 0) (hR_0 : fR u 0 = a 3) (x1 : Int32)  : Mi l D cy (cW cy a) yX2_hasCase (.code yX2_hasCase cX2_hasCase 2 (some .boolean)) (rmo 0 0) [.ref (a 28), .int x1] u (fun (r : Int32) (u' : St) => r = 0 ∧ u' = u) := by
  refine Mi.of (own := RX2) rfl (by decide) (Nat.le_of_ble_eq_true rfl) ?_
  intro p e s m below meth c A Q ls C hret hO hl
  obtain ⟨hx, hb, hml, hown, ht, hK, hA⟩ := id C
  have hl : lv_has ls 2 [(0, .ref (a 28)), (1, .int x1)] := hl
  refine lv_iload_n hx hb dX2_hasCase_0 rfl (lv_at hl 1 rfl) ?_
  refine bs_lt (tgt := 19) (X := (x1).toInt) hx hb dX2_hasCase_1 (by decide) rfl (fun c1 => ?_) (fun c1 => ?_)
  · refine lv_iconst (v := 0) hx hb dX2_hasCase_19 (by decide) ?_
    refine hret _ _ _ _ _ _ dX2_hasCase_20 rfl ?_ hO
    exact ⟨rfl, rfl⟩
  · refine lv_iload_n hx hb dX2_hasCase_4 rfl (lv_at hl 1 rfl) ?_
    refine lv_aload_n hx hb dX2_hasCase_5 rfl (lv_at hl 0 rfl) ?_
    refine gf_RX2_15 (v := .ref (a 3)) C hO 28 cW_28 (congrArg (fun z : Nat => some (Value.ref z)) hR_0) dX2_hasCase_6 ?_
    refine gf_RX2_34 (v := .int 0) C hO 3 cW_3 (congrArg (fun z : Int32 => some (Value.int z)) hI_3_12) dX2_hasCase_9 ?_
    refine ct_ge (tgt := 19) (X := (x1).toInt) (Y := 0) hx hb dX2_hasCase_12 (by decide) rfl rfl (by omega) ?_
    refine lv_iconst (v := 0) hx hb dX2_hasCase_19 (by decide) ?_
    refine hret _ _ _ _ _ _ dX2_hasCase_20 rfl ?_ hO
    exact ⟨rfl, rfl⟩
theorem dX2_isHeld_0 : decode cX2_isHeld 0 = .ok (.aload_n 0, 1) := by decide +kernel
theorem dX2_isHeld_1 : decode cX2_isHeld 1 = .ok (.iload_n 1, 1) := by decide +kernel
theorem dX2_isHeld_2 : decode cX2_isHeld 2 = .ok (.invokevirtual 43, 3) := by decide +kernel
theorem dX2_isHeld_5 : decode cX2_isHeld 5 = .ok (.ifCond .eq 18, 3) := by decide +kernel
theorem dX2_isHeld_8 : decode cX2_isHeld 8 = .ok (.aload_n 0, 1) := by decide +kernel
theorem dX2_isHeld_9 : decode cX2_isHeld 9 = .ok (.getfield 9, 3) := by decide +kernel
theorem dX2_isHeld_12 : decode cX2_isHeld 12 = .ok (.iconst 5, 1) := by decide +kernel
theorem dX2_isHeld_13 : decode cX2_isHeld 13 = .ok (.iload_n 1, 1) := by decide +kernel
theorem dX2_isHeld_14 : decode cX2_isHeld 14 = .ok (.iadd, 1) := by decide +kernel
theorem dX2_isHeld_15 : decode cX2_isHeld 15 = .ok (.iaload, 1) := by decide +kernel
theorem dX2_isHeld_16 : decode cX2_isHeld 16 = .ok (.ifCond .ne 7, 3) := by decide +kernel
theorem dX2_isHeld_19 : decode cX2_isHeld 19 = .ok (.iconst 1, 1) := by decide +kernel
theorem dX2_isHeld_20 : decode cX2_isHeld 20 = .ok (.goto 4, 3) := by decide +kernel
theorem dX2_isHeld_23 : decode cX2_isHeld 23 = .ok (.iconst 0, 1) := by decide +kernel
theorem dX2_isHeld_24 : decode cX2_isHeld 24 = .ok (.ireturn, 1) := by decide +kernel
theorem wd_932 : (Cond.code ⟨"WebCourt$Court", "isHeld", "(I)Z"⟩ prog_4_method_6_code (2 : Nat) (Option.some FieldType.boolean)) ∈ gtb := gtb_c4 103 (by decide +kernel) rfl
theorem wd_933 : (Cond.methodLink "WebCourt$Court" (43 : Nat) ⟨"WebCourt$Court", "hasCase", "(I)Z"⟩) ∈ gtb := gtb_c4 104 (by decide +kernel) rfl
theorem wd_842 : (Cond.instanceMethod ⟨"WebCourt$Court", "hasCase", "(I)Z"⟩) ∈ gtb := gtb_c4 13 (by decide +kernel) rfl
theorem wd_843 : (Cond.selects "WebCourt$Court" ⟨"WebCourt$Court", "hasCase", "(I)Z"⟩ ⟨"WebCourt$Court", "hasCase", "(I)Z"⟩) ∈ gtb := gtb_c4 14 (by decide +kernel) rfl
theorem wd_115 : (Cond.initialized "WebCourt$Court") ∈ gtb := gtb_c1 6 (by decide +kernel) rfl
theorem hd_yX2_hasCase : yX2_hasCase.cls = RX2 ∧ yX2_hasCase.cls ≠ "java/lang/invoke/MethodHandle" ∧ yX2_hasCase.cls ≠ "java/lang/invoke/VarHandle" ∧ (parseMethodDescriptor yX2_hasCase.desc).map (fun d => d.parameters.length) = some 1 := by decide +kernel
set_option maxHeartbeats 4000000 in
set_option maxRecDepth 100000 in
theorem T_X2_isHeld (l : Launch) (D : va_G) (cy : Nat → ClassId) (a : Nat → Nat) (u : St) (hI_3_12 : fI u 3 12 = 0) (hR_0 : fR u 0 = a 3) (x1 : Int32)  : Mi l D cy (cW cy a) yX2_isHeld (.code yX2_isHeld cX2_isHeld 2 (some .boolean)) (rmo 1 21) [.ref (a 28), .int x1] u (fun (r : Int32) (u' : St) => r = 0 ∧ u' = u) := by
  refine Mi.of (own := RX2) rfl (by decide) (Nat.le_of_ble_eq_true rfl) ?_
  intro p e s m below meth c A Q ls C hret hO hl
  obtain ⟨hx, hb, hml, hown, ht, hK, hA⟩ := id C
  have hl : lv_has ls 2 [(0, .ref (a 28)), (1, .int x1)] := hl
  refine lv_aload_n hx hb dX2_isHeld_0 rfl (lv_at hl 0 rfl) ?_
  refine lv_iload_n hx hb dX2_isHeld_1 rfl (lv_at hl 1 rfl) ?_
  refine cVi (w := cW cy a) (As := [.int x1]) (rest := []) C hO (T_X2_hasCase l D cy a _ (by exact hI_3_12) (by exact hR_0) (x1)) (cwV 1 ht (gV wd_933 wd_842 wd_843 wd_115 wd_844) rfl rfl rfl hd_yX2_hasCase ⟨Nat.le_of_ble_eq_true rfl, Nat.le_of_ble_eq_true rfl⟩) 28 rfl cW_28 rfl rfl hl.1 (Nat.le_of_ble_eq_true rfl) dX2_isHeld_2 rfl ⟨Nat.zero_le _, Nat.zero_le _⟩ (fun r1 u2 H locs hp3 hO => ?_)
  obtain ⟨hr1, hu2⟩ := hp3
  subst hr1
  rw [hu2] at hO
  refine bt_eq (tgt := 23) (X := 0) hx hb dX2_isHeld_5 (by decide) rfl (by omega) ?_
  refine lv_iconst (v := 0) hx hb dX2_isHeld_23 (by decide) ?_
  refine hret _ _ _ _ _ _ dX2_isHeld_24 rfl ?_ hO
  exact ⟨rfl, rfl⟩
theorem dX2_canGo_0 : decode cX2_canGo 0 = .ok (.aload_n 0, 1) := by decide +kernel
theorem dX2_canGo_1 : decode cX2_canGo 1 = .ok (.iload_n 1, 1) := by decide +kernel
theorem dX2_canGo_2 : decode cX2_canGo 2 = .ok (.invokevirtual 90, 3) := by decide +kernel
theorem dX2_canGo_5 : decode cX2_canGo 5 = .ok (.ifCond .eq 47, 3) := by decide +kernel
theorem dX2_canGo_8 : decode cX2_canGo 8 = .ok (.aload_n 0, 1) := by decide +kernel
theorem dX2_canGo_9 : decode cX2_canGo 9 = .ok (.getfield 9, 3) := by decide +kernel
theorem dX2_canGo_12 : decode cX2_canGo 12 = .ok (.iconst 1, 1) := by decide +kernel
theorem dX2_canGo_13 : decode cX2_canGo 13 = .ok (.iaload, 1) := by decide +kernel
theorem dX2_canGo_14 : decode cX2_canGo 14 = .ok (.sipush 999, 3) := by decide +kernel
theorem dX2_canGo_17 : decode cX2_canGo 17 = .ok (.if_icmp .ge 35, 3) := by decide +kernel
theorem dX2_canGo_20 : decode cX2_canGo 20 = .ok (.iload_n 1, 1) := by decide +kernel
theorem dX2_canGo_21 : decode cX2_canGo 21 = .ok (.aload_n 0, 1) := by decide +kernel
theorem dX2_canGo_22 : decode cX2_canGo 22 = .ok (.getfield 9, 3) := by decide +kernel
theorem dX2_canGo_25 : decode cX2_canGo 25 = .ok (.iconst 0, 1) := by decide +kernel
theorem dX2_canGo_26 : decode cX2_canGo 26 = .ok (.iaload, 1) := by decide +kernel
theorem dX2_canGo_27 : decode cX2_canGo 27 = .ok (.if_icmp .eq 21, 3) := by decide +kernel
theorem dX2_canGo_30 : decode cX2_canGo 30 = .ok (.aload_n 0, 1) := by decide +kernel
theorem dX2_canGo_31 : decode cX2_canGo 31 = .ok (.iload_n 1, 1) := by decide +kernel
theorem dX2_canGo_32 : decode cX2_canGo 32 = .ok (.iconst 0, 1) := by decide +kernel
theorem dX2_canGo_33 : decode cX2_canGo 33 = .ok (.invokevirtual 93, 3) := by decide +kernel
theorem dX2_canGo_36 : decode cX2_canGo 36 = .ok (.aload_n 0, 1) := by decide +kernel
theorem dX2_canGo_37 : decode cX2_canGo 37 = .ok (.getfield 9, 3) := by decide +kernel
theorem dX2_canGo_40 : decode cX2_canGo 40 = .ok (.iconst 0, 1) := by decide +kernel
theorem dX2_canGo_41 : decode cX2_canGo 41 = .ok (.iaload, 1) := by decide +kernel
theorem dX2_canGo_42 : decode cX2_canGo 42 = .ok (.ishr, 1) := by decide +kernel
theorem dX2_canGo_43 : decode cX2_canGo 43 = .ok (.iconst 1, 1) := by decide +kernel
theorem dX2_canGo_44 : decode cX2_canGo 44 = .ok (.iand, 1) := by decide +kernel
theorem dX2_canGo_45 : decode cX2_canGo 45 = .ok (.ifCond .eq 7, 3) := by decide +kernel
theorem dX2_canGo_48 : decode cX2_canGo 48 = .ok (.iconst 1, 1) := by decide +kernel
theorem dX2_canGo_49 : decode cX2_canGo 49 = .ok (.goto 4, 3) := by decide +kernel
theorem dX2_canGo_52 : decode cX2_canGo 52 = .ok (.iconst 0, 1) := by decide +kernel
theorem dX2_canGo_53 : decode cX2_canGo 53 = .ok (.ireturn, 1) := by decide +kernel
theorem wd_903 : (Cond.code ⟨"WebCourt$Court", "canGo", "(I)Z"⟩ prog_4_method_14_code (2 : Nat) (Option.some FieldType.boolean)) ∈ gtb := gtb_c4 74 (by decide +kernel) rfl
theorem wd_904 : (Cond.methodLink "WebCourt$Court" (90 : Nat) ⟨"WebCourt$Court", "hasKnot", "(I)Z"⟩) ∈ gtb := gtb_c4 75 (by decide +kernel) rfl
theorem wd_818 : (Cond.instanceMethod ⟨"WebCourt$Court", "hasKnot", "(I)Z"⟩) ∈ gtb := gtb_c3 229 (by decide +kernel) rfl
theorem wd_819 : (Cond.selects "WebCourt$Court" ⟨"WebCourt$Court", "hasKnot", "(I)Z"⟩ ⟨"WebCourt$Court", "hasKnot", "(I)Z"⟩) ∈ gtb := gtb_c3 230 (by decide +kernel) rfl
theorem hd_yX2_hasKnot : yX2_hasKnot.cls = RX2 ∧ yX2_hasKnot.cls ≠ "java/lang/invoke/MethodHandle" ∧ yX2_hasKnot.cls ≠ "java/lang/invoke/VarHandle" ∧ (parseMethodDescriptor yX2_hasKnot.desc).map (fun d => d.parameters.length) = some 1 := by decide +kernel
set_option maxHeartbeats 4000000 in
set_option maxRecDepth 100000 in
theorem T_X2_canGo (l : Launch) (D : va_G) (cy : Nat → ClassId) (a : Nat → Nat) (u : St) (hI_3_9 : fI u 3 9 = 0) (hR_0 : fR u 0 = a 3) (x1 : Int32)  : Mi l D cy (cW cy a) yX2_canGo (.code yX2_canGo cX2_canGo 2 (some .boolean)) (rmo 1 21) [.ref (a 28), .int x1] u (fun (r : Int32) (u' : St) => r = 0 ∧ u' = u) := by
  refine Mi.of (own := RX2) rfl (by decide) (Nat.le_of_ble_eq_true rfl) ?_
  intro p e s m below meth c A Q ls C hret hO hl
  obtain ⟨hx, hb, hml, hown, ht, hK, hA⟩ := id C
  have hl : lv_has ls 2 [(0, .ref (a 28)), (1, .int x1)] := hl
  refine lv_aload_n hx hb dX2_canGo_0 rfl (lv_at hl 0 rfl) ?_
  refine lv_iload_n hx hb dX2_canGo_1 rfl (lv_at hl 1 rfl) ?_
  refine cVi (w := cW cy a) (As := [.int x1]) (rest := []) C hO (T_X2_hasKnot l D cy a _ (by exact hI_3_9) (by exact hR_0) (x1)) (cwV 1 ht (gV wd_904 wd_818 wd_819 wd_115 wd_820) rfl rfl rfl hd_yX2_hasKnot ⟨Nat.le_of_ble_eq_true rfl, Nat.le_of_ble_eq_true rfl⟩) 28 rfl cW_28 rfl rfl hl.1 (Nat.le_of_ble_eq_true rfl) dX2_canGo_2 rfl ⟨Nat.zero_le _, Nat.zero_le _⟩ (fun r1 u2 H locs hp3 hO => ?_)
  obtain ⟨hr1, hu2⟩ := hp3
  subst hr1
  rw [hu2] at hO
  refine bt_eq (tgt := 52) (X := 0) hx hb dX2_canGo_5 (by decide) rfl (by omega) ?_
  refine lv_iconst (v := 0) hx hb dX2_canGo_52 (by decide) ?_
  refine hret _ _ _ _ _ _ dX2_canGo_53 rfl ?_ hO
  exact ⟨rfl, rfl⟩
theorem dX2_canBeHeard_0 : decode cX2_canBeHeard 0 = .ok (.aload_n 0, 1) := by decide +kernel
theorem dX2_canBeHeard_1 : decode cX2_canBeHeard 1 = .ok (.iload_n 1, 1) := by decide +kernel
theorem dX2_canBeHeard_2 : decode cX2_canBeHeard 2 = .ok (.invokevirtual 104, 3) := by decide +kernel
theorem dX2_canBeHeard_5 : decode cX2_canBeHeard 5 = .ok (.ifCond .eq 34, 3) := by decide +kernel
theorem dX2_canBeHeard_8 : decode cX2_canBeHeard 8 = .ok (.aload_n 0, 1) := by decide +kernel
theorem dX2_canBeHeard_9 : decode cX2_canBeHeard 9 = .ok (.getfield 15, 3) := by decide +kernel
theorem dX2_canBeHeard_12 : decode cX2_canBeHeard 12 = .ok (.getfield 47, 3) := by decide +kernel
theorem dX2_canBeHeard_15 : decode cX2_canBeHeard 15 = .ok (.iload_n 1, 1) := by decide +kernel
theorem dX2_canBeHeard_16 : decode cX2_canBeHeard 16 = .ok (.iaload, 1) := by decide +kernel
theorem dX2_canBeHeard_17 : decode cX2_canBeHeard 17 = .ok (.aload_n 0, 1) := by decide +kernel
theorem dX2_canBeHeard_18 : decode cX2_canBeHeard 18 = .ok (.getfield 9, 3) := by decide +kernel
theorem dX2_canBeHeard_21 : decode cX2_canBeHeard 21 = .ok (.iconst 0, 1) := by decide +kernel
theorem dX2_canBeHeard_22 : decode cX2_canBeHeard 22 = .ok (.iaload, 1) := by decide +kernel
theorem dX2_canBeHeard_23 : decode cX2_canBeHeard 23 = .ok (.if_icmp .ne 16, 3) := by decide +kernel
theorem dX2_canBeHeard_26 : decode cX2_canBeHeard 26 = .ok (.aload_n 0, 1) := by decide +kernel
theorem dX2_canBeHeard_27 : decode cX2_canBeHeard 27 = .ok (.getfield 9, 3) := by decide +kernel
theorem dX2_canBeHeard_30 : decode cX2_canBeHeard 30 = .ok (.iconst 2, 1) := by decide +kernel
theorem dX2_canBeHeard_31 : decode cX2_canBeHeard 31 = .ok (.iaload, 1) := by decide +kernel
theorem dX2_canBeHeard_32 : decode cX2_canBeHeard 32 = .ok (.ifCond .ne 7, 3) := by decide +kernel
theorem dX2_canBeHeard_35 : decode cX2_canBeHeard 35 = .ok (.iconst 1, 1) := by decide +kernel
theorem dX2_canBeHeard_36 : decode cX2_canBeHeard 36 = .ok (.goto 4, 3) := by decide +kernel
theorem dX2_canBeHeard_39 : decode cX2_canBeHeard 39 = .ok (.iconst 0, 1) := by decide +kernel
theorem dX2_canBeHeard_40 : decode cX2_canBeHeard 40 = .ok (.ireturn, 1) := by decide +kernel
theorem wd_928 : (Cond.code ⟨"WebCourt$Court", "canBeHeard", "(I)Z"⟩ prog_4_method_17_code (2 : Nat) (Option.some FieldType.boolean)) ∈ gtb := gtb_c4 99 (by decide +kernel) rfl
theorem wd_929 : (Cond.methodLink "WebCourt$Court" (104 : Nat) ⟨"WebCourt$Court", "isHeld", "(I)Z"⟩) ∈ gtb := gtb_c4 100 (by decide +kernel) rfl
theorem wd_930 : (Cond.instanceMethod ⟨"WebCourt$Court", "isHeld", "(I)Z"⟩) ∈ gtb := gtb_c4 101 (by decide +kernel) rfl
theorem wd_931 : (Cond.selects "WebCourt$Court" ⟨"WebCourt$Court", "isHeld", "(I)Z"⟩ ⟨"WebCourt$Court", "isHeld", "(I)Z"⟩) ∈ gtb := gtb_c4 102 (by decide +kernel) rfl
theorem hd_yX2_isHeld : yX2_isHeld.cls = RX2 ∧ yX2_isHeld.cls ≠ "java/lang/invoke/MethodHandle" ∧ yX2_isHeld.cls ≠ "java/lang/invoke/VarHandle" ∧ (parseMethodDescriptor yX2_isHeld.desc).map (fun d => d.parameters.length) = some 1 := by decide +kernel
set_option maxHeartbeats 4000000 in
set_option maxRecDepth 100000 in
theorem T_X2_canBeHeard (l : Launch) (D : va_G) (cy : Nat → ClassId) (a : Nat → Nat) (u : St) (hI_3_12 : fI u 3 12 = 0) (hR_0 : fR u 0 = a 3) (x1 : Int32)  : Mi l D cy (cW cy a) yX2_canBeHeard (.code yX2_canBeHeard cX2_canBeHeard 2 (some .boolean)) (rmo 2 42) [.ref (a 28), .int x1] u (fun (r : Int32) (u' : St) => r = 0 ∧ u' = u) := by
  refine Mi.of (own := RX2) rfl (by decide) (Nat.le_of_ble_eq_true rfl) ?_
  intro p e s m below meth c A Q ls C hret hO hl
  obtain ⟨hx, hb, hml, hown, ht, hK, hA⟩ := id C
  have hl : lv_has ls 2 [(0, .ref (a 28)), (1, .int x1)] := hl
  refine lv_aload_n hx hb dX2_canBeHeard_0 rfl (lv_at hl 0 rfl) ?_
  refine lv_iload_n hx hb dX2_canBeHeard_1 rfl (lv_at hl 1 rfl) ?_
  refine cVi (w := cW cy a) (As := [.int x1]) (rest := []) C hO (T_X2_isHeld l D cy a _ (by exact hI_3_12) (by exact hR_0) (x1)) (cwV 1 ht (gV wd_929 wd_930 wd_931 wd_115 wd_932) rfl rfl rfl hd_yX2_isHeld ⟨Nat.le_of_ble_eq_true rfl, Nat.le_of_ble_eq_true rfl⟩) 28 rfl cW_28 rfl rfl hl.1 (Nat.le_of_ble_eq_true rfl) dX2_canBeHeard_2 rfl ⟨Nat.zero_le _, Nat.zero_le _⟩ (fun r1 u2 H locs hp3 hO => ?_)
  obtain ⟨hr1, hu2⟩ := hp3
  subst hr1
  rw [hu2] at hO
  refine bt_eq (tgt := 39) (X := 0) hx hb dX2_canBeHeard_5 (by decide) rfl (by omega) ?_
  refine lv_iconst (v := 0) hx hb dX2_canBeHeard_39 (by decide) ?_
  refine hret _ _ _ _ _ _ dX2_canBeHeard_40 rfl ?_ hO
  exact ⟨rfl, rfl⟩
theorem dX2_held_0 : decode cX2_held 0 = .ok (.iconst 0, 1) := by decide +kernel
theorem dX2_held_1 : decode cX2_held 1 = .ok (.istore_n 1, 1) := by decide +kernel
theorem dX2_held_2 : decode cX2_held 2 = .ok (.iconst 0, 1) := by decide +kernel
theorem dX2_held_3 : decode cX2_held 3 = .ok (.istore_n 2, 1) := by decide +kernel
theorem dX2_held_4 : decode cX2_held 4 = .ok (.iload_n 2, 1) := by decide +kernel
theorem dX2_held_5 : decode cX2_held 5 = .ok (.aload_n 0, 1) := by decide +kernel
theorem dX2_held_6 : decode cX2_held 6 = .ok (.getfield 15, 3) := by decide +kernel
theorem dX2_held_9 : decode cX2_held 9 = .ok (.getfield 34, 3) := by decide +kernel
theorem dX2_held_12 : decode cX2_held 12 = .ok (.if_icmp .ge 26, 3) := by decide +kernel
theorem dX2_held_15 : decode cX2_held 15 = .ok (.aload_n 0, 1) := by decide +kernel
theorem dX2_held_16 : decode cX2_held 16 = .ok (.getfield 9, 3) := by decide +kernel
theorem dX2_held_19 : decode cX2_held 19 = .ok (.iconst 5, 1) := by decide +kernel
theorem dX2_held_20 : decode cX2_held 20 = .ok (.iload_n 2, 1) := by decide +kernel
theorem dX2_held_21 : decode cX2_held 21 = .ok (.iadd, 1) := by decide +kernel
theorem dX2_held_22 : decode cX2_held 22 = .ok (.iaload, 1) := by decide +kernel
theorem dX2_held_23 : decode cX2_held 23 = .ok (.ifCond .ne 9, 3) := by decide +kernel
theorem dX2_held_26 : decode cX2_held 26 = .ok (.iload_n 1, 1) := by decide +kernel
theorem dX2_held_27 : decode cX2_held 27 = .ok (.iconst 1, 1) := by decide +kernel
theorem dX2_held_28 : decode cX2_held 28 = .ok (.iload_n 2, 1) := by decide +kernel
theorem dX2_held_29 : decode cX2_held 29 = .ok (.ishl, 1) := by decide +kernel
theorem dX2_held_30 : decode cX2_held 30 = .ok (.ior, 1) := by decide +kernel
theorem dX2_held_31 : decode cX2_held 31 = .ok (.istore_n 1, 1) := by decide +kernel
theorem dX2_held_32 : decode cX2_held 32 = .ok (.iinc 2 1, 3) := by decide +kernel
theorem dX2_held_35 : decode cX2_held 35 = .ok (.goto (-31), 3) := by decide +kernel
theorem dX2_held_38 : decode cX2_held 38 = .ok (.iload_n 1, 1) := by decide +kernel
theorem dX2_held_39 : decode cX2_held 39 = .ok (.ireturn, 1) := by decide +kernel
theorem wd_860 : (Cond.code ⟨"WebCourt$Court", "held", "()I"⟩ prog_4_method_8_code (3 : Nat) (Option.some FieldType.int)) ∈ gtb := gtb_c4 31 (by decide +kernel) rfl
set_option maxHeartbeats 4000000 in
set_option maxRecDepth 100000 in
theorem T_X2_held (l : Launch) (D : va_G) (cy : Nat → ClassId) (a : Nat → Nat) (u : St) (hI_3_12 : fI u 3 12 = 0) (hR_0 : fR u 0 = a 3)   : Mi l D cy (cW cy a) yX2_held (.code yX2_held cX2_held 3 (some .int)) (rmo 0 0) [.ref (a 28)] u (fun (r : Int32) (u' : St) => r = 0 ∧ u' = u) := by
  refine Mi.of (own := RX2) rfl (by decide) (Nat.le_of_ble_eq_true rfl) ?_
  intro p e s m below meth c A Q ls C hret hO hl
  obtain ⟨hx, hb, hml, hown, ht, hK, hA⟩ := id C
  have hl : lv_has ls 3 [(0, .ref (a 28))] := hl
  refine lv_iconst (v := 0) hx hb dX2_held_0 (by decide) ?_
  refine lv_istore_n (lv' := [(1, .int 0), (0, .ref (a 28))]) hx hb dX2_held_1 rfl hl (by decide) rfl (fun ls hl => ?_)
  refine lv_iconst (v := 0) hx hb dX2_held_2 (by decide) ?_
  refine lv_istore_n (lv' := [(2, .int 0), (1, .int 0), (0, .ref (a 28))]) hx hb dX2_held_3 rfl hl (by decide) rfl (fun ls hl => ?_)
  refine lv_iload_n hx hb dX2_held_4 rfl (lv_at hl 0 rfl) ?_
  refine lv_aload_n hx hb dX2_held_5 rfl (lv_at hl 2 rfl) ?_
  refine gf_RX2_15 (v := .ref (a 3)) C hO 28 cW_28 (congrArg (fun z : Nat => some (Value.ref z)) hR_0) dX2_held_6 ?_
  refine gf_RX2_34 (v := .int 0) C hO 3 cW_3 (congrArg (fun z : Int32 => some (Value.int z)) hI_3_12) dX2_held_9 ?_
  refine ct_ge (tgt := 38) (X := 0) (Y := 0) hx hb dX2_held_12 (by decide) rfl rfl (by omega) ?_
  refine lv_iload_n hx hb dX2_held_38 rfl (lv_at hl 1 rfl) ?_
  refine hret _ _ _ _ _ _ dX2_held_39 rfl ?_ hO
  exact ⟨rfl, rfl⟩
theorem dX2_nextTo_0 : decode cX2_nextTo 0 = .ok (.iconst 0, 1) := by decide +kernel
theorem dX2_nextTo_1 : decode cX2_nextTo 1 = .ok (.istore_n 3, 1) := by decide +kernel
theorem dX2_nextTo_2 : decode cX2_nextTo 2 = .ok (.iconst 0, 1) := by decide +kernel
theorem dX2_nextTo_3 : decode cX2_nextTo 3 = .ok (.istore 4, 2) := by decide +kernel
theorem dX2_nextTo_5 : decode cX2_nextTo 5 = .ok (.iload 4, 2) := by decide +kernel
theorem dX2_nextTo_7 : decode cX2_nextTo 7 = .ok (.aload_n 0, 1) := by decide +kernel
theorem dX2_nextTo_8 : decode cX2_nextTo 8 = .ok (.getfield 15, 3) := by decide +kernel
theorem dX2_nextTo_11 : decode cX2_nextTo 11 = .ok (.getfield 50, 3) := by decide +kernel
theorem dX2_nextTo_14 : decode cX2_nextTo 14 = .ok (.if_icmp .ge 100, 3) := by decide +kernel
theorem dX2_nextTo_17 : decode cX2_nextTo 17 = .ok (.aload_n 0, 1) := by decide +kernel
theorem dX2_nextTo_18 : decode cX2_nextTo 18 = .ok (.getfield 9, 3) := by decide +kernel
theorem dX2_nextTo_21 : decode cX2_nextTo 21 = .ok (.iconst 4, 1) := by decide +kernel
theorem dX2_nextTo_22 : decode cX2_nextTo 22 = .ok (.iaload, 1) := by decide +kernel
theorem dX2_nextTo_23 : decode cX2_nextTo 23 = .ok (.iload 4, 2) := by decide +kernel
theorem dX2_nextTo_25 : decode cX2_nextTo 25 = .ok (.ishr, 1) := by decide +kernel
theorem dX2_nextTo_26 : decode cX2_nextTo 26 = .ok (.iconst 1, 1) := by decide +kernel
theorem dX2_nextTo_27 : decode cX2_nextTo 27 = .ok (.iand, 1) := by decide +kernel
theorem dX2_nextTo_28 : decode cX2_nextTo 28 = .ok (.ifCond .eq 7, 3) := by decide +kernel
theorem dX2_nextTo_31 : decode cX2_nextTo 31 = .ok (.iconst 1, 1) := by decide +kernel
theorem dX2_nextTo_32 : decode cX2_nextTo 32 = .ok (.goto 4, 3) := by decide +kernel
theorem dX2_nextTo_35 : decode cX2_nextTo 35 = .ok (.iconst 0, 1) := by decide +kernel
theorem dX2_nextTo_36 : decode cX2_nextTo 36 = .ok (.istore 5, 2) := by decide +kernel
theorem dX2_nextTo_38 : decode cX2_nextTo 38 = .ok (.iload 5, 2) := by decide +kernel
theorem dX2_nextTo_40 : decode cX2_nextTo 40 = .ok (.iload_n 2, 1) := by decide +kernel
theorem dX2_nextTo_41 : decode cX2_nextTo 41 = .ok (.if_icmp .eq 6, 3) := by decide +kernel
theorem dX2_nextTo_44 : decode cX2_nextTo 44 = .ok (.goto 64, 3) := by decide +kernel
theorem dX2_nextTo_47 : decode cX2_nextTo 47 = .ok (.aload_n 0, 1) := by decide +kernel
theorem dX2_nextTo_48 : decode cX2_nextTo 48 = .ok (.getfield 15, 3) := by decide +kernel
theorem dX2_nextTo_51 : decode cX2_nextTo 51 = .ok (.getfield 53, 3) := by decide +kernel
theorem dX2_nextTo_54 : decode cX2_nextTo 54 = .ok (.iload 4, 2) := by decide +kernel
theorem dX2_nextTo_56 : decode cX2_nextTo 56 = .ok (.iaload, 1) := by decide +kernel
theorem dX2_nextTo_57 : decode cX2_nextTo 57 = .ok (.iload_n 1, 1) := by decide +kernel
theorem dX2_nextTo_58 : decode cX2_nextTo 58 = .ok (.if_icmp .ne 21, 3) := by decide +kernel
theorem dX2_nextTo_61 : decode cX2_nextTo 61 = .ok (.iload_n 3, 1) := by decide +kernel
theorem dX2_nextTo_62 : decode cX2_nextTo 62 = .ok (.iconst 1, 1) := by decide +kernel
theorem dX2_nextTo_63 : decode cX2_nextTo 63 = .ok (.aload_n 0, 1) := by decide +kernel
theorem dX2_nextTo_64 : decode cX2_nextTo 64 = .ok (.getfield 15, 3) := by decide +kernel
theorem dX2_nextTo_67 : decode cX2_nextTo 67 = .ok (.getfield 56, 3) := by decide +kernel
theorem dX2_nextTo_70 : decode cX2_nextTo 70 = .ok (.iload 4, 2) := by decide +kernel
theorem dX2_nextTo_72 : decode cX2_nextTo 72 = .ok (.iaload, 1) := by decide +kernel
theorem dX2_nextTo_73 : decode cX2_nextTo 73 = .ok (.ishl, 1) := by decide +kernel
theorem dX2_nextTo_74 : decode cX2_nextTo 74 = .ok (.ior, 1) := by decide +kernel
theorem dX2_nextTo_75 : decode cX2_nextTo 75 = .ok (.istore_n 3, 1) := by decide +kernel
theorem dX2_nextTo_76 : decode cX2_nextTo 76 = .ok (.goto 32, 3) := by decide +kernel
theorem dX2_nextTo_79 : decode cX2_nextTo 79 = .ok (.aload_n 0, 1) := by decide +kernel
theorem dX2_nextTo_80 : decode cX2_nextTo 80 = .ok (.getfield 15, 3) := by decide +kernel
theorem dX2_nextTo_83 : decode cX2_nextTo 83 = .ok (.getfield 56, 3) := by decide +kernel
theorem dX2_nextTo_86 : decode cX2_nextTo 86 = .ok (.iload 4, 2) := by decide +kernel
theorem dX2_nextTo_88 : decode cX2_nextTo 88 = .ok (.iaload, 1) := by decide +kernel
theorem dX2_nextTo_89 : decode cX2_nextTo 89 = .ok (.iload_n 1, 1) := by decide +kernel
theorem dX2_nextTo_90 : decode cX2_nextTo 90 = .ok (.if_icmp .ne 18, 3) := by decide +kernel
theorem dX2_nextTo_93 : decode cX2_nextTo 93 = .ok (.iload_n 3, 1) := by decide +kernel
theorem dX2_nextTo_94 : decode cX2_nextTo 94 = .ok (.iconst 1, 1) := by decide +kernel
theorem dX2_nextTo_95 : decode cX2_nextTo 95 = .ok (.aload_n 0, 1) := by decide +kernel
theorem dX2_nextTo_96 : decode cX2_nextTo 96 = .ok (.getfield 15, 3) := by decide +kernel
theorem dX2_nextTo_99 : decode cX2_nextTo 99 = .ok (.getfield 53, 3) := by decide +kernel
theorem dX2_nextTo_102 : decode cX2_nextTo 102 = .ok (.iload 4, 2) := by decide +kernel
theorem dX2_nextTo_104 : decode cX2_nextTo 104 = .ok (.iaload, 1) := by decide +kernel
theorem dX2_nextTo_105 : decode cX2_nextTo 105 = .ok (.ishl, 1) := by decide +kernel
theorem dX2_nextTo_106 : decode cX2_nextTo 106 = .ok (.ior, 1) := by decide +kernel
theorem dX2_nextTo_107 : decode cX2_nextTo 107 = .ok (.istore_n 3, 1) := by decide +kernel
theorem dX2_nextTo_108 : decode cX2_nextTo 108 = .ok (.iinc 4 1, 3) := by decide +kernel
theorem dX2_nextTo_111 : decode cX2_nextTo 111 = .ok (.goto (-106), 3) := by decide +kernel
theorem dX2_nextTo_114 : decode cX2_nextTo 114 = .ok (.iload_n 3, 1) := by decide +kernel
theorem dX2_nextTo_115 : decode cX2_nextTo 115 = .ok (.ireturn, 1) := by decide +kernel
theorem wd_824 : (Cond.code ⟨"WebCourt$Court", "nextTo", "(IZ)I"⟩ prog_4_method_10_code (6 : Nat) (Option.some FieldType.int)) ∈ gtb := gtb_c3 235 (by decide +kernel) rfl
theorem wd_258 : (Cond.fieldLink "WebCourt$Court" (50 : Nat) "WebCourt$Web" "lines" "I") ∈ gtb := gtb_c1 149 (by decide +kernel) rfl
theorem gf_RX2_50 {p : Program} {l : Launch} {e : Env} {R : Room} {s : State} {m : MethodId} {args : Array Value} {below : List Frame} {meth : Method} {c : Code} {H : Heap} {locs : List Loc} {cells slots : Nat} {Q : State → Prop} {cc : ByteArray} {pc nL : Nat} {ls : Array Slot} {rest : List Value} {D : va_G} {cy : Nat → ClassId} {A : Nat → Prop} {ws : va_W} {b : Nat} {fs : List Value} {v : Value} (C : Cx p s m args c cc nL RX2 D cy A) (hO : Wo D A ws s.heap H locs) (q0 : Nat) (he : ws[q0]? = some (b, .inr (9, fs))) (hv : fs[10]? = some v) (hdg : decode cc pc = .ok (.getfield 50, 3)) (kk : W p l e R s m args below meth c H locs cells slots Q (F0 m (pc + 3) ls (v :: rest))) : W p l e R s m args below meth c H locs cells slots Q (F0 m pc ls (.ref b :: rest)) := gF (k := 10) C hO q0 he rfl inFX9 (by decide) wd_258 rfl hv hdg kk
set_option maxHeartbeats 4000000 in
set_option maxRecDepth 100000 in
theorem T_X2_nextTo (l : Launch) (D : va_G) (cy : Nat → ClassId) (a : Nat → Nat) (u : St) (hI_3_10 : fI u 3 10 = 0) (hR_0 : fR u 0 = a 3) (x1 : Int32) (x2 : Int32)  : Mi l D cy (cW cy a) yX2_nextTo (.code yX2_nextTo cX2_nextTo 6 (some .int)) (rmo 0 0) [.ref (a 28), .int x1, .int x2] u (fun (r : Int32) (u' : St) => r = 0 ∧ u' = u) := by
  refine Mi.of (own := RX2) rfl (by decide) (Nat.le_of_ble_eq_true rfl) ?_
  intro p e s m below meth c A Q ls C hret hO hl
  obtain ⟨hx, hb, hml, hown, ht, hK, hA⟩ := id C
  have hl : lv_has ls 6 [(0, .ref (a 28)), (1, .int x1), (2, .int x2)] := hl
  refine lv_iconst (v := 0) hx hb dX2_nextTo_0 (by decide) ?_
  refine lv_istore_n (lv' := [(3, .int 0), (0, .ref (a 28)), (1, .int x1), (2, .int x2)]) hx hb dX2_nextTo_1 rfl hl (by decide) rfl (fun ls hl => ?_)
  refine lv_iconst (v := 0) hx hb dX2_nextTo_2 (by decide) ?_
  refine lv_istore (lv' := [(4, .int 0), (3, .int 0), (0, .ref (a 28)), (1, .int x1), (2, .int x2)]) hx hb dX2_nextTo_3 hl (by decide) rfl (fun ls hl => ?_)
  refine lv_iload hx hb dX2_nextTo_5 (lv_at hl 0 rfl) ?_
  refine lv_aload_n hx hb dX2_nextTo_7 rfl (lv_at hl 2 rfl) ?_
  refine gf_RX2_15 (v := .ref (a 3)) C hO 28 cW_28 (congrArg (fun z : Nat => some (Value.ref z)) hR_0) dX2_nextTo_8 ?_
  refine gf_RX2_50 (v := .int 0) C hO 3 cW_3 (congrArg (fun z : Int32 => some (Value.int z)) hI_3_10) dX2_nextTo_11 ?_
  refine ct_ge (tgt := 114) (X := 0) (Y := 0) hx hb dX2_nextTo_14 (by decide) rfl rfl (by omega) ?_
  refine lv_iload_n hx hb dX2_nextTo_114 rfl (lv_at hl 1 rfl) ?_
  refine hret _ _ _ _ _ _ dX2_nextTo_115 rfl ?_ hO
  exact ⟨rfl, rfl⟩
theorem dJ6_bitCount_0f7a4_0 : decode cJ6_bitCount_0f7a4 0 = .ok (.iload_n 0, 1) := by decide +kernel
theorem dJ6_bitCount_0f7a4_1 : decode cJ6_bitCount_0f7a4 1 = .ok (.iload_n 0, 1) := by decide +kernel
theorem dJ6_bitCount_0f7a4_2 : decode cJ6_bitCount_0f7a4 2 = .ok (.iconst 1, 1) := by decide +kernel
theorem dJ6_bitCount_0f7a4_3 : decode cJ6_bitCount_0f7a4 3 = .ok (.iushr, 1) := by decide +kernel
theorem dJ6_bitCount_0f7a4_4 : decode cJ6_bitCount_0f7a4 4 = .ok (.ldc_w 265, 3) := by decide +kernel
theorem dJ6_bitCount_0f7a4_7 : decode cJ6_bitCount_0f7a4 7 = .ok (.iand, 1) := by decide +kernel
theorem dJ6_bitCount_0f7a4_8 : decode cJ6_bitCount_0f7a4 8 = .ok (.isub, 1) := by decide +kernel
theorem dJ6_bitCount_0f7a4_9 : decode cJ6_bitCount_0f7a4 9 = .ok (.istore_n 0, 1) := by decide +kernel
theorem dJ6_bitCount_0f7a4_10 : decode cJ6_bitCount_0f7a4 10 = .ok (.iload_n 0, 1) := by decide +kernel
theorem dJ6_bitCount_0f7a4_11 : decode cJ6_bitCount_0f7a4 11 = .ok (.ldc_w 266, 3) := by decide +kernel
theorem dJ6_bitCount_0f7a4_14 : decode cJ6_bitCount_0f7a4 14 = .ok (.iand, 1) := by decide +kernel
theorem dJ6_bitCount_0f7a4_15 : decode cJ6_bitCount_0f7a4 15 = .ok (.iload_n 0, 1) := by decide +kernel
theorem dJ6_bitCount_0f7a4_16 : decode cJ6_bitCount_0f7a4 16 = .ok (.iconst 2, 1) := by decide +kernel
theorem dJ6_bitCount_0f7a4_17 : decode cJ6_bitCount_0f7a4 17 = .ok (.iushr, 1) := by decide +kernel
theorem dJ6_bitCount_0f7a4_18 : decode cJ6_bitCount_0f7a4 18 = .ok (.ldc_w 266, 3) := by decide +kernel
theorem dJ6_bitCount_0f7a4_21 : decode cJ6_bitCount_0f7a4 21 = .ok (.iand, 1) := by decide +kernel
theorem dJ6_bitCount_0f7a4_22 : decode cJ6_bitCount_0f7a4 22 = .ok (.iadd, 1) := by decide +kernel
theorem dJ6_bitCount_0f7a4_23 : decode cJ6_bitCount_0f7a4 23 = .ok (.istore_n 0, 1) := by decide +kernel
theorem dJ6_bitCount_0f7a4_24 : decode cJ6_bitCount_0f7a4 24 = .ok (.iload_n 0, 1) := by decide +kernel
theorem dJ6_bitCount_0f7a4_25 : decode cJ6_bitCount_0f7a4 25 = .ok (.iload_n 0, 1) := by decide +kernel
theorem dJ6_bitCount_0f7a4_26 : decode cJ6_bitCount_0f7a4 26 = .ok (.iconst 4, 1) := by decide +kernel
theorem dJ6_bitCount_0f7a4_27 : decode cJ6_bitCount_0f7a4 27 = .ok (.iushr, 1) := by decide +kernel
theorem dJ6_bitCount_0f7a4_28 : decode cJ6_bitCount_0f7a4 28 = .ok (.iadd, 1) := by decide +kernel
theorem dJ6_bitCount_0f7a4_29 : decode cJ6_bitCount_0f7a4 29 = .ok (.ldc_w 267, 3) := by decide +kernel
theorem dJ6_bitCount_0f7a4_32 : decode cJ6_bitCount_0f7a4 32 = .ok (.iand, 1) := by decide +kernel
theorem dJ6_bitCount_0f7a4_33 : decode cJ6_bitCount_0f7a4 33 = .ok (.istore_n 0, 1) := by decide +kernel
theorem dJ6_bitCount_0f7a4_34 : decode cJ6_bitCount_0f7a4 34 = .ok (.iload_n 0, 1) := by decide +kernel
theorem dJ6_bitCount_0f7a4_35 : decode cJ6_bitCount_0f7a4 35 = .ok (.iload_n 0, 1) := by decide +kernel
theorem dJ6_bitCount_0f7a4_36 : decode cJ6_bitCount_0f7a4 36 = .ok (.bipush 8, 2) := by decide +kernel
theorem dJ6_bitCount_0f7a4_38 : decode cJ6_bitCount_0f7a4 38 = .ok (.iushr, 1) := by decide +kernel
theorem dJ6_bitCount_0f7a4_39 : decode cJ6_bitCount_0f7a4 39 = .ok (.iadd, 1) := by decide +kernel
theorem dJ6_bitCount_0f7a4_40 : decode cJ6_bitCount_0f7a4 40 = .ok (.istore_n 0, 1) := by decide +kernel
theorem dJ6_bitCount_0f7a4_41 : decode cJ6_bitCount_0f7a4 41 = .ok (.iload_n 0, 1) := by decide +kernel
theorem dJ6_bitCount_0f7a4_42 : decode cJ6_bitCount_0f7a4 42 = .ok (.iload_n 0, 1) := by decide +kernel
theorem dJ6_bitCount_0f7a4_43 : decode cJ6_bitCount_0f7a4 43 = .ok (.bipush 16, 2) := by decide +kernel
theorem dJ6_bitCount_0f7a4_45 : decode cJ6_bitCount_0f7a4 45 = .ok (.iushr, 1) := by decide +kernel
theorem dJ6_bitCount_0f7a4_46 : decode cJ6_bitCount_0f7a4 46 = .ok (.iadd, 1) := by decide +kernel
theorem dJ6_bitCount_0f7a4_47 : decode cJ6_bitCount_0f7a4 47 = .ok (.istore_n 0, 1) := by decide +kernel
theorem dJ6_bitCount_0f7a4_48 : decode cJ6_bitCount_0f7a4 48 = .ok (.iload_n 0, 1) := by decide +kernel
theorem dJ6_bitCount_0f7a4_49 : decode cJ6_bitCount_0f7a4 49 = .ok (.bipush 63, 2) := by decide +kernel
theorem dJ6_bitCount_0f7a4_51 : decode cJ6_bitCount_0f7a4 51 = .ok (.iand, 1) := by decide +kernel
theorem dJ6_bitCount_0f7a4_52 : decode cJ6_bitCount_0f7a4 52 = .ok (.ireturn, 1) := by decide +kernel
theorem wd_871 : (Cond.code ⟨"java/lang/Integer", "bitCount", "(I)I"⟩ prog_15_method_49_code (1 : Nat) (Option.some FieldType.int)) ∈ gtb := gtb_c4 42 (by decide +kernel) rfl
theorem wd_872 : (Cond.constant "java/lang/Integer" (265 : Nat) (1431655765 : Int32)) ∈ gtb := gtb_c4 43 (by decide +kernel) rfl
theorem wd_873 : (Cond.constant "java/lang/Integer" (266 : Nat) (858993459 : Int32)) ∈ gtb := gtb_c4 44 (by decide +kernel) rfl
theorem wd_874 : (Cond.constant "java/lang/Integer" (267 : Nat) (252645135 : Int32)) ∈ gtb := gtb_c4 45 (by decide +kernel) rfl
set_option maxHeartbeats 4000000 in
set_option maxRecDepth 100000 in
theorem T_J6_bitCount_0f7a4_c0 (l : Launch) (D : va_G) (cy : Nat → ClassId) (a : Nat → Nat) (u : St)    : Mi l D cy (cW cy a) yJ6_bitCount_0f7a4 (.code yJ6_bitCount_0f7a4 cJ6_bitCount_0f7a4 1 (some .int)) (rmo 0 0) [.int 0] u (fun (r : Int32) (u' : St) => r = 0 ∧ u' = u) := by
  refine Mi.of (own := RJ6) rfl (by decide) (Nat.le_of_ble_eq_true rfl) ?_
  intro p e s m below meth c A Q ls C hret hO hl
  obtain ⟨hx, hb, hml, hown, ht, hK, hA⟩ := id C
  have hl : lv_has ls 1 [(0, .int 0)] := hl
  refine lv_iload_n hx hb dJ6_bitCount_0f7a4_0 rfl (lv_at hl 0 rfl) ?_
  refine lv_iload_n hx hb dJ6_bitCount_0f7a4_1 rfl (lv_at hl 0 rfl) ?_
  refine lv_iconst (v := 1) hx hb dJ6_bitCount_0f7a4_2 (by decide) ?_
  refine lv_iushr (v := 0) hx hb dJ6_bitCount_0f7a4_3 (by decide) ?_
  refine lv_ldcw (v := 1431655765) hx hb hown (ht _ wd_872) dJ6_bitCount_0f7a4_4 ?_
  refine lv_iand hx hb dJ6_bitCount_0f7a4_7 ?_
  refine tE (y := 0) (by decide) ?_
  refine lv_isub hx hb dJ6_bitCount_0f7a4_8 ?_
  refine tE (y := 0) rfl ?_
  refine lv_istore_n (lv' := [(0, .int 0)]) hx hb dJ6_bitCount_0f7a4_9 rfl hl (by decide) rfl (fun ls hl => ?_)
  refine lv_iload_n hx hb dJ6_bitCount_0f7a4_10 rfl (lv_at hl 0 rfl) ?_
  refine lv_ldcw (v := 858993459) hx hb hown (ht _ wd_873) dJ6_bitCount_0f7a4_11 ?_
  refine lv_iand hx hb dJ6_bitCount_0f7a4_14 ?_
  refine tE (y := 0) (by decide) ?_
  refine lv_iload_n hx hb dJ6_bitCount_0f7a4_15 rfl (lv_at hl 0 rfl) ?_
  refine lv_iconst (v := 2) hx hb dJ6_bitCount_0f7a4_16 (by decide) ?_
  refine lv_iushr (v := 0) hx hb dJ6_bitCount_0f7a4_17 (by decide) ?_
  refine lv_ldcw (v := 858993459) hx hb hown (ht _ wd_873) dJ6_bitCount_0f7a4_18 ?_
  refine lv_iand hx hb dJ6_bitCount_0f7a4_21 ?_
  refine tE (y := 0) (by decide) ?_
  refine lv_iadd hx hb dJ6_bitCount_0f7a4_22 ?_
  refine tE (y := 0) rfl ?_
  refine lv_istore_n (lv' := [(0, .int 0)]) hx hb dJ6_bitCount_0f7a4_23 rfl hl (by decide) rfl (fun ls hl => ?_)
  refine lv_iload_n hx hb dJ6_bitCount_0f7a4_24 rfl (lv_at hl 0 rfl) ?_
  refine lv_iload_n hx hb dJ6_bitCount_0f7a4_25 rfl (lv_at hl 0 rfl) ?_
  refine lv_iconst (v := 4) hx hb dJ6_bitCount_0f7a4_26 (by decide) ?_
  refine lv_iushr (v := 0) hx hb dJ6_bitCount_0f7a4_27 (by decide) ?_
  refine lv_iadd hx hb dJ6_bitCount_0f7a4_28 ?_
  refine tE (y := 0) rfl ?_
  refine lv_ldcw (v := 252645135) hx hb hown (ht _ wd_874) dJ6_bitCount_0f7a4_29 ?_
  refine lv_iand hx hb dJ6_bitCount_0f7a4_32 ?_
  refine tE (y := 0) (by decide) ?_
  refine lv_istore_n (lv' := [(0, .int 0)]) hx hb dJ6_bitCount_0f7a4_33 rfl hl (by decide) rfl (fun ls hl => ?_)
  refine lv_iload_n hx hb dJ6_bitCount_0f7a4_34 rfl (lv_at hl 0 rfl) ?_
  refine lv_iload_n hx hb dJ6_bitCount_0f7a4_35 rfl (lv_at hl 0 rfl) ?_
  refine lv_bipush (v := 8) hx hb dJ6_bitCount_0f7a4_36 (by decide) ?_
  refine lv_iushr (v := 0) hx hb dJ6_bitCount_0f7a4_38 (by decide) ?_
  refine lv_iadd hx hb dJ6_bitCount_0f7a4_39 ?_
  refine tE (y := 0) rfl ?_
  refine lv_istore_n (lv' := [(0, .int 0)]) hx hb dJ6_bitCount_0f7a4_40 rfl hl (by decide) rfl (fun ls hl => ?_)
  refine lv_iload_n hx hb dJ6_bitCount_0f7a4_41 rfl (lv_at hl 0 rfl) ?_
  refine lv_iload_n hx hb dJ6_bitCount_0f7a4_42 rfl (lv_at hl 0 rfl) ?_
  refine lv_bipush (v := 16) hx hb dJ6_bitCount_0f7a4_43 (by decide) ?_
  refine lv_iushr (v := 0) hx hb dJ6_bitCount_0f7a4_45 (by decide) ?_
  refine lv_iadd hx hb dJ6_bitCount_0f7a4_46 ?_
  refine tE (y := 0) rfl ?_
  refine lv_istore_n (lv' := [(0, .int 0)]) hx hb dJ6_bitCount_0f7a4_47 rfl hl (by decide) rfl (fun ls hl => ?_)
  refine lv_iload_n hx hb dJ6_bitCount_0f7a4_48 rfl (lv_at hl 0 rfl) ?_
  refine lv_bipush (v := 63) hx hb dJ6_bitCount_0f7a4_49 (by decide) ?_
  refine lv_iand hx hb dJ6_bitCount_0f7a4_51 ?_
  refine tE (y := 0) (by decide) ?_
  refine hret _ _ _ _ _ _ dJ6_bitCount_0f7a4_52 rfl ?_ hO
  exact ⟨rfl, rfl⟩
theorem dX10_knot_0 : decode cX10_knot 0 = .ok (.aload_n 0, 1) := by decide +kernel
theorem dX10_knot_1 : decode cX10_knot 1 = .ok (.getfield 37, 3) := by decide +kernel
theorem dX10_knot_4 : decode cX10_knot 4 = .ok (.iload_n 1, 1) := by decide +kernel
theorem dX10_knot_5 : decode cX10_knot 5 = .ok (.invokevirtual 126, 3) := by decide +kernel
theorem dX10_knot_8 : decode cX10_knot 8 = .ok (.ifCond .ne 5, 3) := by decide +kernel
theorem dX10_knot_11 : decode cX10_knot 11 = .ok (.iconst (-1), 1) := by decide +kernel
theorem dX10_knot_12 : decode cX10_knot 12 = .ok (.ireturn, 1) := by decide +kernel
theorem dX10_knot_13 : decode cX10_knot 13 = .ok (.iload_n 2, 1) := by decide +kernel
theorem dX10_knot_14 : decode cX10_knot 14 = .ok (.tableswitch 55 0 2 #[26, 36, 46], 26) := by decide +kernel
theorem dX10_knot_40 : decode cX10_knot 40 = .ok (.aload_n 0, 1) := by decide +kernel
theorem dX10_knot_41 : decode cX10_knot 41 = .ok (.getfield 37, 3) := by decide +kernel
theorem dX10_knot_44 : decode cX10_knot 44 = .ok (.iload_n 1, 1) := by decide +kernel
theorem dX10_knot_45 : decode cX10_knot 45 = .ok (.iconst 0, 1) := by decide +kernel
theorem dX10_knot_46 : decode cX10_knot 46 = .ok (.invokevirtual 130, 3) := by decide +kernel
theorem dX10_knot_49 : decode cX10_knot 49 = .ok (.ireturn, 1) := by decide +kernel
theorem dX10_knot_50 : decode cX10_knot 50 = .ok (.aload_n 0, 1) := by decide +kernel
theorem dX10_knot_51 : decode cX10_knot 51 = .ok (.getfield 37, 3) := by decide +kernel
theorem dX10_knot_54 : decode cX10_knot 54 = .ok (.iload_n 1, 1) := by decide +kernel
theorem dX10_knot_55 : decode cX10_knot 55 = .ok (.iconst 1, 1) := by decide +kernel
theorem dX10_knot_56 : decode cX10_knot 56 = .ok (.invokevirtual 130, 3) := by decide +kernel
theorem dX10_knot_59 : decode cX10_knot 59 = .ok (.ireturn, 1) := by decide +kernel
theorem dX10_knot_60 : decode cX10_knot 60 = .ok (.aload_n 0, 1) := by decide +kernel
theorem dX10_knot_61 : decode cX10_knot 61 = .ok (.getfield 37, 3) := by decide +kernel
theorem dX10_knot_64 : decode cX10_knot 64 = .ok (.iload_n 1, 1) := by decide +kernel
theorem dX10_knot_65 : decode cX10_knot 65 = .ok (.invokevirtual 134, 3) := by decide +kernel
theorem dX10_knot_68 : decode cX10_knot 68 = .ok (.ireturn, 1) := by decide +kernel
theorem dX10_knot_69 : decode cX10_knot 69 = .ok (.iconst (-1), 1) := by decide +kernel
theorem dX10_knot_70 : decode cX10_knot 70 = .ok (.ireturn, 1) := by decide +kernel
theorem wd_816 : (Cond.code ⟨"WebCourt", "knot", "(II)I"⟩ prog_1_method_6_code (3 : Nat) (Option.some FieldType.int)) ∈ gtb := gtb_c3 227 (by decide +kernel) rfl
theorem wd_470 : (Cond.fieldLink "WebCourt" (37 : Nat) "WebCourt" "court" "LWebCourt$Court;") ∈ gtb := gtb_c2 121 (by decide +kernel) rfl
theorem wd_481 : (Cond.laysFinal "WebCourt" "WebCourt" "tape" "LWebCourt$Tape;") ∈ gtb := gtb_c2 132 (by decide +kernel) rfl
theorem wd_483 : (Cond.laysFinal "WebCourt" "WebCourt" "reader" "LWebCourt$Reader;") ∈ gtb := gtb_c2 134 (by decide +kernel) rfl
theorem wd_485 : (Cond.laysFinal "WebCourt" "WebCourt" "court" "LWebCourt$Court;") ∈ gtb := gtb_c2 136 (by decide +kernel) rfl
theorem wd_487 : (Cond.laysFinal "WebCourt" "WebCourt" "acts" "LWebCourt$Acts;") ∈ gtb := gtb_c2 138 (by decide +kernel) rfl
theorem wd_489 : (Cond.laysFinal "WebCourt" "WebCourt" "ways" "LWebCourt$Ways;") ∈ gtb := gtb_c2 140 (by decide +kernel) rfl
theorem wd_491 : (Cond.laysFinal "WebCourt" "WebCourt" "rounds" "LWebCourt$Rounds;") ∈ gtb := gtb_c2 142 (by decide +kernel) rfl
theorem wd_493 : (Cond.laysFinal "WebCourt" "WebCourt" "counsel" "LWebCourt$Counsel;") ∈ gtb := gtb_c2 144 (by decide +kernel) rfl
theorem wd_495 : (Cond.laysFinal "WebCourt" "WebCourt" "hearsay" "LWebCourt$Hearsay;") ∈ gtb := gtb_c2 146 (by decide +kernel) rfl
theorem wd_497 : (Cond.laysFinal "WebCourt" "WebCourt" "boxes" "[[I") ∈ gtb := gtb_c2 148 (by decide +kernel) rfl
theorem wd_499 : (Cond.laysFinal "WebCourt" "WebCourt" "lying" "[I") ∈ gtb := gtb_c2 150 (by decide +kernel) rfl
theorem wd_501 : (Cond.lays "WebCourt" "WebCourt" "lyingCount" "I") ∈ gtb := gtb_c2 152 (by decide +kernel) rfl
theorem wd_503 : (Cond.lays "WebCourt" "WebCourt" "boxesKept" "I") ∈ gtb := gtb_c2 154 (by decide +kernel) rfl
theorem wd_505 : (Cond.lays "WebCourt" "WebCourt" "draft" "LWebCourt$Web;") ∈ gtb := gtb_c2 156 (by decide +kernel) rfl
theorem inFX10 : ∀ w ∈ u_ws RX10 TX10 13, w ∈ gtb := by
  show ∀ w ∈ [u_lay RX10 TX10 0, u_lay RX10 TX10 1, u_lay RX10 TX10 2, u_lay RX10 TX10 3, u_lay RX10 TX10 4, u_lay RX10 TX10 5, u_lay RX10 TX10 6, u_lay RX10 TX10 7, u_lay RX10 TX10 8, u_lay RX10 TX10 9, u_lay RX10 TX10 10, u_lay RX10 TX10 11, u_lay RX10 TX10 12], w ∈ gtb
  exact List.forall_mem_cons.mpr ⟨wd_481, List.forall_mem_cons.mpr ⟨wd_483, List.forall_mem_cons.mpr ⟨wd_485, List.forall_mem_cons.mpr ⟨wd_487, List.forall_mem_cons.mpr ⟨wd_489, List.forall_mem_cons.mpr ⟨wd_491, List.forall_mem_cons.mpr ⟨wd_493, List.forall_mem_cons.mpr ⟨wd_495, List.forall_mem_cons.mpr ⟨wd_497, List.forall_mem_cons.mpr ⟨wd_499, List.forall_mem_cons.mpr ⟨wd_501, List.forall_mem_cons.mpr ⟨wd_503, List.forall_mem_cons.mpr ⟨wd_505, fun _ h => absurd h List.not_mem_nil⟩⟩⟩⟩⟩⟩⟩⟩⟩⟩⟩⟩⟩
theorem gf_RX10_37 {p : Program} {l : Launch} {e : Env} {R : Room} {s : State} {m : MethodId} {args : Array Value} {below : List Frame} {meth : Method} {c : Code} {H : Heap} {locs : List Loc} {cells slots : Nat} {Q : State → Prop} {cc : ByteArray} {pc nL : Nat} {ls : Array Slot} {rest : List Value} {D : va_G} {cy : Nat → ClassId} {A : Nat → Prop} {ws : va_W} {b : Nat} {fs : List Value} {v : Value} (C : Cx p s m args c cc nL RX10 D cy A) (hO : Wo D A ws s.heap H locs) (q0 : Nat) (he : ws[q0]? = some (b, .inr (10, fs))) (hv : fs[2]? = some v) (hdg : decode cc pc = .ok (.getfield 37, 3)) (kk : W p l e R s m args below meth c H locs cells slots Q (F0 m (pc + 3) ls (v :: rest))) : W p l e R s m args below meth c H locs cells slots Q (F0 m pc ls (.ref b :: rest)) := gF (k := 2) C hO q0 he rfl inFX10 (by decide) wd_470 rfl hv hdg kk
theorem wd_817 : (Cond.methodLink "WebCourt" (126 : Nat) ⟨"WebCourt$Court", "hasKnot", "(I)Z"⟩) ∈ gtb := gtb_c3 228 (by decide +kernel) rfl
set_option maxHeartbeats 4000000 in
set_option maxRecDepth 100000 in
theorem T_X10_knot (l : Launch) (D : va_G) (cy : Nat → ClassId) (a : Nat → Nat) (u : St) (hI_3_9 : fI u 3 9 = 0) (hR_0 : fR u 0 = a 3) (x1 : Int32) (x2 : Int32)  : Mi l D cy (cW cy a) yX10_knot (.code yX10_knot cX10_knot 3 (some .int)) (rmo 1 21) [.ref (a 0), .int x1, .int x2] u (fun (r : Int32) (u' : St) => r = (-1) ∧ u' = u) := by
  refine Mi.of (own := RX10) rfl (by decide) (Nat.le_of_ble_eq_true rfl) ?_
  intro p e s m below meth c A Q ls C hret hO hl
  obtain ⟨hx, hb, hml, hown, ht, hK, hA⟩ := id C
  have hl : lv_has ls 3 [(0, .ref (a 0)), (1, .int x1), (2, .int x2)] := hl
  refine lv_aload_n hx hb dX10_knot_0 rfl (lv_at hl 0 rfl) ?_
  refine gf_RX10_37 (v := .ref (a 28)) C hO 0 cW_0 rfl dX10_knot_1 ?_
  refine lv_iload_n hx hb dX10_knot_4 rfl (lv_at hl 1 rfl) ?_
  refine cVi (w := cW cy a) (As := [.int x1]) (rest := []) C hO (T_X2_hasKnot l D cy a _ (by exact hI_3_9) (by exact hR_0) (x1)) (cwV 1 ht (gV wd_817 wd_818 wd_819 wd_115 wd_820) rfl rfl rfl hd_yX2_hasKnot ⟨Nat.le_of_ble_eq_true rfl, Nat.le_of_ble_eq_true rfl⟩) 28 rfl cW_28 rfl rfl hl.1 (Nat.le_of_ble_eq_true rfl) dX10_knot_5 rfl ⟨Nat.zero_le _, Nat.zero_le _⟩ (fun r1 u2 H locs hp3 hO => ?_)
  obtain ⟨hr1, hu2⟩ := hp3
  subst hr1
  rw [hu2] at hO
  refine bn_ne (X := 0) hx hb dX10_knot_8 rfl (by omega) ?_ (tgt := 13) (by decide)
  refine lv_iconst (v := (-1)) hx hb dX10_knot_11 (by decide) ?_
  refine hret _ _ _ _ _ _ dX10_knot_12 rfl ?_ hO
  exact ⟨rfl, rfl⟩
theorem dX10_item_0 : decode cX10_item 0 = .ok (.aload_n 0, 1) := by decide +kernel
theorem dX10_item_1 : decode cX10_item 1 = .ok (.getfield 37, 3) := by decide +kernel
theorem dX10_item_4 : decode cX10_item 4 = .ok (.iload_n 1, 1) := by decide +kernel
theorem dX10_item_5 : decode cX10_item 5 = .ok (.invokevirtual 144, 3) := by decide +kernel
theorem dX10_item_8 : decode cX10_item 8 = .ok (.ifCond .ne 5, 3) := by decide +kernel
theorem dX10_item_11 : decode cX10_item 11 = .ok (.iconst (-1), 1) := by decide +kernel
theorem dX10_item_12 : decode cX10_item 12 = .ok (.ireturn, 1) := by decide +kernel
theorem dX10_item_13 : decode cX10_item 13 = .ok (.iload_n 2, 1) := by decide +kernel
theorem dX10_item_14 : decode cX10_item 14 = .ok (.tableswitch 115 0 5 #[38, 51, 63, 76, 89, 102], 38) := by decide +kernel
theorem dX10_item_52 : decode cX10_item 52 = .ok (.aload_n 0, 1) := by decide +kernel
theorem dX10_item_53 : decode cX10_item 53 = .ok (.getfield 37, 3) := by decide +kernel
theorem dX10_item_56 : decode cX10_item 56 = .ok (.getfield 101, 3) := by decide +kernel
theorem dX10_item_59 : decode cX10_item 59 = .ok (.getfield 147, 3) := by decide +kernel
theorem dX10_item_62 : decode cX10_item 62 = .ok (.iload_n 1, 1) := by decide +kernel
theorem dX10_item_63 : decode cX10_item 63 = .ok (.iaload, 1) := by decide +kernel
theorem dX10_item_64 : decode cX10_item 64 = .ok (.ireturn, 1) := by decide +kernel
theorem dX10_item_65 : decode cX10_item 65 = .ok (.aload_n 0, 1) := by decide +kernel
theorem dX10_item_66 : decode cX10_item 66 = .ok (.getfield 37, 3) := by decide +kernel
theorem dX10_item_69 : decode cX10_item 69 = .ok (.getfield 150, 3) := by decide +kernel
theorem dX10_item_72 : decode cX10_item 72 = .ok (.iconst 5, 1) := by decide +kernel
theorem dX10_item_73 : decode cX10_item 73 = .ok (.iload_n 1, 1) := by decide +kernel
theorem dX10_item_74 : decode cX10_item 74 = .ok (.iadd, 1) := by decide +kernel
theorem dX10_item_75 : decode cX10_item 75 = .ok (.iaload, 1) := by decide +kernel
theorem dX10_item_76 : decode cX10_item 76 = .ok (.ireturn, 1) := by decide +kernel
theorem dX10_item_77 : decode cX10_item 77 = .ok (.aload_n 0, 1) := by decide +kernel
theorem dX10_item_78 : decode cX10_item 78 = .ok (.getfield 37, 3) := by decide +kernel
theorem dX10_item_81 : decode cX10_item 81 = .ok (.getfield 150, 3) := by decide +kernel
theorem dX10_item_84 : decode cX10_item 84 = .ok (.bipush 11, 2) := by decide +kernel
theorem dX10_item_86 : decode cX10_item 86 = .ok (.iload_n 1, 1) := by decide +kernel
theorem dX10_item_87 : decode cX10_item 87 = .ok (.iadd, 1) := by decide +kernel
theorem dX10_item_88 : decode cX10_item 88 = .ok (.iaload, 1) := by decide +kernel
theorem dX10_item_89 : decode cX10_item 89 = .ok (.ireturn, 1) := by decide +kernel
theorem dX10_item_90 : decode cX10_item 90 = .ok (.aload_n 0, 1) := by decide +kernel
theorem dX10_item_91 : decode cX10_item 91 = .ok (.getfield 37, 3) := by decide +kernel
theorem dX10_item_94 : decode cX10_item 94 = .ok (.getfield 101, 3) := by decide +kernel
theorem dX10_item_97 : decode cX10_item 97 = .ok (.getfield 153, 3) := by decide +kernel
theorem dX10_item_100 : decode cX10_item 100 = .ok (.iload_n 1, 1) := by decide +kernel
theorem dX10_item_101 : decode cX10_item 101 = .ok (.iaload, 1) := by decide +kernel
theorem dX10_item_102 : decode cX10_item 102 = .ok (.ireturn, 1) := by decide +kernel
theorem dX10_item_103 : decode cX10_item 103 = .ok (.aload_n 0, 1) := by decide +kernel
theorem dX10_item_104 : decode cX10_item 104 = .ok (.getfield 37, 3) := by decide +kernel
theorem dX10_item_107 : decode cX10_item 107 = .ok (.getfield 150, 3) := by decide +kernel
theorem dX10_item_110 : decode cX10_item 110 = .ok (.bipush 17, 2) := by decide +kernel
theorem dX10_item_112 : decode cX10_item 112 = .ok (.iload_n 1, 1) := by decide +kernel
theorem dX10_item_113 : decode cX10_item 113 = .ok (.iadd, 1) := by decide +kernel
theorem dX10_item_114 : decode cX10_item 114 = .ok (.iaload, 1) := by decide +kernel
theorem dX10_item_115 : decode cX10_item 115 = .ok (.ireturn, 1) := by decide +kernel
theorem dX10_item_116 : decode cX10_item 116 = .ok (.aload_n 0, 1) := by decide +kernel
theorem dX10_item_117 : decode cX10_item 117 = .ok (.getfield 37, 3) := by decide +kernel
theorem dX10_item_120 : decode cX10_item 120 = .ok (.getfield 150, 3) := by decide +kernel
theorem dX10_item_123 : decode cX10_item 123 = .ok (.bipush 23, 2) := by decide +kernel
theorem dX10_item_125 : decode cX10_item 125 = .ok (.iload_n 1, 1) := by decide +kernel
theorem dX10_item_126 : decode cX10_item 126 = .ok (.iadd, 1) := by decide +kernel
theorem dX10_item_127 : decode cX10_item 127 = .ok (.iaload, 1) := by decide +kernel
theorem dX10_item_128 : decode cX10_item 128 = .ok (.ireturn, 1) := by decide +kernel
theorem dX10_item_129 : decode cX10_item 129 = .ok (.iconst (-1), 1) := by decide +kernel
theorem dX10_item_130 : decode cX10_item 130 = .ok (.ireturn, 1) := by decide +kernel
theorem wd_840 : (Cond.code ⟨"WebCourt", "item", "(II)I"⟩ prog_1_method_8_code (3 : Nat) (Option.some FieldType.int)) ∈ gtb := gtb_c4 11 (by decide +kernel) rfl
theorem wd_841 : (Cond.methodLink "WebCourt" (144 : Nat) ⟨"WebCourt$Court", "hasCase", "(I)Z"⟩) ∈ gtb := gtb_c4 12 (by decide +kernel) rfl
set_option maxHeartbeats 4000000 in
set_option maxRecDepth 100000 in
theorem T_X10_item (l : Launch) (D : va_G) (cy : Nat → ClassId) (a : Nat → Nat) (u : St) (hI_3_12 : fI u 3 12 = 0) (hR_0 : fR u 0 = a 3) (x1 : Int32) (x2 : Int32)  : Mi l D cy (cW cy a) yX10_item (.code yX10_item cX10_item 3 (some .int)) (rmo 1 21) [.ref (a 0), .int x1, .int x2] u (fun (r : Int32) (u' : St) => r = (-1) ∧ u' = u) := by
  refine Mi.of (own := RX10) rfl (by decide) (Nat.le_of_ble_eq_true rfl) ?_
  intro p e s m below meth c A Q ls C hret hO hl
  obtain ⟨hx, hb, hml, hown, ht, hK, hA⟩ := id C
  have hl : lv_has ls 3 [(0, .ref (a 0)), (1, .int x1), (2, .int x2)] := hl
  refine lv_aload_n hx hb dX10_item_0 rfl (lv_at hl 0 rfl) ?_
  refine gf_RX10_37 (v := .ref (a 28)) C hO 0 cW_0 rfl dX10_item_1 ?_
  refine lv_iload_n hx hb dX10_item_4 rfl (lv_at hl 1 rfl) ?_
  refine cVi (w := cW cy a) (As := [.int x1]) (rest := []) C hO (T_X2_hasCase l D cy a _ (by exact hI_3_12) (by exact hR_0) (x1)) (cwV 1 ht (gV wd_841 wd_842 wd_843 wd_115 wd_844) rfl rfl rfl hd_yX2_hasCase ⟨Nat.le_of_ble_eq_true rfl, Nat.le_of_ble_eq_true rfl⟩) 28 rfl cW_28 rfl rfl hl.1 (Nat.le_of_ble_eq_true rfl) dX10_item_5 rfl ⟨Nat.zero_le _, Nat.zero_le _⟩ (fun r1 u2 H locs hp3 hO => ?_)
  obtain ⟨hr1, hu2⟩ := hp3
  subst hr1
  rw [hu2] at hO
  refine bn_ne (X := 0) hx hb dX10_item_8 rfl (by omega) ?_ (tgt := 13) (by decide)
  refine lv_iconst (v := (-1)) hx hb dX10_item_11 (by decide) ?_
  refine hret _ _ _ _ _ _ dX10_item_12 rfl ?_ hO
  exact ⟨rfl, rfl⟩
theorem dX10_plea_0 : decode cX10_plea 0 = .ok (.aload_n 0, 1) := by decide +kernel
theorem dX10_plea_1 : decode cX10_plea 1 = .ok (.getfield 37, 3) := by decide +kernel
theorem dX10_plea_4 : decode cX10_plea 4 = .ok (.iload_n 1, 1) := by decide +kernel
theorem dX10_plea_5 : decode cX10_plea 5 = .ok (.invokevirtual 138, 3) := by decide +kernel
theorem dX10_plea_8 : decode cX10_plea 8 = .ok (.ifCond .eq 18, 3) := by decide +kernel
theorem dX10_plea_11 : decode cX10_plea 11 = .ok (.aload_n 0, 1) := by decide +kernel
theorem dX10_plea_12 : decode cX10_plea 12 = .ok (.getfield 37, 3) := by decide +kernel
theorem dX10_plea_15 : decode cX10_plea 15 = .ok (.getfield 101, 3) := by decide +kernel
theorem dX10_plea_18 : decode cX10_plea 18 = .ok (.getfield 141, 3) := by decide +kernel
theorem dX10_plea_21 : decode cX10_plea 21 = .ok (.iload_n 1, 1) := by decide +kernel
theorem dX10_plea_22 : decode cX10_plea 22 = .ok (.iaload, 1) := by decide +kernel
theorem dX10_plea_23 : decode cX10_plea 23 = .ok (.goto 4, 3) := by decide +kernel
theorem dX10_plea_26 : decode cX10_plea 26 = .ok (.iconst (-1), 1) := by decide +kernel
theorem dX10_plea_27 : decode cX10_plea 27 = .ok (.ireturn, 1) := by decide +kernel
theorem wd_832 : (Cond.code ⟨"WebCourt", "plea", "(I)I"⟩ prog_1_method_7_code (2 : Nat) (Option.some FieldType.int)) ∈ gtb := gtb_c4 3 (by decide +kernel) rfl
theorem wd_833 : (Cond.methodLink "WebCourt" (138 : Nat) ⟨"WebCourt$Court", "hasPlea", "(I)Z"⟩) ∈ gtb := gtb_c4 4 (by decide +kernel) rfl
theorem wd_834 : (Cond.instanceMethod ⟨"WebCourt$Court", "hasPlea", "(I)Z"⟩) ∈ gtb := gtb_c4 5 (by decide +kernel) rfl
theorem wd_835 : (Cond.selects "WebCourt$Court" ⟨"WebCourt$Court", "hasPlea", "(I)Z"⟩ ⟨"WebCourt$Court", "hasPlea", "(I)Z"⟩) ∈ gtb := gtb_c4 6 (by decide +kernel) rfl
theorem hd_yX2_hasPlea : yX2_hasPlea.cls = RX2 ∧ yX2_hasPlea.cls ≠ "java/lang/invoke/MethodHandle" ∧ yX2_hasPlea.cls ≠ "java/lang/invoke/VarHandle" ∧ (parseMethodDescriptor yX2_hasPlea.desc).map (fun d => d.parameters.length) = some 1 := by decide +kernel
set_option maxHeartbeats 4000000 in
set_option maxRecDepth 100000 in
theorem T_X10_plea (l : Launch) (D : va_G) (cy : Nat → ClassId) (a : Nat → Nat) (u : St) (hI_3_11 : fI u 3 11 = 0) (hR_0 : fR u 0 = a 3) (x1 : Int32)  : Mi l D cy (cW cy a) yX10_plea (.code yX10_plea cX10_plea 2 (some .int)) (rmo 1 21) [.ref (a 0), .int x1] u (fun (r : Int32) (u' : St) => r = (-1) ∧ u' = u) := by
  refine Mi.of (own := RX10) rfl (by decide) (Nat.le_of_ble_eq_true rfl) ?_
  intro p e s m below meth c A Q ls C hret hO hl
  obtain ⟨hx, hb, hml, hown, ht, hK, hA⟩ := id C
  have hl : lv_has ls 2 [(0, .ref (a 0)), (1, .int x1)] := hl
  refine lv_aload_n hx hb dX10_plea_0 rfl (lv_at hl 0 rfl) ?_
  refine gf_RX10_37 (v := .ref (a 28)) C hO 0 cW_0 rfl dX10_plea_1 ?_
  refine lv_iload_n hx hb dX10_plea_4 rfl (lv_at hl 1 rfl) ?_
  refine cVi (w := cW cy a) (As := [.int x1]) (rest := []) C hO (T_X2_hasPlea l D cy a _ (by exact hI_3_11) (by exact hR_0) (x1)) (cwV 1 ht (gV wd_833 wd_834 wd_835 wd_115 wd_836) rfl rfl rfl hd_yX2_hasPlea ⟨Nat.le_of_ble_eq_true rfl, Nat.le_of_ble_eq_true rfl⟩) 28 rfl cW_28 rfl rfl hl.1 (Nat.le_of_ble_eq_true rfl) dX10_plea_5 rfl ⟨Nat.zero_le _, Nat.zero_le _⟩ (fun r1 u2 H locs hp3 hO => ?_)
  obtain ⟨hr1, hu2⟩ := hp3
  subst hr1
  rw [hu2] at hO
  refine bt_eq (tgt := 26) (X := 0) hx hb dX10_plea_8 (by decide) rfl (by omega) ?_
  refine lv_iconst (v := (-1)) hx hb dX10_plea_26 (by decide) ?_
  refine hret _ _ _ _ _ _ dX10_plea_27 rfl ?_ hO
  exact ⟨rfl, rfl⟩
theorem dX10_verdict_0 : decode cX10_verdict 0 = .ok (.aload_n 0, 1) := by decide +kernel
theorem dX10_verdict_1 : decode cX10_verdict 1 = .ok (.getfield 37, 3) := by decide +kernel
theorem dX10_verdict_4 : decode cX10_verdict 4 = .ok (.iload_n 1, 1) := by decide +kernel
theorem dX10_verdict_5 : decode cX10_verdict 5 = .ok (.invokevirtual 144, 3) := by decide +kernel
theorem dX10_verdict_8 : decode cX10_verdict 8 = .ok (.ifCond .eq 14, 3) := by decide +kernel
theorem dX10_verdict_11 : decode cX10_verdict 11 = .ok (.aload_n 0, 1) := by decide +kernel
theorem dX10_verdict_12 : decode cX10_verdict 12 = .ok (.getfield 37, 3) := by decide +kernel
theorem dX10_verdict_15 : decode cX10_verdict 15 = .ok (.iload_n 1, 1) := by decide +kernel
theorem dX10_verdict_16 : decode cX10_verdict 16 = .ok (.invokevirtual 156, 3) := by decide +kernel
theorem dX10_verdict_19 : decode cX10_verdict 19 = .ok (.goto 5, 3) := by decide +kernel
theorem dX10_verdict_22 : decode cX10_verdict 22 = .ok (.ldc 159, 2) := by decide +kernel
theorem dX10_verdict_24 : decode cX10_verdict 24 = .ok (.ireturn, 1) := by decide +kernel
theorem wd_848 : (Cond.code ⟨"WebCourt", "verdict", "(I)I"⟩ prog_1_method_9_code (2 : Nat) (Option.some FieldType.int)) ∈ gtb := gtb_c4 19 (by decide +kernel) rfl
theorem wd_895 : (Cond.constant "WebCourt" (159 : Nat) (-1000000000 : Int32)) ∈ gtb := gtb_c4 66 (by decide +kernel) rfl
set_option maxHeartbeats 4000000 in
set_option maxRecDepth 100000 in
theorem T_X10_verdict (l : Launch) (D : va_G) (cy : Nat → ClassId) (a : Nat → Nat) (u : St) (hI_3_12 : fI u 3 12 = 0) (hR_0 : fR u 0 = a 3) (x1 : Int32)  : Mi l D cy (cW cy a) yX10_verdict (.code yX10_verdict cX10_verdict 2 (some .int)) (rmo 1 21) [.ref (a 0), .int x1] u (fun (r : Int32) (u' : St) => r = (-1000000000) ∧ u' = u) := by
  refine Mi.of (own := RX10) rfl (by decide) (Nat.le_of_ble_eq_true rfl) ?_
  intro p e s m below meth c A Q ls C hret hO hl
  obtain ⟨hx, hb, hml, hown, ht, hK, hA⟩ := id C
  have hl : lv_has ls 2 [(0, .ref (a 0)), (1, .int x1)] := hl
  refine lv_aload_n hx hb dX10_verdict_0 rfl (lv_at hl 0 rfl) ?_
  refine gf_RX10_37 (v := .ref (a 28)) C hO 0 cW_0 rfl dX10_verdict_1 ?_
  refine lv_iload_n hx hb dX10_verdict_4 rfl (lv_at hl 1 rfl) ?_
  refine cVi (w := cW cy a) (As := [.int x1]) (rest := []) C hO (T_X2_hasCase l D cy a _ (by exact hI_3_12) (by exact hR_0) (x1)) (cwV 1 ht (gV wd_841 wd_842 wd_843 wd_115 wd_844) rfl rfl rfl hd_yX2_hasCase ⟨Nat.le_of_ble_eq_true rfl, Nat.le_of_ble_eq_true rfl⟩) 28 rfl cW_28 rfl rfl hl.1 (Nat.le_of_ble_eq_true rfl) dX10_verdict_5 rfl ⟨Nat.zero_le _, Nat.zero_le _⟩ (fun r1 u2 H locs hp3 hO => ?_)
  obtain ⟨hr1, hu2⟩ := hp3
  subst hr1
  rw [hu2] at hO
  refine bt_eq (tgt := 22) (X := 0) hx hb dX10_verdict_8 (by decide) rfl (by omega) ?_
  refine lv_ldc (v := (-1000000000)) hx hb hown (ht _ wd_895) dX10_verdict_22 ?_
  refine hret _ _ _ _ _ _ dX10_verdict_24 rfl ?_ hO
  exact ⟨rfl, rfl⟩
theorem dX10_hour_0 : decode cX10_hour 0 = .ok (.aload_n 0, 1) := by decide +kernel
theorem dX10_hour_1 : decode cX10_hour 1 = .ok (.getfield 37, 3) := by decide +kernel
theorem dX10_hour_4 : decode cX10_hour 4 = .ok (.iload_n 1, 1) := by decide +kernel
theorem dX10_hour_5 : decode cX10_hour 5 = .ok (.invokevirtual 160, 3) := by decide +kernel
theorem dX10_hour_8 : decode cX10_hour 8 = .ok (.ifCond .ne 5, 3) := by decide +kernel
theorem dX10_hour_11 : decode cX10_hour 11 = .ok (.iconst (-1), 1) := by decide +kernel
theorem dX10_hour_12 : decode cX10_hour 12 = .ok (.ireturn, 1) := by decide +kernel
theorem dX10_hour_13 : decode cX10_hour 13 = .ok (.aload_n 0, 1) := by decide +kernel
theorem dX10_hour_14 : decode cX10_hour 14 = .ok (.getfield 44, 3) := by decide +kernel
theorem dX10_hour_17 : decode cX10_hour 17 = .ok (.aload_n 0, 1) := by decide +kernel
theorem dX10_hour_18 : decode cX10_hour 18 = .ok (.getfield 37, 3) := by decide +kernel
theorem dX10_hour_21 : decode cX10_hour 21 = .ok (.getfield 150, 3) := by decide +kernel
theorem dX10_hour_24 : decode cX10_hour 24 = .ok (.invokevirtual 163, 3) := by decide +kernel
theorem dX10_hour_27 : decode cX10_hour 27 = .ok (.aload_n 0, 1) := by decide +kernel
theorem dX10_hour_28 : decode cX10_hour 28 = .ok (.getfield 37, 3) := by decide +kernel
theorem dX10_hour_31 : decode cX10_hour 31 = .ok (.iload_n 1, 1) := by decide +kernel
theorem dX10_hour_32 : decode cX10_hour 32 = .ok (.invokevirtual 167, 3) := by decide +kernel
theorem dX10_hour_35 : decode cX10_hour 35 = .ok (.ireturn, 1) := by decide +kernel
theorem wd_899 : (Cond.code ⟨"WebCourt", "hour", "(I)I"⟩ prog_1_method_10_code (2 : Nat) (Option.some FieldType.int)) ∈ gtb := gtb_c4 70 (by decide +kernel) rfl
theorem wd_900 : (Cond.methodLink "WebCourt" (160 : Nat) ⟨"WebCourt$Court", "canGo", "(I)Z"⟩) ∈ gtb := gtb_c4 71 (by decide +kernel) rfl
theorem wd_901 : (Cond.instanceMethod ⟨"WebCourt$Court", "canGo", "(I)Z"⟩) ∈ gtb := gtb_c4 72 (by decide +kernel) rfl
theorem wd_902 : (Cond.selects "WebCourt$Court" ⟨"WebCourt$Court", "canGo", "(I)Z"⟩ ⟨"WebCourt$Court", "canGo", "(I)Z"⟩) ∈ gtb := gtb_c4 73 (by decide +kernel) rfl
theorem hd_yX2_canGo : yX2_canGo.cls = RX2 ∧ yX2_canGo.cls ≠ "java/lang/invoke/MethodHandle" ∧ yX2_canGo.cls ≠ "java/lang/invoke/VarHandle" ∧ (parseMethodDescriptor yX2_canGo.desc).map (fun d => d.parameters.length) = some 1 := by decide +kernel
set_option maxHeartbeats 4000000 in
set_option maxRecDepth 100000 in
theorem T_X10_hour (l : Launch) (D : va_G) (cy : Nat → ClassId) (a : Nat → Nat) (u : St) (hI_3_9 : fI u 3 9 = 0) (hR_0 : fR u 0 = a 3) (x1 : Int32)  : Mi l D cy (cW cy a) yX10_hour (.code yX10_hour cX10_hour 2 (some .int)) (rmo 2 42) [.ref (a 0), .int x1] u (fun (r : Int32) (u' : St) => r = (-1) ∧ u' = u) := by
  refine Mi.of (own := RX10) rfl (by decide) (Nat.le_of_ble_eq_true rfl) ?_
  intro p e s m below meth c A Q ls C hret hO hl
  obtain ⟨hx, hb, hml, hown, ht, hK, hA⟩ := id C
  have hl : lv_has ls 2 [(0, .ref (a 0)), (1, .int x1)] := hl
  refine lv_aload_n hx hb dX10_hour_0 rfl (lv_at hl 0 rfl) ?_
  refine gf_RX10_37 (v := .ref (a 28)) C hO 0 cW_0 rfl dX10_hour_1 ?_
  refine lv_iload_n hx hb dX10_hour_4 rfl (lv_at hl 1 rfl) ?_
  refine cVi (w := cW cy a) (As := [.int x1]) (rest := []) C hO (T_X2_canGo l D cy a _ (by exact hI_3_9) (by exact hR_0) (x1)) (cwV 1 ht (gV wd_900 wd_901 wd_902 wd_115 wd_903) rfl rfl rfl hd_yX2_canGo ⟨Nat.le_of_ble_eq_true rfl, Nat.le_of_ble_eq_true rfl⟩) 28 rfl cW_28 rfl rfl hl.1 (Nat.le_of_ble_eq_true rfl) dX10_hour_5 rfl ⟨Nat.zero_le _, Nat.zero_le _⟩ (fun r1 u2 H locs hp3 hO => ?_)
  obtain ⟨hr1, hu2⟩ := hp3
  subst hr1
  rw [hu2] at hO
  refine bn_ne (X := 0) hx hb dX10_hour_8 rfl (by omega) ?_ (tgt := 13) (by decide)
  refine lv_iconst (v := (-1)) hx hb dX10_hour_11 (by decide) ?_
  refine hret _ _ _ _ _ _ dX10_hour_12 rfl ?_ hO
  exact ⟨rfl, rfl⟩
theorem dX10_hear_0 : decode cX10_hear 0 = .ok (.aload_n 0, 1) := by decide +kernel
theorem dX10_hear_1 : decode cX10_hear 1 = .ok (.getfield 37, 3) := by decide +kernel
theorem dX10_hear_4 : decode cX10_hear 4 = .ok (.iload_n 1, 1) := by decide +kernel
theorem dX10_hear_5 : decode cX10_hear 5 = .ok (.invokevirtual 170, 3) := by decide +kernel
theorem dX10_hear_8 : decode cX10_hear 8 = .ok (.ifCond .ne 5, 3) := by decide +kernel
theorem dX10_hear_11 : decode cX10_hear 11 = .ok (.iconst (-1), 1) := by decide +kernel
theorem dX10_hear_12 : decode cX10_hear 12 = .ok (.ireturn, 1) := by decide +kernel
theorem dX10_hear_13 : decode cX10_hear 13 = .ok (.aload_n 0, 1) := by decide +kernel
theorem dX10_hear_14 : decode cX10_hear 14 = .ok (.getfield 44, 3) := by decide +kernel
theorem dX10_hear_17 : decode cX10_hear 17 = .ok (.aload_n 0, 1) := by decide +kernel
theorem dX10_hear_18 : decode cX10_hear 18 = .ok (.getfield 37, 3) := by decide +kernel
theorem dX10_hear_21 : decode cX10_hear 21 = .ok (.getfield 150, 3) := by decide +kernel
theorem dX10_hear_24 : decode cX10_hear 24 = .ok (.invokevirtual 163, 3) := by decide +kernel
theorem dX10_hear_27 : decode cX10_hear 27 = .ok (.aload_n 0, 1) := by decide +kernel
theorem dX10_hear_28 : decode cX10_hear 28 = .ok (.getfield 37, 3) := by decide +kernel
theorem dX10_hear_31 : decode cX10_hear 31 = .ok (.iload_n 1, 1) := by decide +kernel
theorem dX10_hear_32 : decode cX10_hear 32 = .ok (.invokevirtual 173, 3) := by decide +kernel
theorem dX10_hear_35 : decode cX10_hear 35 = .ok (.ireturn, 1) := by decide +kernel
theorem wd_924 : (Cond.code ⟨"WebCourt", "hear", "(I)I"⟩ prog_1_method_11_code (2 : Nat) (Option.some FieldType.int)) ∈ gtb := gtb_c4 95 (by decide +kernel) rfl
theorem wd_925 : (Cond.methodLink "WebCourt" (170 : Nat) ⟨"WebCourt$Court", "canBeHeard", "(I)Z"⟩) ∈ gtb := gtb_c4 96 (by decide +kernel) rfl
theorem wd_926 : (Cond.instanceMethod ⟨"WebCourt$Court", "canBeHeard", "(I)Z"⟩) ∈ gtb := gtb_c4 97 (by decide +kernel) rfl
theorem wd_927 : (Cond.selects "WebCourt$Court" ⟨"WebCourt$Court", "canBeHeard", "(I)Z"⟩ ⟨"WebCourt$Court", "canBeHeard", "(I)Z"⟩) ∈ gtb := gtb_c4 98 (by decide +kernel) rfl
theorem hd_yX2_canBeHeard : yX2_canBeHeard.cls = RX2 ∧ yX2_canBeHeard.cls ≠ "java/lang/invoke/MethodHandle" ∧ yX2_canBeHeard.cls ≠ "java/lang/invoke/VarHandle" ∧ (parseMethodDescriptor yX2_canBeHeard.desc).map (fun d => d.parameters.length) = some 1 := by decide +kernel
set_option maxHeartbeats 4000000 in
set_option maxRecDepth 100000 in
theorem T_X10_hear (l : Launch) (D : va_G) (cy : Nat → ClassId) (a : Nat → Nat) (u : St) (hI_3_12 : fI u 3 12 = 0) (hR_0 : fR u 0 = a 3) (x1 : Int32)  : Mi l D cy (cW cy a) yX10_hear (.code yX10_hear cX10_hear 2 (some .int)) (rmo 3 63) [.ref (a 0), .int x1] u (fun (r : Int32) (u' : St) => r = (-1) ∧ u' = u) := by
  refine Mi.of (own := RX10) rfl (by decide) (Nat.le_of_ble_eq_true rfl) ?_
  intro p e s m below meth c A Q ls C hret hO hl
  obtain ⟨hx, hb, hml, hown, ht, hK, hA⟩ := id C
  have hl : lv_has ls 2 [(0, .ref (a 0)), (1, .int x1)] := hl
  refine lv_aload_n hx hb dX10_hear_0 rfl (lv_at hl 0 rfl) ?_
  refine gf_RX10_37 (v := .ref (a 28)) C hO 0 cW_0 rfl dX10_hear_1 ?_
  refine lv_iload_n hx hb dX10_hear_4 rfl (lv_at hl 1 rfl) ?_
  refine cVi (w := cW cy a) (As := [.int x1]) (rest := []) C hO (T_X2_canBeHeard l D cy a _ (by exact hI_3_12) (by exact hR_0) (x1)) (cwV 1 ht (gV wd_925 wd_926 wd_927 wd_115 wd_928) rfl rfl rfl hd_yX2_canBeHeard ⟨Nat.le_of_ble_eq_true rfl, Nat.le_of_ble_eq_true rfl⟩) 28 rfl cW_28 rfl rfl hl.1 (Nat.le_of_ble_eq_true rfl) dX10_hear_5 rfl ⟨Nat.zero_le _, Nat.zero_le _⟩ (fun r1 u2 H locs hp3 hO => ?_)
  obtain ⟨hr1, hu2⟩ := hp3
  subst hr1
  rw [hu2] at hO
  refine bn_ne (X := 0) hx hb dX10_hear_8 rfl (by omega) ?_ (tgt := 13) (by decide)
  refine lv_iconst (v := (-1)) hx hb dX10_hear_11 (by decide) ?_
  refine hret _ _ _ _ _ _ dX10_hear_12 rfl ?_ hO
  exact ⟨rfl, rfl⟩
theorem dX10_grab_0 : decode cX10_grab 0 = .ok (.aload_n 0, 1) := by decide +kernel
theorem dX10_grab_1 : decode cX10_grab 1 = .ok (.getfield 37, 3) := by decide +kernel
theorem dX10_grab_4 : decode cX10_grab 4 = .ok (.iload_n 1, 1) := by decide +kernel
theorem dX10_grab_5 : decode cX10_grab 5 = .ok (.invokevirtual 144, 3) := by decide +kernel
theorem dX10_grab_8 : decode cX10_grab 8 = .ok (.ifCond .eq 14, 3) := by decide +kernel
theorem dX10_grab_11 : decode cX10_grab 11 = .ok (.aload_n 0, 1) := by decide +kernel
theorem dX10_grab_12 : decode cX10_grab 12 = .ok (.getfield 37, 3) := by decide +kernel
theorem dX10_grab_15 : decode cX10_grab 15 = .ok (.iload_n 1, 1) := by decide +kernel
theorem dX10_grab_16 : decode cX10_grab 16 = .ok (.invokevirtual 189, 3) := by decide +kernel
theorem dX10_grab_19 : decode cX10_grab 19 = .ok (.ifCond .eq 5, 3) := by decide +kernel
theorem dX10_grab_22 : decode cX10_grab 22 = .ok (.iconst (-1), 1) := by decide +kernel
theorem dX10_grab_23 : decode cX10_grab 23 = .ok (.ireturn, 1) := by decide +kernel
theorem dX10_grab_24 : decode cX10_grab 24 = .ok (.aload_n 0, 1) := by decide +kernel
theorem dX10_grab_25 : decode cX10_grab 25 = .ok (.getfield 44, 3) := by decide +kernel
theorem dX10_grab_28 : decode cX10_grab 28 = .ok (.aload_n 0, 1) := by decide +kernel
theorem dX10_grab_29 : decode cX10_grab 29 = .ok (.getfield 37, 3) := by decide +kernel
theorem dX10_grab_32 : decode cX10_grab 32 = .ok (.getfield 150, 3) := by decide +kernel
theorem dX10_grab_35 : decode cX10_grab 35 = .ok (.invokevirtual 163, 3) := by decide +kernel
theorem dX10_grab_38 : decode cX10_grab 38 = .ok (.aload_n 0, 1) := by decide +kernel
theorem dX10_grab_39 : decode cX10_grab 39 = .ok (.getfield 37, 3) := by decide +kernel
theorem dX10_grab_42 : decode cX10_grab 42 = .ok (.getfield 150, 3) := by decide +kernel
theorem dX10_grab_45 : decode cX10_grab 45 = .ok (.iconst 5, 1) := by decide +kernel
theorem dX10_grab_46 : decode cX10_grab 46 = .ok (.iload_n 1, 1) := by decide +kernel
theorem dX10_grab_47 : decode cX10_grab 47 = .ok (.iadd, 1) := by decide +kernel
theorem dX10_grab_48 : decode cX10_grab 48 = .ok (.iconst 0, 1) := by decide +kernel
theorem dX10_grab_49 : decode cX10_grab 49 = .ok (.iastore, 1) := by decide +kernel
theorem dX10_grab_50 : decode cX10_grab 50 = .ok (.aload_n 0, 1) := by decide +kernel
theorem dX10_grab_51 : decode cX10_grab 51 = .ok (.getfield 37, 3) := by decide +kernel
theorem dX10_grab_54 : decode cX10_grab 54 = .ok (.invokevirtual 192, 3) := by decide +kernel
theorem dX10_grab_57 : decode cX10_grab 57 = .ok (.invokestatic 180, 3) := by decide +kernel
theorem dX10_grab_60 : decode cX10_grab 60 = .ok (.ireturn, 1) := by decide +kernel
theorem wd_960 : (Cond.code ⟨"WebCourt", "grab", "(I)I"⟩ prog_1_method_15_code (2 : Nat) (Option.some FieldType.int)) ∈ gtb := gtb_c4 131 (by decide +kernel) rfl
set_option maxHeartbeats 4000000 in
set_option maxRecDepth 100000 in
theorem T_X10_grab (l : Launch) (D : va_G) (cy : Nat → ClassId) (a : Nat → Nat) (u : St) (hI_3_12 : fI u 3 12 = 0) (hR_0 : fR u 0 = a 3) (x1 : Int32)  : Mi l D cy (cW cy a) yX10_grab (.code yX10_grab cX10_grab 2 (some .int)) (rmo 1 21) [.ref (a 0), .int x1] u (fun (r : Int32) (u' : St) => r = (-1) ∧ u' = u) := by
  refine Mi.of (own := RX10) rfl (by decide) (Nat.le_of_ble_eq_true rfl) ?_
  intro p e s m below meth c A Q ls C hret hO hl
  obtain ⟨hx, hb, hml, hown, ht, hK, hA⟩ := id C
  have hl : lv_has ls 2 [(0, .ref (a 0)), (1, .int x1)] := hl
  refine lv_aload_n hx hb dX10_grab_0 rfl (lv_at hl 0 rfl) ?_
  refine gf_RX10_37 (v := .ref (a 28)) C hO 0 cW_0 rfl dX10_grab_1 ?_
  refine lv_iload_n hx hb dX10_grab_4 rfl (lv_at hl 1 rfl) ?_
  refine cVi (w := cW cy a) (As := [.int x1]) (rest := []) C hO (T_X2_hasCase l D cy a _ (by exact hI_3_12) (by exact hR_0) (x1)) (cwV 1 ht (gV wd_841 wd_842 wd_843 wd_115 wd_844) rfl rfl rfl hd_yX2_hasCase ⟨Nat.le_of_ble_eq_true rfl, Nat.le_of_ble_eq_true rfl⟩) 28 rfl cW_28 rfl rfl hl.1 (Nat.le_of_ble_eq_true rfl) dX10_grab_5 rfl ⟨Nat.zero_le _, Nat.zero_le _⟩ (fun r1 u2 H locs hp3 hO => ?_)
  obtain ⟨hr1, hu2⟩ := hp3
  subst hr1
  rw [hu2] at hO
  refine bt_eq (tgt := 22) (X := 0) hx hb dX10_grab_8 (by decide) rfl (by omega) ?_
  refine lv_iconst (v := (-1)) hx hb dX10_grab_22 (by decide) ?_
  refine hret _ _ _ _ _ _ dX10_grab_23 rfl ?_ hO
  exact ⟨rfl, rfl⟩
theorem dX10_spin_0 : decode cX10_spin 0 = .ok (.iload_n 1, 1) := by decide +kernel
theorem dX10_spin_1 : decode cX10_spin 1 = .ok (.ifCond .lt 17, 3) := by decide +kernel
theorem dX10_spin_4 : decode cX10_spin 4 = .ok (.iload_n 1, 1) := by decide +kernel
theorem dX10_spin_5 : decode cX10_spin 5 = .ok (.aload_n 0, 1) := by decide +kernel
theorem dX10_spin_6 : decode cX10_spin 6 = .ok (.getfield 37, 3) := by decide +kernel
theorem dX10_spin_9 : decode cX10_spin 9 = .ok (.getfield 101, 3) := by decide +kernel
theorem dX10_spin_12 : decode cX10_spin 12 = .ok (.getfield 196, 3) := by decide +kernel
theorem dX10_spin_15 : decode cX10_spin 15 = .ok (.if_icmp .lt 5, 3) := by decide +kernel
theorem dX10_spin_18 : decode cX10_spin 18 = .ok (.iconst (-1), 1) := by decide +kernel
theorem dX10_spin_19 : decode cX10_spin 19 = .ok (.ireturn, 1) := by decide +kernel
theorem dX10_spin_20 : decode cX10_spin 20 = .ok (.aload_n 0, 1) := by decide +kernel
theorem dX10_spin_21 : decode cX10_spin 21 = .ok (.getfield 44, 3) := by decide +kernel
theorem dX10_spin_24 : decode cX10_spin 24 = .ok (.aload_n 0, 1) := by decide +kernel
theorem dX10_spin_25 : decode cX10_spin 25 = .ok (.getfield 37, 3) := by decide +kernel
theorem dX10_spin_28 : decode cX10_spin 28 = .ok (.getfield 150, 3) := by decide +kernel
theorem dX10_spin_31 : decode cX10_spin 31 = .ok (.invokevirtual 163, 3) := by decide +kernel
theorem dX10_spin_34 : decode cX10_spin 34 = .ok (.aload_n 0, 1) := by decide +kernel
theorem dX10_spin_35 : decode cX10_spin 35 = .ok (.getfield 37, 3) := by decide +kernel
theorem dX10_spin_38 : decode cX10_spin 38 = .ok (.getfield 150, 3) := by decide +kernel
theorem dX10_spin_41 : decode cX10_spin 41 = .ok (.iconst 4, 1) := by decide +kernel
theorem dX10_spin_42 : decode cX10_spin 42 = .ok (.dup2, 1) := by decide +kernel
theorem dX10_spin_43 : decode cX10_spin 43 = .ok (.iaload, 1) := by decide +kernel
theorem dX10_spin_44 : decode cX10_spin 44 = .ok (.iconst 1, 1) := by decide +kernel
theorem dX10_spin_45 : decode cX10_spin 45 = .ok (.iload_n 1, 1) := by decide +kernel
theorem dX10_spin_46 : decode cX10_spin 46 = .ok (.ishl, 1) := by decide +kernel
theorem dX10_spin_47 : decode cX10_spin 47 = .ok (.ixor, 1) := by decide +kernel
theorem dX10_spin_48 : decode cX10_spin 48 = .ok (.iastore, 1) := by decide +kernel
theorem dX10_spin_49 : decode cX10_spin 49 = .ok (.aload_n 0, 1) := by decide +kernel
theorem dX10_spin_50 : decode cX10_spin 50 = .ok (.getfield 37, 3) := by decide +kernel
theorem dX10_spin_53 : decode cX10_spin 53 = .ok (.getfield 150, 3) := by decide +kernel
theorem dX10_spin_56 : decode cX10_spin 56 = .ok (.iconst 4, 1) := by decide +kernel
theorem dX10_spin_57 : decode cX10_spin 57 = .ok (.iaload, 1) := by decide +kernel
theorem dX10_spin_58 : decode cX10_spin 58 = .ok (.iload_n 1, 1) := by decide +kernel
theorem dX10_spin_59 : decode cX10_spin 59 = .ok (.ishr, 1) := by decide +kernel
theorem dX10_spin_60 : decode cX10_spin 60 = .ok (.iconst 1, 1) := by decide +kernel
theorem dX10_spin_61 : decode cX10_spin 61 = .ok (.iand, 1) := by decide +kernel
theorem dX10_spin_62 : decode cX10_spin 62 = .ok (.ireturn, 1) := by decide +kernel
theorem wd_966 : (Cond.code ⟨"WebCourt", "spin", "(I)I"⟩ prog_1_method_16_code (2 : Nat) (Option.some FieldType.int)) ∈ gtb := gtb_c4 137 (by decide +kernel) rfl
theorem wd_361 : (Cond.fieldLink "WebCourt" (101 : Nat) "WebCourt$Court" "web" "LWebCourt$Web;") ∈ gtb := gtb_c2 12 (by decide +kernel) rfl
theorem gf_RX10_101 {p : Program} {l : Launch} {e : Env} {R : Room} {s : State} {m : MethodId} {args : Array Value} {below : List Frame} {meth : Method} {c : Code} {H : Heap} {locs : List Loc} {cells slots : Nat} {Q : State → Prop} {cc : ByteArray} {pc nL : Nat} {ls : Array Slot} {rest : List Value} {D : va_G} {cy : Nat → ClassId} {A : Nat → Prop} {ws : va_W} {b : Nat} {fs : List Value} {v : Value} (C : Cx p s m args c cc nL RX10 D cy A) (hO : Wo D A ws s.heap H locs) (q0 : Nat) (he : ws[q0]? = some (b, .inr (2, fs))) (hv : fs[1]? = some v) (hdg : decode cc pc = .ok (.getfield 101, 3)) (kk : W p l e R s m args below meth c H locs cells slots Q (F0 m (pc + 3) ls (v :: rest))) : W p l e R s m args below meth c H locs cells slots Q (F0 m pc ls (.ref b :: rest)) := gF (k := 1) C hO q0 he rfl inFX2 (by decide) wd_361 rfl hv hdg kk
theorem wd_260 : (Cond.fieldLink "WebCourt" (196 : Nat) "WebCourt$Web" "lines" "I") ∈ gtb := gtb_c1 151 (by decide +kernel) rfl
theorem gf_RX10_196 {p : Program} {l : Launch} {e : Env} {R : Room} {s : State} {m : MethodId} {args : Array Value} {below : List Frame} {meth : Method} {c : Code} {H : Heap} {locs : List Loc} {cells slots : Nat} {Q : State → Prop} {cc : ByteArray} {pc nL : Nat} {ls : Array Slot} {rest : List Value} {D : va_G} {cy : Nat → ClassId} {A : Nat → Prop} {ws : va_W} {b : Nat} {fs : List Value} {v : Value} (C : Cx p s m args c cc nL RX10 D cy A) (hO : Wo D A ws s.heap H locs) (q0 : Nat) (he : ws[q0]? = some (b, .inr (9, fs))) (hv : fs[10]? = some v) (hdg : decode cc pc = .ok (.getfield 196, 3)) (kk : W p l e R s m args below meth c H locs cells slots Q (F0 m (pc + 3) ls (v :: rest))) : W p l e R s m args below meth c H locs cells slots Q (F0 m pc ls (.ref b :: rest)) := gF (k := 10) C hO q0 he rfl inFX9 (by decide) wd_260 rfl hv hdg kk
set_option maxHeartbeats 4000000 in
set_option maxRecDepth 100000 in
theorem T_X10_spin (l : Launch) (D : va_G) (cy : Nat → ClassId) (a : Nat → Nat) (u : St) (hI_3_10 : fI u 3 10 = 0) (hR_0 : fR u 0 = a 3) (x1 : Int32)  : Mi l D cy (cW cy a) yX10_spin (.code yX10_spin cX10_spin 2 (some .int)) (rmo 0 0) [.ref (a 0), .int x1] u (fun (r : Int32) (u' : St) => r = (-1) ∧ u' = u) := by
  refine Mi.of (own := RX10) rfl (by decide) (Nat.le_of_ble_eq_true rfl) ?_
  intro p e s m below meth c A Q ls C hret hO hl
  obtain ⟨hx, hb, hml, hown, ht, hK, hA⟩ := id C
  have hl : lv_has ls 2 [(0, .ref (a 0)), (1, .int x1)] := hl
  refine lv_iload_n hx hb dX10_spin_0 rfl (lv_at hl 1 rfl) ?_
  refine bs_lt (tgt := 18) (X := (x1).toInt) hx hb dX10_spin_1 (by decide) rfl (fun c1 => ?_) (fun c1 => ?_)
  · refine lv_iconst (v := (-1)) hx hb dX10_spin_18 (by decide) ?_
    refine hret _ _ _ _ _ _ dX10_spin_19 rfl ?_ hO
    exact ⟨rfl, rfl⟩
  · refine lv_iload_n hx hb dX10_spin_4 rfl (lv_at hl 1 rfl) ?_
    refine lv_aload_n hx hb dX10_spin_5 rfl (lv_at hl 0 rfl) ?_
    refine gf_RX10_37 (v := .ref (a 28)) C hO 0 cW_0 rfl dX10_spin_6 ?_
    refine gf_RX10_101 (v := .ref (a 3)) C hO 28 cW_28 (congrArg (fun z : Nat => some (Value.ref z)) hR_0) dX10_spin_9 ?_
    refine gf_RX10_196 (v := .int 0) C hO 3 cW_3 (congrArg (fun z : Int32 => some (Value.int z)) hI_3_10) dX10_spin_12 ?_
    refine cn_lt (X := (x1).toInt) (Y := 0) hx hb dX10_spin_15 rfl rfl (by omega) ?_ (tgt := 20) (by decide)
    refine lv_iconst (v := (-1)) hx hb dX10_spin_18 (by decide) ?_
    refine hret _ _ _ _ _ _ dX10_spin_19 rfl ?_ hO
    exact ⟨rfl, rfl⟩
theorem dX10_plead_0 : decode cX10_plead 0 = .ok (.aload_n 0, 1) := by decide +kernel
theorem dX10_plead_1 : decode cX10_plead 1 = .ok (.getfield 37, 3) := by decide +kernel
theorem dX10_plead_4 : decode cX10_plead 4 = .ok (.iload_n 1, 1) := by decide +kernel
theorem dX10_plead_5 : decode cX10_plead 5 = .ok (.invokevirtual 144, 3) := by decide +kernel
theorem dX10_plead_8 : decode cX10_plead 8 = .ok (.ifCond .eq 45, 3) := by decide +kernel
theorem dX10_plead_11 : decode cX10_plead 11 = .ok (.aload_n 0, 1) := by decide +kernel
theorem dX10_plead_12 : decode cX10_plead 12 = .ok (.getfield 37, 3) := by decide +kernel
theorem dX10_plead_15 : decode cX10_plead 15 = .ok (.iload_n 2, 1) := by decide +kernel
theorem dX10_plead_16 : decode cX10_plead 16 = .ok (.invokevirtual 138, 3) := by decide +kernel
theorem dX10_plead_19 : decode cX10_plead 19 = .ok (.ifCond .eq 34, 3) := by decide +kernel
theorem dX10_plead_22 : decode cX10_plead 22 = .ok (.aload_n 0, 1) := by decide +kernel
theorem dX10_plead_23 : decode cX10_plead 23 = .ok (.getfield 37, 3) := by decide +kernel
theorem dX10_plead_26 : decode cX10_plead 26 = .ok (.iload_n 1, 1) := by decide +kernel
theorem dX10_plead_27 : decode cX10_plead 27 = .ok (.iload_n 2, 1) := by decide +kernel
theorem dX10_plead_28 : decode cX10_plead 28 = .ok (.invokevirtual 176, 3) := by decide +kernel
theorem dX10_plead_31 : decode cX10_plead 31 = .ok (.ifCond .ne 22, 3) := by decide +kernel
theorem dX10_plead_34 : decode cX10_plead 34 = .ok (.aload_n 0, 1) := by decide +kernel
theorem dX10_plead_35 : decode cX10_plead 35 = .ok (.getfield 37, 3) := by decide +kernel
theorem dX10_plead_38 : decode cX10_plead 38 = .ok (.getfield 150, 3) := by decide +kernel
theorem dX10_plead_41 : decode cX10_plead 41 = .ok (.bipush 11, 2) := by decide +kernel
theorem dX10_plead_43 : decode cX10_plead 43 = .ok (.iload_n 1, 1) := by decide +kernel
theorem dX10_plead_44 : decode cX10_plead 44 = .ok (.iadd, 1) := by decide +kernel
theorem dX10_plead_45 : decode cX10_plead 45 = .ok (.iaload, 1) := by decide +kernel
theorem dX10_plead_46 : decode cX10_plead 46 = .ok (.invokestatic 180, 3) := by decide +kernel
theorem dX10_plead_49 : decode cX10_plead 49 = .ok (.iconst 4, 1) := by decide +kernel
theorem dX10_plead_50 : decode cX10_plead 50 = .ok (.if_icmp .lt 6, 3) := by decide +kernel
theorem dX10_plead_53 : decode cX10_plead 53 = .ok (.ldc 159, 2) := by decide +kernel
theorem dX10_plead_55 : decode cX10_plead 55 = .ok (.ireturn, 1) := by decide +kernel
theorem dX10_plead_56 : decode cX10_plead 56 = .ok (.aload_n 0, 1) := by decide +kernel
theorem dX10_plead_57 : decode cX10_plead 57 = .ok (.iload_n 1, 1) := by decide +kernel
theorem dX10_plead_58 : decode cX10_plead 58 = .ok (.iload_n 2, 1) := by decide +kernel
theorem dX10_plead_59 : decode cX10_plead 59 = .ok (.invokevirtual 185, 3) := by decide +kernel
theorem dX10_plead_62 : decode cX10_plead 62 = .ok (.ireturn, 1) := by decide +kernel
theorem wd_943 : (Cond.code ⟨"WebCourt", "plead", "(II)I"⟩ prog_1_method_12_code (3 : Nat) (Option.some FieldType.int)) ∈ gtb := gtb_c4 114 (by decide +kernel) rfl
set_option maxHeartbeats 4000000 in
set_option maxRecDepth 100000 in
theorem T_X10_plead (l : Launch) (D : va_G) (cy : Nat → ClassId) (a : Nat → Nat) (u : St) (hI_3_12 : fI u 3 12 = 0) (hR_0 : fR u 0 = a 3) (x1 : Int32) (x2 : Int32)  : Mi l D cy (cW cy a) yX10_plead (.code yX10_plead cX10_plead 3 (some .int)) (rmo 1 21) [.ref (a 0), .int x1, .int x2] u (fun (r : Int32) (u' : St) => r = (-1000000000) ∧ u' = u) := by
  refine Mi.of (own := RX10) rfl (by decide) (Nat.le_of_ble_eq_true rfl) ?_
  intro p e s m below meth c A Q ls C hret hO hl
  obtain ⟨hx, hb, hml, hown, ht, hK, hA⟩ := id C
  have hl : lv_has ls 3 [(0, .ref (a 0)), (1, .int x1), (2, .int x2)] := hl
  refine lv_aload_n hx hb dX10_plead_0 rfl (lv_at hl 0 rfl) ?_
  refine gf_RX10_37 (v := .ref (a 28)) C hO 0 cW_0 rfl dX10_plead_1 ?_
  refine lv_iload_n hx hb dX10_plead_4 rfl (lv_at hl 1 rfl) ?_
  refine cVi (w := cW cy a) (As := [.int x1]) (rest := []) C hO (T_X2_hasCase l D cy a _ (by exact hI_3_12) (by exact hR_0) (x1)) (cwV 1 ht (gV wd_841 wd_842 wd_843 wd_115 wd_844) rfl rfl rfl hd_yX2_hasCase ⟨Nat.le_of_ble_eq_true rfl, Nat.le_of_ble_eq_true rfl⟩) 28 rfl cW_28 rfl rfl hl.1 (Nat.le_of_ble_eq_true rfl) dX10_plead_5 rfl ⟨Nat.zero_le _, Nat.zero_le _⟩ (fun r1 u2 H locs hp3 hO => ?_)
  obtain ⟨hr1, hu2⟩ := hp3
  subst hr1
  rw [hu2] at hO
  refine bt_eq (tgt := 53) (X := 0) hx hb dX10_plead_8 (by decide) rfl (by omega) ?_
  refine lv_ldc (v := (-1000000000)) hx hb hown (ht _ wd_895) dX10_plead_53 ?_
  refine hret _ _ _ _ _ _ dX10_plead_55 rfl ?_ hO
  exact ⟨rfl, rfl⟩
theorem dX10_drop_0 : decode cX10_drop 0 = .ok (.aload_n 0, 1) := by decide +kernel
theorem dX10_drop_1 : decode cX10_drop 1 = .ok (.getfield 37, 3) := by decide +kernel
theorem dX10_drop_4 : decode cX10_drop 4 = .ok (.iload_n 1, 1) := by decide +kernel
theorem dX10_drop_5 : decode cX10_drop 5 = .ok (.invokevirtual 144, 3) := by decide +kernel
theorem dX10_drop_8 : decode cX10_drop 8 = .ok (.ifCond .eq 45, 3) := by decide +kernel
theorem dX10_drop_11 : decode cX10_drop 11 = .ok (.aload_n 0, 1) := by decide +kernel
theorem dX10_drop_12 : decode cX10_drop 12 = .ok (.getfield 37, 3) := by decide +kernel
theorem dX10_drop_15 : decode cX10_drop 15 = .ok (.iload_n 2, 1) := by decide +kernel
theorem dX10_drop_16 : decode cX10_drop 16 = .ok (.invokevirtual 138, 3) := by decide +kernel
theorem dX10_drop_19 : decode cX10_drop 19 = .ok (.ifCond .eq 34, 3) := by decide +kernel
theorem dX10_drop_22 : decode cX10_drop 22 = .ok (.aload_n 0, 1) := by decide +kernel
theorem dX10_drop_23 : decode cX10_drop 23 = .ok (.getfield 37, 3) := by decide +kernel
theorem dX10_drop_26 : decode cX10_drop 26 = .ok (.iload_n 1, 1) := by decide +kernel
theorem dX10_drop_27 : decode cX10_drop 27 = .ok (.iload_n 2, 1) := by decide +kernel
theorem dX10_drop_28 : decode cX10_drop 28 = .ok (.invokevirtual 176, 3) := by decide +kernel
theorem dX10_drop_31 : decode cX10_drop 31 = .ok (.ifCond .eq 22, 3) := by decide +kernel
theorem dX10_drop_34 : decode cX10_drop 34 = .ok (.aload_n 0, 1) := by decide +kernel
theorem dX10_drop_35 : decode cX10_drop 35 = .ok (.getfield 37, 3) := by decide +kernel
theorem dX10_drop_38 : decode cX10_drop 38 = .ok (.getfield 150, 3) := by decide +kernel
theorem dX10_drop_41 : decode cX10_drop 41 = .ok (.bipush 11, 2) := by decide +kernel
theorem dX10_drop_43 : decode cX10_drop 43 = .ok (.iload_n 1, 1) := by decide +kernel
theorem dX10_drop_44 : decode cX10_drop 44 = .ok (.iadd, 1) := by decide +kernel
theorem dX10_drop_45 : decode cX10_drop 45 = .ok (.iaload, 1) := by decide +kernel
theorem dX10_drop_46 : decode cX10_drop 46 = .ok (.invokestatic 180, 3) := by decide +kernel
theorem dX10_drop_49 : decode cX10_drop 49 = .ok (.iconst 1, 1) := by decide +kernel
theorem dX10_drop_50 : decode cX10_drop 50 = .ok (.if_icmp .gt 6, 3) := by decide +kernel
theorem dX10_drop_53 : decode cX10_drop 53 = .ok (.ldc 159, 2) := by decide +kernel
theorem dX10_drop_55 : decode cX10_drop 55 = .ok (.ireturn, 1) := by decide +kernel
theorem dX10_drop_56 : decode cX10_drop 56 = .ok (.aload_n 0, 1) := by decide +kernel
theorem dX10_drop_57 : decode cX10_drop 57 = .ok (.iload_n 1, 1) := by decide +kernel
theorem dX10_drop_58 : decode cX10_drop 58 = .ok (.iload_n 2, 1) := by decide +kernel
theorem dX10_drop_59 : decode cX10_drop 59 = .ok (.invokevirtual 185, 3) := by decide +kernel
theorem dX10_drop_62 : decode cX10_drop 62 = .ok (.ireturn, 1) := by decide +kernel
theorem wd_956 : (Cond.code ⟨"WebCourt", "drop", "(II)I"⟩ prog_1_method_13_code (3 : Nat) (Option.some FieldType.int)) ∈ gtb := gtb_c4 127 (by decide +kernel) rfl
set_option maxHeartbeats 4000000 in
set_option maxRecDepth 100000 in
theorem T_X10_drop (l : Launch) (D : va_G) (cy : Nat → ClassId) (a : Nat → Nat) (u : St) (hI_3_12 : fI u 3 12 = 0) (hR_0 : fR u 0 = a 3) (x1 : Int32) (x2 : Int32)  : Mi l D cy (cW cy a) yX10_drop (.code yX10_drop cX10_drop 3 (some .int)) (rmo 1 21) [.ref (a 0), .int x1, .int x2] u (fun (r : Int32) (u' : St) => r = (-1000000000) ∧ u' = u) := by
  refine Mi.of (own := RX10) rfl (by decide) (Nat.le_of_ble_eq_true rfl) ?_
  intro p e s m below meth c A Q ls C hret hO hl
  obtain ⟨hx, hb, hml, hown, ht, hK, hA⟩ := id C
  have hl : lv_has ls 3 [(0, .ref (a 0)), (1, .int x1), (2, .int x2)] := hl
  refine lv_aload_n hx hb dX10_drop_0 rfl (lv_at hl 0 rfl) ?_
  refine gf_RX10_37 (v := .ref (a 28)) C hO 0 cW_0 rfl dX10_drop_1 ?_
  refine lv_iload_n hx hb dX10_drop_4 rfl (lv_at hl 1 rfl) ?_
  refine cVi (w := cW cy a) (As := [.int x1]) (rest := []) C hO (T_X2_hasCase l D cy a _ (by exact hI_3_12) (by exact hR_0) (x1)) (cwV 1 ht (gV wd_841 wd_842 wd_843 wd_115 wd_844) rfl rfl rfl hd_yX2_hasCase ⟨Nat.le_of_ble_eq_true rfl, Nat.le_of_ble_eq_true rfl⟩) 28 rfl cW_28 rfl rfl hl.1 (Nat.le_of_ble_eq_true rfl) dX10_drop_5 rfl ⟨Nat.zero_le _, Nat.zero_le _⟩ (fun r1 u2 H locs hp3 hO => ?_)
  obtain ⟨hr1, hu2⟩ := hp3
  subst hr1
  rw [hu2] at hO
  refine bt_eq (tgt := 53) (X := 0) hx hb dX10_drop_8 (by decide) rfl (by omega) ?_
  refine lv_ldc (v := (-1000000000)) hx hb hown (ht _ wd_895) dX10_drop_53 ?_
  refine hret _ _ _ _ _ _ dX10_drop_55 rfl ?_ hO
  exact ⟨rfl, rfl⟩
end
section
theorem dX0_takeBack_0 : decode cX0_takeBack 0 = .ok (.aload_n 0, 1) := by decide +kernel
theorem dX0_takeBack_1 : decode cX0_takeBack 1 = .ok (.getfield 16, 3) := by decide +kernel
theorem dX0_takeBack_4 : decode cX0_takeBack 4 = .ok (.ifCond .ne 5, 3) := by decide +kernel
theorem dX0_takeBack_7 : decode cX0_takeBack 7 = .ok (.iconst 0, 1) := by decide +kernel
theorem dX0_takeBack_8 : decode cX0_takeBack 8 = .ok (.ireturn, 1) := by decide +kernel
theorem dX0_takeBack_9 : decode cX0_takeBack 9 = .ok (.aload_n 1, 1) := by decide +kernel
theorem dX0_takeBack_10 : decode cX0_takeBack 10 = .ok (.aload_n 0, 1) := by decide +kernel
theorem dX0_takeBack_11 : decode cX0_takeBack 11 = .ok (.getfield 13, 3) := by decide +kernel
theorem dX0_takeBack_14 : decode cX0_takeBack 14 = .ok (.aload_n 0, 1) := by decide +kernel
theorem dX0_takeBack_15 : decode cX0_takeBack 15 = .ok (.getfield 23, 3) := by decide +kernel
theorem dX0_takeBack_18 : decode cX0_takeBack 18 = .ok (.aload_n 0, 1) := by decide +kernel
theorem dX0_takeBack_19 : decode cX0_takeBack 19 = .ok (.getfield 16, 3) := by decide +kernel
theorem dX0_takeBack_22 : decode cX0_takeBack 22 = .ok (.iadd, 1) := by decide +kernel
theorem dX0_takeBack_23 : decode cX0_takeBack 23 = .ok (.bipush 41, 2) := by decide +kernel
theorem dX0_takeBack_25 : decode cX0_takeBack 25 = .ok (.irem, 1) := by decide +kernel
theorem dX0_takeBack_26 : decode cX0_takeBack 26 = .ok (.aaload, 1) := by decide +kernel
theorem dX0_takeBack_27 : decode cX0_takeBack 27 = .ok (.invokestatic 26, 3) := by decide +kernel
theorem dX0_takeBack_30 : decode cX0_takeBack 30 = .ok (.aload_n 0, 1) := by decide +kernel
theorem dX0_takeBack_31 : decode cX0_takeBack 31 = .ok (.dup, 1) := by decide +kernel
theorem dX0_takeBack_32 : decode cX0_takeBack 32 = .ok (.getfield 16, 3) := by decide +kernel
theorem dX0_takeBack_35 : decode cX0_takeBack 35 = .ok (.iconst 1, 1) := by decide +kernel
theorem dX0_takeBack_36 : decode cX0_takeBack 36 = .ok (.isub, 1) := by decide +kernel
theorem dX0_takeBack_37 : decode cX0_takeBack 37 = .ok (.putfield 16, 3) := by decide +kernel
theorem dX0_takeBack_40 : decode cX0_takeBack 40 = .ok (.aload_n 0, 1) := by decide +kernel
theorem dX0_takeBack_41 : decode cX0_takeBack 41 = .ok (.dup, 1) := by decide +kernel
theorem dX0_takeBack_42 : decode cX0_takeBack 42 = .ok (.getfield 20, 3) := by decide +kernel
theorem dX0_takeBack_45 : decode cX0_takeBack 45 = .ok (.iconst 1, 1) := by decide +kernel
theorem dX0_takeBack_46 : decode cX0_takeBack 46 = .ok (.iadd, 1) := by decide +kernel
theorem dX0_takeBack_47 : decode cX0_takeBack 47 = .ok (.putfield 20, 3) := by decide +kernel
theorem dX0_takeBack_50 : decode cX0_takeBack 50 = .ok (.aload_n 0, 1) := by decide +kernel
theorem dX0_takeBack_51 : decode cX0_takeBack 51 = .ok (.getfield 13, 3) := by decide +kernel
theorem dX0_takeBack_54 : decode cX0_takeBack 54 = .ok (.aload_n 0, 1) := by decide +kernel
theorem dX0_takeBack_55 : decode cX0_takeBack 55 = .ok (.getfield 23, 3) := by decide +kernel
theorem dX0_takeBack_58 : decode cX0_takeBack 58 = .ok (.aload_n 0, 1) := by decide +kernel
theorem dX0_takeBack_59 : decode cX0_takeBack 59 = .ok (.getfield 16, 3) := by decide +kernel
theorem dX0_takeBack_62 : decode cX0_takeBack 62 = .ok (.iadd, 1) := by decide +kernel
theorem dX0_takeBack_63 : decode cX0_takeBack 63 = .ok (.bipush 41, 2) := by decide +kernel
theorem dX0_takeBack_65 : decode cX0_takeBack 65 = .ok (.irem, 1) := by decide +kernel
theorem dX0_takeBack_66 : decode cX0_takeBack 66 = .ok (.aaload, 1) := by decide +kernel
theorem dX0_takeBack_67 : decode cX0_takeBack 67 = .ok (.aload_n 1, 1) := by decide +kernel
theorem dX0_takeBack_68 : decode cX0_takeBack 68 = .ok (.invokestatic 26, 3) := by decide +kernel
theorem dX0_takeBack_71 : decode cX0_takeBack 71 = .ok (.iconst 1, 1) := by decide +kernel
theorem dX0_takeBack_72 : decode cX0_takeBack 72 = .ok (.ireturn, 1) := by decide +kernel
theorem wd_974 : (Cond.code ⟨"WebCourt$Acts", "takeBack", "([I)Z"⟩ prog_2_method_4_code (2 : Nat) (Option.some FieldType.boolean)) ∈ gtb := gtb_c4 145 (by decide +kernel) rfl
theorem wd_378 : (Cond.fieldLink "WebCourt$Acts" (16 : Nat) "WebCourt$Acts" "done" "I") ∈ gtb := gtb_c2 29 (by decide +kernel) rfl
theorem wd_382 : (Cond.laysFinal "WebCourt$Acts" "WebCourt$Acts" "rows" "[[I") ∈ gtb := gtb_c2 33 (by decide +kernel) rfl
theorem wd_384 : (Cond.lays "WebCourt$Acts" "WebCourt$Acts" "first" "I") ∈ gtb := gtb_c2 35 (by decide +kernel) rfl
theorem wd_386 : (Cond.lays "WebCourt$Acts" "WebCourt$Acts" "done" "I") ∈ gtb := gtb_c2 37 (by decide +kernel) rfl
theorem wd_388 : (Cond.lays "WebCourt$Acts" "WebCourt$Acts" "undone" "I") ∈ gtb := gtb_c2 39 (by decide +kernel) rfl
theorem inFX0 : ∀ w ∈ u_ws RX0 TX0 4, w ∈ gtb := by
  show ∀ w ∈ [u_lay RX0 TX0 0, u_lay RX0 TX0 1, u_lay RX0 TX0 2, u_lay RX0 TX0 3], w ∈ gtb
  exact List.forall_mem_cons.mpr ⟨wd_382, List.forall_mem_cons.mpr ⟨wd_384, List.forall_mem_cons.mpr ⟨wd_386, List.forall_mem_cons.mpr ⟨wd_388, fun _ h => absurd h List.not_mem_nil⟩⟩⟩⟩
theorem gf_RX0_16 {p : Program} {l : Launch} {e : Env} {R : Room} {s : State} {m : MethodId} {args : Array Value} {below : List Frame} {meth : Method} {c : Code} {H : Heap} {locs : List Loc} {cells slots : Nat} {Q : State → Prop} {cc : ByteArray} {pc nL : Nat} {ls : Array Slot} {rest : List Value} {D : va_G} {cy : Nat → ClassId} {A : Nat → Prop} {ws : va_W} {b : Nat} {fs : List Value} {v : Value} (C : Cx p s m args c cc nL RX0 D cy A) (hO : Wo D A ws s.heap H locs) (q0 : Nat) (he : ws[q0]? = some (b, .inr (0, fs))) (hv : fs[2]? = some v) (hdg : decode cc pc = .ok (.getfield 16, 3)) (kk : W p l e R s m args below meth c H locs cells slots Q (F0 m (pc + 3) ls (v :: rest))) : W p l e R s m args below meth c H locs cells slots Q (F0 m pc ls (.ref b :: rest)) := gF (k := 2) C hO q0 he rfl inFX0 (by decide) wd_378 rfl hv hdg kk
set_option maxHeartbeats 4000000 in
set_option maxRecDepth 100000 in
theorem T_X0_takeBack (l : Launch) (D : va_G) (cy : Nat → ClassId) (a : Nat → Nat) (u : St) (hI_30_2 : fI u 30 2 = 0)   : Mi l D cy (cW cy a) yX0_takeBack (.code yX0_takeBack cX0_takeBack 2 (some .boolean)) (rmo 0 0) [.ref (a 30), .ref (a 29)] u (fun (r : Int32) (u' : St) => r = 0 ∧ u' = u) := by
  refine Mi.of (own := RX0) rfl (by decide) (Nat.le_of_ble_eq_true rfl) ?_
  intro p e s m below meth c A Q ls C hret hO hl
  obtain ⟨hx, hb, hml, hown, ht, hK, hA⟩ := id C
  have hl : lv_has ls 2 [(0, .ref (a 30)), (1, .ref (a 29))] := hl
  refine lv_aload_n hx hb dX0_takeBack_0 rfl (lv_at hl 0 rfl) ?_
  refine gf_RX0_16 (v := .int 0) C hO 30 cW_30 (congrArg (fun z : Int32 => some (Value.int z)) hI_30_2) dX0_takeBack_1 ?_
  refine bn_ne (X := 0) hx hb dX0_takeBack_4 rfl (by omega) ?_ (tgt := 9) (by decide)
  refine lv_iconst (v := 0) hx hb dX0_takeBack_7 (by decide) ?_
  refine hret _ _ _ _ _ _ dX0_takeBack_8 rfl ?_ hO
  exact ⟨rfl, rfl⟩
theorem dX0_doAgain_0 : decode cX0_doAgain 0 = .ok (.aload_n 0, 1) := by decide +kernel
theorem dX0_doAgain_1 : decode cX0_doAgain 1 = .ok (.getfield 20, 3) := by decide +kernel
theorem dX0_doAgain_4 : decode cX0_doAgain 4 = .ok (.ifCond .ne 5, 3) := by decide +kernel
theorem dX0_doAgain_7 : decode cX0_doAgain 7 = .ok (.iconst 0, 1) := by decide +kernel
theorem dX0_doAgain_8 : decode cX0_doAgain 8 = .ok (.ireturn, 1) := by decide +kernel
theorem dX0_doAgain_9 : decode cX0_doAgain 9 = .ok (.aload_n 0, 1) := by decide +kernel
theorem dX0_doAgain_10 : decode cX0_doAgain 10 = .ok (.dup, 1) := by decide +kernel
theorem dX0_doAgain_11 : decode cX0_doAgain 11 = .ok (.getfield 16, 3) := by decide +kernel
theorem dX0_doAgain_14 : decode cX0_doAgain 14 = .ok (.iconst 1, 1) := by decide +kernel
theorem dX0_doAgain_15 : decode cX0_doAgain 15 = .ok (.iadd, 1) := by decide +kernel
theorem dX0_doAgain_16 : decode cX0_doAgain 16 = .ok (.putfield 16, 3) := by decide +kernel
theorem dX0_doAgain_19 : decode cX0_doAgain 19 = .ok (.aload_n 0, 1) := by decide +kernel
theorem dX0_doAgain_20 : decode cX0_doAgain 20 = .ok (.dup, 1) := by decide +kernel
theorem dX0_doAgain_21 : decode cX0_doAgain 21 = .ok (.getfield 20, 3) := by decide +kernel
theorem dX0_doAgain_24 : decode cX0_doAgain 24 = .ok (.iconst 1, 1) := by decide +kernel
theorem dX0_doAgain_25 : decode cX0_doAgain 25 = .ok (.isub, 1) := by decide +kernel
theorem dX0_doAgain_26 : decode cX0_doAgain 26 = .ok (.putfield 20, 3) := by decide +kernel
theorem dX0_doAgain_29 : decode cX0_doAgain 29 = .ok (.aload_n 0, 1) := by decide +kernel
theorem dX0_doAgain_30 : decode cX0_doAgain 30 = .ok (.getfield 13, 3) := by decide +kernel
theorem dX0_doAgain_33 : decode cX0_doAgain 33 = .ok (.aload_n 0, 1) := by decide +kernel
theorem dX0_doAgain_34 : decode cX0_doAgain 34 = .ok (.getfield 23, 3) := by decide +kernel
theorem dX0_doAgain_37 : decode cX0_doAgain 37 = .ok (.aload_n 0, 1) := by decide +kernel
theorem dX0_doAgain_38 : decode cX0_doAgain 38 = .ok (.getfield 16, 3) := by decide +kernel
theorem dX0_doAgain_41 : decode cX0_doAgain 41 = .ok (.iadd, 1) := by decide +kernel
theorem dX0_doAgain_42 : decode cX0_doAgain 42 = .ok (.bipush 41, 2) := by decide +kernel
theorem dX0_doAgain_44 : decode cX0_doAgain 44 = .ok (.irem, 1) := by decide +kernel
theorem dX0_doAgain_45 : decode cX0_doAgain 45 = .ok (.aaload, 1) := by decide +kernel
theorem dX0_doAgain_46 : decode cX0_doAgain 46 = .ok (.aload_n 1, 1) := by decide +kernel
theorem dX0_doAgain_47 : decode cX0_doAgain 47 = .ok (.invokestatic 26, 3) := by decide +kernel
theorem dX0_doAgain_50 : decode cX0_doAgain 50 = .ok (.iconst 1, 1) := by decide +kernel
theorem dX0_doAgain_51 : decode cX0_doAgain 51 = .ok (.ireturn, 1) := by decide +kernel
theorem wd_982 : (Cond.code ⟨"WebCourt$Acts", "doAgain", "([I)Z"⟩ prog_2_method_5_code (2 : Nat) (Option.some FieldType.boolean)) ∈ gtb := gtb_c4 153 (by decide +kernel) rfl
theorem wd_380 : (Cond.fieldLink "WebCourt$Acts" (20 : Nat) "WebCourt$Acts" "undone" "I") ∈ gtb := gtb_c2 31 (by decide +kernel) rfl
theorem gf_RX0_20 {p : Program} {l : Launch} {e : Env} {R : Room} {s : State} {m : MethodId} {args : Array Value} {below : List Frame} {meth : Method} {c : Code} {H : Heap} {locs : List Loc} {cells slots : Nat} {Q : State → Prop} {cc : ByteArray} {pc nL : Nat} {ls : Array Slot} {rest : List Value} {D : va_G} {cy : Nat → ClassId} {A : Nat → Prop} {ws : va_W} {b : Nat} {fs : List Value} {v : Value} (C : Cx p s m args c cc nL RX0 D cy A) (hO : Wo D A ws s.heap H locs) (q0 : Nat) (he : ws[q0]? = some (b, .inr (0, fs))) (hv : fs[3]? = some v) (hdg : decode cc pc = .ok (.getfield 20, 3)) (kk : W p l e R s m args below meth c H locs cells slots Q (F0 m (pc + 3) ls (v :: rest))) : W p l e R s m args below meth c H locs cells slots Q (F0 m pc ls (.ref b :: rest)) := gF (k := 3) C hO q0 he rfl inFX0 (by decide) wd_380 rfl hv hdg kk
set_option maxHeartbeats 4000000 in
set_option maxRecDepth 100000 in
theorem T_X0_doAgain (l : Launch) (D : va_G) (cy : Nat → ClassId) (a : Nat → Nat) (u : St) (hI_30_3 : fI u 30 3 = 0)   : Mi l D cy (cW cy a) yX0_doAgain (.code yX0_doAgain cX0_doAgain 2 (some .boolean)) (rmo 0 0) [.ref (a 30), .ref (a 29)] u (fun (r : Int32) (u' : St) => r = 0 ∧ u' = u) := by
  refine Mi.of (own := RX0) rfl (by decide) (Nat.le_of_ble_eq_true rfl) ?_
  intro p e s m below meth c A Q ls C hret hO hl
  obtain ⟨hx, hb, hml, hown, ht, hK, hA⟩ := id C
  have hl : lv_has ls 2 [(0, .ref (a 30)), (1, .ref (a 29))] := hl
  refine lv_aload_n hx hb dX0_doAgain_0 rfl (lv_at hl 0 rfl) ?_
  refine gf_RX0_20 (v := .int 0) C hO 30 cW_30 (congrArg (fun z : Int32 => some (Value.int z)) hI_30_3) dX0_doAgain_1 ?_
  refine bn_ne (X := 0) hx hb dX0_doAgain_4 rfl (by omega) ?_ (tgt := 9) (by decide)
  refine lv_iconst (v := 0) hx hb dX0_doAgain_7 (by decide) ?_
  refine hret _ _ _ _ _ _ dX0_doAgain_8 rfl ?_ hO
  exact ⟨rfl, rfl⟩
theorem dX10_undo_0 : decode cX10_undo 0 = .ok (.aload_n 0, 1) := by decide +kernel
theorem dX10_undo_1 : decode cX10_undo 1 = .ok (.getfield 44, 3) := by decide +kernel
theorem dX10_undo_4 : decode cX10_undo 4 = .ok (.aload_n 0, 1) := by decide +kernel
theorem dX10_undo_5 : decode cX10_undo 5 = .ok (.getfield 37, 3) := by decide +kernel
theorem dX10_undo_8 : decode cX10_undo 8 = .ok (.getfield 150, 3) := by decide +kernel
theorem dX10_undo_11 : decode cX10_undo 11 = .ok (.invokevirtual 199, 3) := by decide +kernel
theorem dX10_undo_14 : decode cX10_undo 14 = .ok (.ireturn, 1) := by decide +kernel
theorem wd_970 : (Cond.code ⟨"WebCourt", "undo", "()Z"⟩ prog_1_method_17_code (1 : Nat) (Option.some FieldType.boolean)) ∈ gtb := gtb_c4 141 (by decide +kernel) rfl
theorem wd_471 : (Cond.fieldLink "WebCourt" (44 : Nat) "WebCourt" "acts" "LWebCourt$Acts;") ∈ gtb := gtb_c2 122 (by decide +kernel) rfl
theorem gf_RX10_44 {p : Program} {l : Launch} {e : Env} {R : Room} {s : State} {m : MethodId} {args : Array Value} {below : List Frame} {meth : Method} {c : Code} {H : Heap} {locs : List Loc} {cells slots : Nat} {Q : State → Prop} {cc : ByteArray} {pc nL : Nat} {ls : Array Slot} {rest : List Value} {D : va_G} {cy : Nat → ClassId} {A : Nat → Prop} {ws : va_W} {b : Nat} {fs : List Value} {v : Value} (C : Cx p s m args c cc nL RX10 D cy A) (hO : Wo D A ws s.heap H locs) (q0 : Nat) (he : ws[q0]? = some (b, .inr (10, fs))) (hv : fs[3]? = some v) (hdg : decode cc pc = .ok (.getfield 44, 3)) (kk : W p l e R s m args below meth c H locs cells slots Q (F0 m (pc + 3) ls (v :: rest))) : W p l e R s m args below meth c H locs cells slots Q (F0 m pc ls (.ref b :: rest)) := gF (k := 3) C hO q0 he rfl inFX10 (by decide) wd_471 rfl hv hdg kk
theorem wd_357 : (Cond.fieldLink "WebCourt" (150 : Nat) "WebCourt$Court" "row" "[I") ∈ gtb := gtb_c2 8 (by decide +kernel) rfl
theorem gf_RX10_150 {p : Program} {l : Launch} {e : Env} {R : Room} {s : State} {m : MethodId} {args : Array Value} {below : List Frame} {meth : Method} {c : Code} {H : Heap} {locs : List Loc} {cells slots : Nat} {Q : State → Prop} {cc : ByteArray} {pc nL : Nat} {ls : Array Slot} {rest : List Value} {D : va_G} {cy : Nat → ClassId} {A : Nat → Prop} {ws : va_W} {b : Nat} {fs : List Value} {v : Value} (C : Cx p s m args c cc nL RX10 D cy A) (hO : Wo D A ws s.heap H locs) (q0 : Nat) (he : ws[q0]? = some (b, .inr (2, fs))) (hv : fs[0]? = some v) (hdg : decode cc pc = .ok (.getfield 150, 3)) (kk : W p l e R s m args below meth c H locs cells slots Q (F0 m (pc + 3) ls (v :: rest))) : W p l e R s m args below meth c H locs cells slots Q (F0 m pc ls (.ref b :: rest)) := gF (k := 0) C hO q0 he rfl inFX2 (by decide) wd_357 rfl hv hdg kk
theorem wd_971 : (Cond.methodLink "WebCourt" (199 : Nat) ⟨"WebCourt$Acts", "takeBack", "([I)Z"⟩) ∈ gtb := gtb_c4 142 (by decide +kernel) rfl
theorem wd_972 : (Cond.instanceMethod ⟨"WebCourt$Acts", "takeBack", "([I)Z"⟩) ∈ gtb := gtb_c4 143 (by decide +kernel) rfl
theorem wd_973 : (Cond.selects "WebCourt$Acts" ⟨"WebCourt$Acts", "takeBack", "([I)Z"⟩ ⟨"WebCourt$Acts", "takeBack", "([I)Z"⟩) ∈ gtb := gtb_c4 144 (by decide +kernel) rfl
theorem wd_116 : (Cond.initialized "WebCourt$Acts") ∈ gtb := gtb_c1 7 (by decide +kernel) rfl
theorem hd_yX0_takeBack : yX0_takeBack.cls = RX0 ∧ yX0_takeBack.cls ≠ "java/lang/invoke/MethodHandle" ∧ yX0_takeBack.cls ≠ "java/lang/invoke/VarHandle" ∧ (parseMethodDescriptor yX0_takeBack.desc).map (fun d => d.parameters.length) = some 1 := by decide +kernel
set_option maxHeartbeats 4000000 in
set_option maxRecDepth 100000 in
theorem T_X10_undo (l : Launch) (D : va_G) (cy : Nat → ClassId) (a : Nat → Nat) (u : St) (hI_30_2 : fI u 30 2 = 0)   : Mi l D cy (cW cy a) yX10_undo (.code yX10_undo cX10_undo 1 (some .boolean)) (rmo 1 21) [.ref (a 0)] u (fun (r : Int32) (u' : St) => r = 0 ∧ u' = u) := by
  refine Mi.of (own := RX10) rfl (by decide) (Nat.le_of_ble_eq_true rfl) ?_
  intro p e s m below meth c A Q ls C hret hO hl
  obtain ⟨hx, hb, hml, hown, ht, hK, hA⟩ := id C
  have hl : lv_has ls 1 [(0, .ref (a 0))] := hl
  refine lv_aload_n hx hb dX10_undo_0 rfl (lv_at hl 0 rfl) ?_
  refine gf_RX10_44 (v := .ref (a 30)) C hO 0 cW_0 rfl dX10_undo_1 ?_
  refine lv_aload_n hx hb dX10_undo_4 rfl (lv_at hl 0 rfl) ?_
  refine gf_RX10_37 (v := .ref (a 28)) C hO 0 cW_0 rfl dX10_undo_5 ?_
  refine gf_RX10_150 (v := .ref (a 29)) C hO 28 cW_28 rfl dX10_undo_8 ?_
  refine cVi (w := cW cy a) (As := [.ref (a 29)]) (rest := []) C hO (T_X0_takeBack l D cy a _ (by exact hI_30_2)) (cwV 1 ht (gV wd_971 wd_972 wd_973 wd_116 wd_974) rfl rfl rfl hd_yX0_takeBack ⟨Nat.le_of_ble_eq_true rfl, Nat.le_of_ble_eq_true rfl⟩) 30 rfl cW_30 rfl rfl hl.1 (Nat.le_of_ble_eq_true rfl) dX10_undo_11 rfl ⟨Nat.zero_le _, Nat.zero_le _⟩ (fun r1 u2 H locs hp3 hO => ?_)
  obtain ⟨hr1, hu2⟩ := hp3
  subst hr1
  rw [hu2] at hO
  refine hret _ _ _ _ _ _ dX10_undo_14 rfl ?_ hO
  exact ⟨rfl, rfl⟩
theorem dX10_redo_0 : decode cX10_redo 0 = .ok (.aload_n 0, 1) := by decide +kernel
theorem dX10_redo_1 : decode cX10_redo 1 = .ok (.getfield 44, 3) := by decide +kernel
theorem dX10_redo_4 : decode cX10_redo 4 = .ok (.aload_n 0, 1) := by decide +kernel
theorem dX10_redo_5 : decode cX10_redo 5 = .ok (.getfield 37, 3) := by decide +kernel
theorem dX10_redo_8 : decode cX10_redo 8 = .ok (.getfield 150, 3) := by decide +kernel
theorem dX10_redo_11 : decode cX10_redo 11 = .ok (.invokevirtual 203, 3) := by decide +kernel
theorem dX10_redo_14 : decode cX10_redo 14 = .ok (.ireturn, 1) := by decide +kernel
theorem wd_978 : (Cond.code ⟨"WebCourt", "redo", "()Z"⟩ prog_1_method_18_code (1 : Nat) (Option.some FieldType.boolean)) ∈ gtb := gtb_c4 149 (by decide +kernel) rfl
theorem wd_979 : (Cond.methodLink "WebCourt" (203 : Nat) ⟨"WebCourt$Acts", "doAgain", "([I)Z"⟩) ∈ gtb := gtb_c4 150 (by decide +kernel) rfl
theorem wd_980 : (Cond.instanceMethod ⟨"WebCourt$Acts", "doAgain", "([I)Z"⟩) ∈ gtb := gtb_c4 151 (by decide +kernel) rfl
theorem wd_981 : (Cond.selects "WebCourt$Acts" ⟨"WebCourt$Acts", "doAgain", "([I)Z"⟩ ⟨"WebCourt$Acts", "doAgain", "([I)Z"⟩) ∈ gtb := gtb_c4 152 (by decide +kernel) rfl
theorem hd_yX0_doAgain : yX0_doAgain.cls = RX0 ∧ yX0_doAgain.cls ≠ "java/lang/invoke/MethodHandle" ∧ yX0_doAgain.cls ≠ "java/lang/invoke/VarHandle" ∧ (parseMethodDescriptor yX0_doAgain.desc).map (fun d => d.parameters.length) = some 1 := by decide +kernel
set_option maxHeartbeats 4000000 in
set_option maxRecDepth 100000 in
theorem T_X10_redo (l : Launch) (D : va_G) (cy : Nat → ClassId) (a : Nat → Nat) (u : St) (hI_30_3 : fI u 30 3 = 0)   : Mi l D cy (cW cy a) yX10_redo (.code yX10_redo cX10_redo 1 (some .boolean)) (rmo 1 21) [.ref (a 0)] u (fun (r : Int32) (u' : St) => r = 0 ∧ u' = u) := by
  refine Mi.of (own := RX10) rfl (by decide) (Nat.le_of_ble_eq_true rfl) ?_
  intro p e s m below meth c A Q ls C hret hO hl
  obtain ⟨hx, hb, hml, hown, ht, hK, hA⟩ := id C
  have hl : lv_has ls 1 [(0, .ref (a 0))] := hl
  refine lv_aload_n hx hb dX10_redo_0 rfl (lv_at hl 0 rfl) ?_
  refine gf_RX10_44 (v := .ref (a 30)) C hO 0 cW_0 rfl dX10_redo_1 ?_
  refine lv_aload_n hx hb dX10_redo_4 rfl (lv_at hl 0 rfl) ?_
  refine gf_RX10_37 (v := .ref (a 28)) C hO 0 cW_0 rfl dX10_redo_5 ?_
  refine gf_RX10_150 (v := .ref (a 29)) C hO 28 cW_28 rfl dX10_redo_8 ?_
  refine cVi (w := cW cy a) (As := [.ref (a 29)]) (rest := []) C hO (T_X0_doAgain l D cy a _ (by exact hI_30_3)) (cwV 1 ht (gV wd_979 wd_980 wd_981 wd_116 wd_982) rfl rfl rfl hd_yX0_doAgain ⟨Nat.le_of_ble_eq_true rfl, Nat.le_of_ble_eq_true rfl⟩) 30 rfl cW_30 rfl rfl hl.1 (Nat.le_of_ble_eq_true rfl) dX10_redo_11 rfl ⟨Nat.zero_le _, Nat.zero_le _⟩ (fun r1 u2 H locs hp3 hO => ?_)
  obtain ⟨hr1, hu2⟩ := hp3
  subst hr1
  rw [hu2] at hO
  refine hret _ _ _ _ _ _ dX10_redo_14 rfl ?_ hO
  exact ⟨rfl, rfl⟩
theorem dX10_fewestOf_0 : decode cX10_fewestOf 0 = .ok (.aload_n 0, 1) := by decide +kernel
theorem dX10_fewestOf_1 : decode cX10_fewestOf 1 = .ok (.getfield 37, 3) := by decide +kernel
theorem dX10_fewestOf_4 : decode cX10_fewestOf 4 = .ok (.iload_n 1, 1) := by decide +kernel
theorem dX10_fewestOf_5 : decode cX10_fewestOf 5 = .ok (.invokevirtual 189, 3) := by decide +kernel
theorem dX10_fewestOf_8 : decode cX10_fewestOf 8 = .ok (.ifCond .eq 12, 3) := by decide +kernel
theorem dX10_fewestOf_11 : decode cX10_fewestOf 11 = .ok (.iload_n 3, 1) := by decide +kernel
theorem dX10_fewestOf_12 : decode cX10_fewestOf 12 = .ok (.ifCond .lt 8, 3) := by decide +kernel
theorem dX10_fewestOf_15 : decode cX10_fewestOf 15 = .ok (.iload_n 3, 1) := by decide +kernel
theorem dX10_fewestOf_16 : decode cX10_fewestOf 16 = .ok (.iconst 1, 1) := by decide +kernel
theorem dX10_fewestOf_17 : decode cX10_fewestOf 17 = .ok (.if_icmp .le 5, 3) := by decide +kernel
theorem dX10_fewestOf_20 : decode cX10_fewestOf 20 = .ok (.iconst (-1), 1) := by decide +kernel
theorem dX10_fewestOf_21 : decode cX10_fewestOf 21 = .ok (.ireturn, 1) := by decide +kernel
theorem dX10_fewestOf_22 : decode cX10_fewestOf 22 = .ok (.aload_n 0, 1) := by decide +kernel
theorem dX10_fewestOf_23 : decode cX10_fewestOf 23 = .ok (.getfield 69, 3) := by decide +kernel
theorem dX10_fewestOf_26 : decode cX10_fewestOf 26 = .ok (.iload_n 1, 1) := by decide +kernel
theorem dX10_fewestOf_27 : decode cX10_fewestOf 27 = .ok (.iload_n 2, 1) := by decide +kernel
theorem dX10_fewestOf_28 : decode cX10_fewestOf 28 = .ok (.invokevirtual 213, 3) := by decide +kernel
theorem dX10_fewestOf_31 : decode cX10_fewestOf 31 = .ok (.istore 4, 2) := by decide +kernel
theorem dX10_fewestOf_33 : decode cX10_fewestOf 33 = .ok (.iload 4, 2) := by decide +kernel
theorem dX10_fewestOf_35 : decode cX10_fewestOf 35 = .ok (.ifCond .ne 5, 3) := by decide +kernel
theorem dX10_fewestOf_38 : decode cX10_fewestOf 38 = .ok (.iconst (-1), 1) := by decide +kernel
theorem dX10_fewestOf_39 : decode cX10_fewestOf 39 = .ok (.ireturn, 1) := by decide +kernel
theorem dX10_fewestOf_40 : decode cX10_fewestOf 40 = .ok (.iload_n 3, 1) := by decide +kernel
theorem dX10_fewestOf_41 : decode cX10_fewestOf 41 = .ok (.ifCond .ne 11, 3) := by decide +kernel
theorem dX10_fewestOf_44 : decode cX10_fewestOf 44 = .ok (.iload 4, 2) := by decide +kernel
theorem dX10_fewestOf_46 : decode cX10_fewestOf 46 = .ok (.invokestatic 180, 3) := by decide +kernel
theorem dX10_fewestOf_49 : decode cX10_fewestOf 49 = .ok (.goto 5, 3) := by decide +kernel
theorem dX10_fewestOf_52 : decode cX10_fewestOf 52 = .ok (.iload 4, 2) := by decide +kernel
theorem dX10_fewestOf_54 : decode cX10_fewestOf 54 = .ok (.ireturn, 1) := by decide +kernel
theorem wd_990 : (Cond.code ⟨"WebCourt", "fewestOf", "(III)I"⟩ prog_1_method_21_code (5 : Nat) (Option.some FieldType.int)) ∈ gtb := gtb_c4 161 (by decide +kernel) rfl
theorem wd_961 : (Cond.methodLink "WebCourt" (189 : Nat) ⟨"WebCourt$Court", "isHeld", "(I)Z"⟩) ∈ gtb := gtb_c4 132 (by decide +kernel) rfl
set_option maxHeartbeats 4000000 in
set_option maxRecDepth 100000 in
theorem T_X10_fewestOf (l : Launch) (D : va_G) (cy : Nat → ClassId) (a : Nat → Nat) (u : St) (hI_3_12 : fI u 3 12 = 0) (hR_0 : fR u 0 = a 3) (x1 : Int32) (x2 : Int32) (x3 : Int32)  : Mi l D cy (cW cy a) yX10_fewestOf (.code yX10_fewestOf cX10_fewestOf 5 (some .int)) (rmo 2 42) [.ref (a 0), .int x1, .int x2, .int x3] u (fun (r : Int32) (u' : St) => r = (-1) ∧ u' = u) := by
  refine Mi.of (own := RX10) rfl (by decide) (Nat.le_of_ble_eq_true rfl) ?_
  intro p e s m below meth c A Q ls C hret hO hl
  obtain ⟨hx, hb, hml, hown, ht, hK, hA⟩ := id C
  have hl : lv_has ls 5 [(0, .ref (a 0)), (1, .int x1), (2, .int x2), (3, .int x3)] := hl
  refine lv_aload_n hx hb dX10_fewestOf_0 rfl (lv_at hl 0 rfl) ?_
  refine gf_RX10_37 (v := .ref (a 28)) C hO 0 cW_0 rfl dX10_fewestOf_1 ?_
  refine lv_iload_n hx hb dX10_fewestOf_4 rfl (lv_at hl 1 rfl) ?_
  refine cVi (w := cW cy a) (As := [.int x1]) (rest := []) C hO (T_X2_isHeld l D cy a _ (by exact hI_3_12) (by exact hR_0) (x1)) (cwV 1 ht (gV wd_961 wd_930 wd_931 wd_115 wd_932) rfl rfl rfl hd_yX2_isHeld ⟨Nat.le_of_ble_eq_true rfl, Nat.le_of_ble_eq_true rfl⟩) 28 rfl cW_28 rfl rfl hl.1 (Nat.le_of_ble_eq_true rfl) dX10_fewestOf_5 rfl ⟨Nat.zero_le _, Nat.zero_le _⟩ (fun r1 u2 H locs hp3 hO => ?_)
  obtain ⟨hr1, hu2⟩ := hp3
  subst hr1
  rw [hu2] at hO
  refine bt_eq (tgt := 20) (X := 0) hx hb dX10_fewestOf_8 (by decide) rfl (by omega) ?_
  refine lv_iconst (v := (-1)) hx hb dX10_fewestOf_20 (by decide) ?_
  refine hret _ _ _ _ _ _ dX10_fewestOf_21 rfl ?_ hO
  exact ⟨rfl, rfl⟩
theorem dX10_shortest_0 : decode cX10_shortest 0 = .ok (.aload_n 0, 1) := by decide +kernel
theorem dX10_shortest_1 : decode cX10_shortest 1 = .ok (.iload_n 1, 1) := by decide +kernel
theorem dX10_shortest_2 : decode cX10_shortest 2 = .ok (.iconst 1, 1) := by decide +kernel
theorem dX10_shortest_3 : decode cX10_shortest 3 = .ok (.aload_n 0, 1) := by decide +kernel
theorem dX10_shortest_4 : decode cX10_shortest 4 = .ok (.getfield 37, 3) := by decide +kernel
theorem dX10_shortest_7 : decode cX10_shortest 7 = .ok (.getfield 101, 3) := by decide +kernel
theorem dX10_shortest_10 : decode cX10_shortest 10 = .ok (.getfield 206, 3) := by decide +kernel
theorem dX10_shortest_13 : decode cX10_shortest 13 = .ok (.ishl, 1) := by decide +kernel
theorem dX10_shortest_14 : decode cX10_shortest 14 = .ok (.iconst 1, 1) := by decide +kernel
theorem dX10_shortest_15 : decode cX10_shortest 15 = .ok (.isub, 1) := by decide +kernel
theorem dX10_shortest_16 : decode cX10_shortest 16 = .ok (.iload_n 2, 1) := by decide +kernel
theorem dX10_shortest_17 : decode cX10_shortest 17 = .ok (.invokevirtual 209, 3) := by decide +kernel
theorem dX10_shortest_20 : decode cX10_shortest 20 = .ok (.ireturn, 1) := by decide +kernel
theorem wd_986 : (Cond.code ⟨"WebCourt", "shortest", "(II)I"⟩ prog_1_method_19_code (3 : Nat) (Option.some FieldType.int)) ∈ gtb := gtb_c4 157 (by decide +kernel) rfl
theorem wd_266 : (Cond.fieldLink "WebCourt" (206 : Nat) "WebCourt$Web" "pleas" "I") ∈ gtb := gtb_c1 157 (by decide +kernel) rfl
theorem gf_RX10_206 {p : Program} {l : Launch} {e : Env} {R : Room} {s : State} {m : MethodId} {args : Array Value} {below : List Frame} {meth : Method} {c : Code} {H : Heap} {locs : List Loc} {cells slots : Nat} {Q : State → Prop} {cc : ByteArray} {pc nL : Nat} {ls : Array Slot} {rest : List Value} {D : va_G} {cy : Nat → ClassId} {A : Nat → Prop} {ws : va_W} {b : Nat} {fs : List Value} {v : Value} (C : Cx p s m args c cc nL RX10 D cy A) (hO : Wo D A ws s.heap H locs) (q0 : Nat) (he : ws[q0]? = some (b, .inr (9, fs))) (hv : fs[11]? = some v) (hdg : decode cc pc = .ok (.getfield 206, 3)) (kk : W p l e R s m args below meth c H locs cells slots Q (F0 m (pc + 3) ls (v :: rest))) : W p l e R s m args below meth c H locs cells slots Q (F0 m pc ls (.ref b :: rest)) := gF (k := 11) C hO q0 he rfl inFX9 (by decide) wd_266 rfl hv hdg kk
theorem wd_987 : (Cond.methodLink "WebCourt" (209 : Nat) ⟨"WebCourt", "fewestOf", "(III)I"⟩) ∈ gtb := gtb_c4 158 (by decide +kernel) rfl
theorem wd_989 : (Cond.instanceMethod ⟨"WebCourt", "fewestOf", "(III)I"⟩) ∈ gtb := gtb_c4 160 (by decide +kernel) rfl
theorem wd_32 : (Cond.selects "WebCourt" ⟨"WebCourt", "fewestOf", "(III)I"⟩ ⟨"WebCourt", "fewestOf", "(III)I"⟩) ∈ gtb := gtb_p 32 (by decide +kernel) rfl
theorem wd_110 : (Cond.initialized "WebCourt") ∈ gtb := gtb_c1 1 (by decide +kernel) rfl
theorem hd_yX10_fewestOf : yX10_fewestOf.cls = RX10 ∧ yX10_fewestOf.cls ≠ "java/lang/invoke/MethodHandle" ∧ yX10_fewestOf.cls ≠ "java/lang/invoke/VarHandle" ∧ (parseMethodDescriptor yX10_fewestOf.desc).map (fun d => d.parameters.length) = some 3 := by decide +kernel
set_option maxHeartbeats 4000000 in
set_option maxRecDepth 100000 in
theorem T_X10_shortest (l : Launch) (D : va_G) (cy : Nat → ClassId) (a : Nat → Nat) (u : St) (hI_3_11 : fI u 3 11 = 0) (hI_3_12 : fI u 3 12 = 0) (hR_0 : fR u 0 = a 3) (x1 : Int32) (x2 : Int32)  : Mi l D cy (cW cy a) yX10_shortest (.code yX10_shortest cX10_shortest 3 (some .int)) (rmo 3 66) [.ref (a 0), .int x1, .int x2] u (fun (r : Int32) (u' : St) => r = (-1) ∧ u' = u) := by
  refine Mi.of (own := RX10) rfl (by decide) (Nat.le_of_ble_eq_true rfl) ?_
  intro p e s m below meth c A Q ls C hret hO hl
  obtain ⟨hx, hb, hml, hown, ht, hK, hA⟩ := id C
  have hl : lv_has ls 3 [(0, .ref (a 0)), (1, .int x1), (2, .int x2)] := hl
  refine lv_aload_n hx hb dX10_shortest_0 rfl (lv_at hl 0 rfl) ?_
  refine lv_iload_n hx hb dX10_shortest_1 rfl (lv_at hl 1 rfl) ?_
  refine lv_iconst (v := 1) hx hb dX10_shortest_2 (by decide) ?_
  refine lv_aload_n hx hb dX10_shortest_3 rfl (lv_at hl 0 rfl) ?_
  refine gf_RX10_37 (v := .ref (a 28)) C hO 0 cW_0 rfl dX10_shortest_4 ?_
  refine gf_RX10_101 (v := .ref (a 3)) C hO 28 cW_28 (congrArg (fun z : Nat => some (Value.ref z)) hR_0) dX10_shortest_7 ?_
  refine gf_RX10_206 (v := .int 0) C hO 3 cW_3 (congrArg (fun z : Int32 => some (Value.int z)) hI_3_11) dX10_shortest_10 ?_
  refine lv_ishl hx hb dX10_shortest_13 ?_
  refine tE (y := 1) (by decide) ?_
  refine lv_iconst (v := 1) hx hb dX10_shortest_14 (by decide) ?_
  refine lv_isub hx hb dX10_shortest_15 ?_
  refine tE (y := 0) rfl ?_
  refine lv_iload_n hx hb dX10_shortest_16 rfl (lv_at hl 2 rfl) ?_
  refine cVi (w := cW cy a) (As := [.int x1, .int 0, .int x2]) (rest := []) C hO (T_X10_fewestOf l D cy a _ (by exact hI_3_12) (by exact hR_0) (x1) (0) (x2)) (cwV 3 ht (gV wd_987 wd_989 wd_32 wd_110 wd_990) rfl rfl rfl hd_yX10_fewestOf ⟨Nat.le_of_ble_eq_true rfl, Nat.le_of_ble_eq_true rfl⟩) 0 rfl cW_0 rfl rfl hl.1 (Nat.le_of_ble_eq_true rfl) dX10_shortest_17 rfl ⟨Nat.zero_le _, Nat.zero_le _⟩ (fun r1 u2 H locs hp3 hO => ?_)
  obtain ⟨hr1, hu2⟩ := hp3
  subst hr1
  rw [hu2] at hO
  refine hret _ _ _ _ _ _ dX10_shortest_20 rfl ?_ hO
  exact ⟨rfl, rfl⟩
theorem dX10_honest_0 : decode cX10_honest 0 = .ok (.aload_n 0, 1) := by decide +kernel
theorem dX10_honest_1 : decode cX10_honest 1 = .ok (.getfield 37, 3) := by decide +kernel
theorem dX10_honest_4 : decode cX10_honest 4 = .ok (.iload_n 1, 1) := by decide +kernel
theorem dX10_honest_5 : decode cX10_honest 5 = .ok (.invokevirtual 144, 3) := by decide +kernel
theorem dX10_honest_8 : decode cX10_honest 8 = .ok (.ifCond .eq 24, 3) := by decide +kernel
theorem dX10_honest_11 : decode cX10_honest 11 = .ok (.aload_n 0, 1) := by decide +kernel
theorem dX10_honest_12 : decode cX10_honest 12 = .ok (.iload_n 1, 1) := by decide +kernel
theorem dX10_honest_13 : decode cX10_honest 13 = .ok (.aload_n 0, 1) := by decide +kernel
theorem dX10_honest_14 : decode cX10_honest 14 = .ok (.getfield 37, 3) := by decide +kernel
theorem dX10_honest_17 : decode cX10_honest 17 = .ok (.getfield 101, 3) := by decide +kernel
theorem dX10_honest_20 : decode cX10_honest 20 = .ok (.getfield 153, 3) := by decide +kernel
theorem dX10_honest_23 : decode cX10_honest 23 = .ok (.iload_n 1, 1) := by decide +kernel
theorem dX10_honest_24 : decode cX10_honest 24 = .ok (.iaload, 1) := by decide +kernel
theorem dX10_honest_25 : decode cX10_honest 25 = .ok (.iload_n 2, 1) := by decide +kernel
theorem dX10_honest_26 : decode cX10_honest 26 = .ok (.invokevirtual 209, 3) := by decide +kernel
theorem dX10_honest_29 : decode cX10_honest 29 = .ok (.goto 4, 3) := by decide +kernel
theorem dX10_honest_32 : decode cX10_honest 32 = .ok (.iconst (-1), 1) := by decide +kernel
theorem dX10_honest_33 : decode cX10_honest 33 = .ok (.ireturn, 1) := by decide +kernel
theorem wd_1003 : (Cond.code ⟨"WebCourt", "honest", "(II)I"⟩ prog_1_method_20_code (3 : Nat) (Option.some FieldType.int)) ∈ gtb := gtb_c4 174 (by decide +kernel) rfl
set_option maxHeartbeats 4000000 in
set_option maxRecDepth 100000 in
theorem T_X10_honest (l : Launch) (D : va_G) (cy : Nat → ClassId) (a : Nat → Nat) (u : St) (hI_3_12 : fI u 3 12 = 0) (hR_0 : fR u 0 = a 3) (x1 : Int32) (x2 : Int32)  : Mi l D cy (cW cy a) yX10_honest (.code yX10_honest cX10_honest 3 (some .int)) (rmo 1 21) [.ref (a 0), .int x1, .int x2] u (fun (r : Int32) (u' : St) => r = (-1) ∧ u' = u) := by
  refine Mi.of (own := RX10) rfl (by decide) (Nat.le_of_ble_eq_true rfl) ?_
  intro p e s m below meth c A Q ls C hret hO hl
  obtain ⟨hx, hb, hml, hown, ht, hK, hA⟩ := id C
  have hl : lv_has ls 3 [(0, .ref (a 0)), (1, .int x1), (2, .int x2)] := hl
  refine lv_aload_n hx hb dX10_honest_0 rfl (lv_at hl 0 rfl) ?_
  refine gf_RX10_37 (v := .ref (a 28)) C hO 0 cW_0 rfl dX10_honest_1 ?_
  refine lv_iload_n hx hb dX10_honest_4 rfl (lv_at hl 1 rfl) ?_
  refine cVi (w := cW cy a) (As := [.int x1]) (rest := []) C hO (T_X2_hasCase l D cy a _ (by exact hI_3_12) (by exact hR_0) (x1)) (cwV 1 ht (gV wd_841 wd_842 wd_843 wd_115 wd_844) rfl rfl rfl hd_yX2_hasCase ⟨Nat.le_of_ble_eq_true rfl, Nat.le_of_ble_eq_true rfl⟩) 28 rfl cW_28 rfl rfl hl.1 (Nat.le_of_ble_eq_true rfl) dX10_honest_5 rfl ⟨Nat.zero_le _, Nat.zero_le _⟩ (fun r1 u2 H locs hp3 hO => ?_)
  obtain ⟨hr1, hu2⟩ := hp3
  subst hr1
  rw [hu2] at hO
  refine bt_eq (tgt := 32) (X := 0) hx hb dX10_honest_8 (by decide) rfl (by omega) ?_
  refine lv_iconst (v := (-1)) hx hb dX10_honest_32 (by decide) ?_
  refine hret _ _ _ _ _ _ dX10_honest_33 rfl ?_ hO
  exact ⟨rfl, rfl⟩
theorem dX10_way_0 : decode cX10_way 0 = .ok (.aload_n 0, 1) := by decide +kernel
theorem dX10_way_1 : decode cX10_way 1 = .ok (.iconst 0, 1) := by decide +kernel
theorem dX10_way_2 : decode cX10_way 2 = .ok (.putfield 111, 3) := by decide +kernel
theorem dX10_way_5 : decode cX10_way 5 = .ok (.aload_n 0, 1) := by decide +kernel
theorem dX10_way_6 : decode cX10_way 6 = .ok (.getfield 37, 3) := by decide +kernel
theorem dX10_way_9 : decode cX10_way 9 = .ok (.iload_n 1, 1) := by decide +kernel
theorem dX10_way_10 : decode cX10_way 10 = .ok (.invokevirtual 126, 3) := by decide +kernel
theorem dX10_way_13 : decode cX10_way 13 = .ok (.ifCond .ne 5, 3) := by decide +kernel
theorem dX10_way_16 : decode cX10_way 16 = .ok (.iconst (-1), 1) := by decide +kernel
theorem dX10_way_17 : decode cX10_way 17 = .ok (.ireturn, 1) := by decide +kernel
theorem dX10_way_18 : decode cX10_way 18 = .ok (.aload_n 0, 1) := by decide +kernel
theorem dX10_way_19 : decode cX10_way 19 = .ok (.getfield 53, 3) := by decide +kernel
theorem dX10_way_22 : decode cX10_way 22 = .ok (.invokevirtual 216, 3) := by decide +kernel
theorem dX10_way_25 : decode cX10_way 25 = .ok (.aload_n 0, 1) := by decide +kernel
theorem dX10_way_26 : decode cX10_way 26 = .ok (.getfield 53, 3) := by decide +kernel
theorem dX10_way_29 : decode cX10_way 29 = .ok (.aload_n 0, 1) := by decide +kernel
theorem dX10_way_30 : decode cX10_way 30 = .ok (.getfield 37, 3) := by decide +kernel
theorem dX10_way_33 : decode cX10_way 33 = .ok (.getfield 150, 3) := by decide +kernel
theorem dX10_way_36 : decode cX10_way 36 = .ok (.iconst 0, 1) := by decide +kernel
theorem dX10_way_37 : decode cX10_way 37 = .ok (.iaload, 1) := by decide +kernel
theorem dX10_way_38 : decode cX10_way 38 = .ok (.iload_n 1, 1) := by decide +kernel
theorem dX10_way_39 : decode cX10_way 39 = .ok (.invokevirtual 219, 3) := by decide +kernel
theorem dX10_way_42 : decode cX10_way 42 = .ok (.istore_n 2, 1) := by decide +kernel
theorem dX10_way_43 : decode cX10_way 43 = .ok (.iload_n 2, 1) := by decide +kernel
theorem dX10_way_44 : decode cX10_way 44 = .ok (.sipush 1000, 3) := by decide +kernel
theorem dX10_way_47 : decode cX10_way 47 = .ok (.if_icmp .lt 5, 3) := by decide +kernel
theorem dX10_way_50 : decode cX10_way 50 = .ok (.iconst (-1), 1) := by decide +kernel
theorem dX10_way_51 : decode cX10_way 51 = .ok (.ireturn, 1) := by decide +kernel
theorem dX10_way_52 : decode cX10_way 52 = .ok (.aload_n 0, 1) := by decide +kernel
theorem dX10_way_53 : decode cX10_way 53 = .ok (.aload_n 0, 1) := by decide +kernel
theorem dX10_way_54 : decode cX10_way 54 = .ok (.getfield 53, 3) := by decide +kernel
theorem dX10_way_57 : decode cX10_way 57 = .ok (.iload_n 1, 1) := by decide +kernel
theorem dX10_way_58 : decode cX10_way 58 = .ok (.aload_n 0, 1) := by decide +kernel
theorem dX10_way_59 : decode cX10_way 59 = .ok (.getfield 85, 3) := by decide +kernel
theorem dX10_way_62 : decode cX10_way 62 = .ok (.invokevirtual 222, 3) := by decide +kernel
theorem dX10_way_65 : decode cX10_way 65 = .ok (.putfield 111, 3) := by decide +kernel
theorem dX10_way_68 : decode cX10_way 68 = .ok (.iload_n 2, 1) := by decide +kernel
theorem dX10_way_69 : decode cX10_way 69 = .ok (.ireturn, 1) := by decide +kernel
theorem wd_1007 : (Cond.code ⟨"WebCourt", "way", "(I)I"⟩ prog_1_method_22_code (3 : Nat) (Option.some FieldType.int)) ∈ gtb := gtb_c4 178 (by decide +kernel) rfl
theorem wd_478 : (Cond.fieldLink "WebCourt" (111 : Nat) "WebCourt" "lyingCount" "I") ∈ gtb := gtb_c2 129 (by decide +kernel) rfl
theorem pf_RX10_111 {p : Program} {l : Launch} {e : Env} {R : Room} {s : State} {m : MethodId} {args : Array Value} {below : List Frame} {meth : Method} {c : Code} {H : Heap} {locs : List Loc} {cells slots : Nat} {Q : State → Prop} {cc : ByteArray} {pc nL : Nat} {ls : Array Slot} {rest : List Value} {D : va_G} {cy : Nat → ClassId} {A : Nat → Prop} {ws : va_W} {b : Nat} {fs : List Value} {v : Int32} {ws' : va_W} (C : Cx p s m args c cc nL RX10 D cy A) (hO : Wo D A ws s.heap H locs) (q0 : Nat) (he : ws[q0]? = some (b, .inr (10, fs))) (hlen : 10 < fs.length) (hw : ws.set q0 (b, .inr (10, fs.set 10 (.int v))) = ws') (hdg : decode cc pc = .ok (.putfield 111, 3)) (kk : ∀ (H : Heap) (locs : List Loc), Wo D A ws' s.heap H locs → W p l e R s m args below meth c H locs cells slots Q (F0 m (pc + 3) ls rest)) : W p l e R s m args below meth c H locs cells slots Q (F0 m pc ls (.int v :: .ref b :: rest)) := pF (k := 10) (ty := .int) C hO q0 he rfl inFX10 (by decide) wd_478 rfl tyX10 tyX10_ok nmX10 rfl (by decide +kernel) rfl rfl hlen hw hdg kk
set_option maxHeartbeats 4000000 in
set_option maxRecDepth 100000 in
theorem T_X10_way (l : Launch) (D : va_G) (cy : Nat → ClassId) (a : Nat → Nat) (u : St) (hI_3_9 : fI u 3 9 = 0) (hR_0 : fR u 0 = a 3) (x1 : Int32)  : Mi l D cy (cW cy a) yX10_way (.code yX10_way cX10_way 3 (some .int)) (rmo 1 21) [.ref (a 0), .int x1] u (fun (r : Int32) (u' : St) => r = (-1) ∧ u' = (sI u 0 10 0)) := by
  refine Mi.of (own := RX10) rfl (by decide) (Nat.le_of_ble_eq_true rfl) ?_
  intro p e s m below meth c A Q ls C hret hO hl
  obtain ⟨hx, hb, hml, hown, ht, hK, hA⟩ := id C
  have hl : lv_has ls 3 [(0, .ref (a 0)), (1, .int x1)] := hl
  refine lv_aload_n hx hb dX10_way_0 rfl (lv_at hl 0 rfl) ?_
  refine lv_iconst (v := 0) hx hb dX10_way_1 (by decide) ?_
  refine pf_RX10_111 C hO 0 cW_0 (Nat.le_of_ble_eq_true rfl) cW_s0_10 dX10_way_2 (fun H locs hO => ?_)
  refine lv_aload_n hx hb dX10_way_5 rfl (lv_at hl 0 rfl) ?_
  refine gf_RX10_37 (v := .ref (a 28)) C hO 0 cW_0 rfl dX10_way_6 ?_
  refine lv_iload_n hx hb dX10_way_9 rfl (lv_at hl 1 rfl) ?_
  refine cVi (w := cW cy a) (As := [.int x1]) (rest := []) C hO (T_X2_hasKnot l D cy a _ (by exact hI_3_9) (by exact hR_0) (x1)) (cwV 1 ht (gV wd_817 wd_818 wd_819 wd_115 wd_820) rfl rfl rfl hd_yX2_hasKnot ⟨Nat.le_of_ble_eq_true rfl, Nat.le_of_ble_eq_true rfl⟩) 28 rfl cW_28 rfl rfl hl.1 (Nat.le_of_ble_eq_true rfl) dX10_way_10 rfl ⟨Nat.zero_le _, Nat.zero_le _⟩ (fun r1 u2 H locs hp3 hO => ?_)
  obtain ⟨hr1, hu2⟩ := hp3
  subst hr1
  rw [hu2] at hO
  refine bn_ne (X := 0) hx hb dX10_way_13 rfl (by omega) ?_ (tgt := 18) (by decide)
  refine lv_iconst (v := (-1)) hx hb dX10_way_16 (by decide) ?_
  refine hret _ _ _ _ _ _ dX10_way_17 rfl ?_ hO
  exact ⟨rfl, rfl⟩
theorem dX10_round_0 : decode cX10_round 0 = .ok (.aload_n 0, 1) := by decide +kernel
theorem dX10_round_1 : decode cX10_round 1 = .ok (.iconst 0, 1) := by decide +kernel
theorem dX10_round_2 : decode cX10_round 2 = .ok (.putfield 111, 3) := by decide +kernel
theorem dX10_round_5 : decode cX10_round 5 = .ok (.aload_n 0, 1) := by decide +kernel
theorem dX10_round_6 : decode cX10_round 6 = .ok (.getfield 37, 3) := by decide +kernel
theorem dX10_round_9 : decode cX10_round 9 = .ok (.invokevirtual 192, 3) := by decide +kernel
theorem dX10_round_12 : decode cX10_round 12 = .ok (.istore_n 1, 1) := by decide +kernel
theorem dX10_round_13 : decode cX10_round 13 = .ok (.iload_n 1, 1) := by decide +kernel
theorem dX10_round_14 : decode cX10_round 14 = .ok (.ifCond .ne 5, 3) := by decide +kernel
theorem dX10_round_17 : decode cX10_round 17 = .ok (.iconst (-1), 1) := by decide +kernel
theorem dX10_round_18 : decode cX10_round 18 = .ok (.ireturn, 1) := by decide +kernel
theorem dX10_round_19 : decode cX10_round 19 = .ok (.aload_n 0, 1) := by decide +kernel
theorem dX10_round_20 : decode cX10_round 20 = .ok (.getfield 62, 3) := by decide +kernel
theorem dX10_round_23 : decode cX10_round 23 = .ok (.invokevirtual 226, 3) := by decide +kernel
theorem dX10_round_26 : decode cX10_round 26 = .ok (.aload_n 0, 1) := by decide +kernel
theorem dX10_round_27 : decode cX10_round 27 = .ok (.getfield 62, 3) := by decide +kernel
theorem dX10_round_30 : decode cX10_round 30 = .ok (.iload_n 1, 1) := by decide +kernel
theorem dX10_round_31 : decode cX10_round 31 = .ok (.invokevirtual 227, 3) := by decide +kernel
theorem dX10_round_34 : decode cX10_round 34 = .ok (.istore_n 2, 1) := by decide +kernel
theorem dX10_round_35 : decode cX10_round 35 = .ok (.iload_n 2, 1) := by decide +kernel
theorem dX10_round_36 : decode cX10_round 36 = .ok (.sipush 1000, 3) := by decide +kernel
theorem dX10_round_39 : decode cX10_round 39 = .ok (.if_icmp .lt 5, 3) := by decide +kernel
theorem dX10_round_42 : decode cX10_round 42 = .ok (.iconst (-1), 1) := by decide +kernel
theorem dX10_round_43 : decode cX10_round 43 = .ok (.ireturn, 1) := by decide +kernel
theorem dX10_round_44 : decode cX10_round 44 = .ok (.aload_n 0, 1) := by decide +kernel
theorem dX10_round_45 : decode cX10_round 45 = .ok (.aload_n 0, 1) := by decide +kernel
theorem dX10_round_46 : decode cX10_round 46 = .ok (.getfield 62, 3) := by decide +kernel
theorem dX10_round_49 : decode cX10_round 49 = .ok (.iload_n 1, 1) := by decide +kernel
theorem dX10_round_50 : decode cX10_round 50 = .ok (.aload_n 0, 1) := by decide +kernel
theorem dX10_round_51 : decode cX10_round 51 = .ok (.getfield 85, 3) := by decide +kernel
theorem dX10_round_54 : decode cX10_round 54 = .ok (.invokevirtual 230, 3) := by decide +kernel
theorem dX10_round_57 : decode cX10_round 57 = .ok (.putfield 111, 3) := by decide +kernel
theorem dX10_round_60 : decode cX10_round 60 = .ok (.iload_n 2, 1) := by decide +kernel
theorem dX10_round_61 : decode cX10_round 61 = .ok (.ireturn, 1) := by decide +kernel
theorem wd_1034 : (Cond.code ⟨"WebCourt", "round", "()I"⟩ prog_1_method_23_code (3 : Nat) (Option.some FieldType.int)) ∈ gtb := gtb_c4 205 (by decide +kernel) rfl
theorem wd_962 : (Cond.methodLink "WebCourt" (192 : Nat) ⟨"WebCourt$Court", "held", "()I"⟩) ∈ gtb := gtb_c4 133 (by decide +kernel) rfl
theorem wd_858 : (Cond.instanceMethod ⟨"WebCourt$Court", "held", "()I"⟩) ∈ gtb := gtb_c4 29 (by decide +kernel) rfl
theorem wd_859 : (Cond.selects "WebCourt$Court" ⟨"WebCourt$Court", "held", "()I"⟩ ⟨"WebCourt$Court", "held", "()I"⟩) ∈ gtb := gtb_c4 30 (by decide +kernel) rfl
theorem hd_yX2_held : yX2_held.cls = RX2 ∧ yX2_held.cls ≠ "java/lang/invoke/MethodHandle" ∧ yX2_held.cls ≠ "java/lang/invoke/VarHandle" ∧ (parseMethodDescriptor yX2_held.desc).map (fun d => d.parameters.length) = some 0 := by decide +kernel
set_option maxHeartbeats 4000000 in
set_option maxRecDepth 100000 in
theorem T_X10_round (l : Launch) (D : va_G) (cy : Nat → ClassId) (a : Nat → Nat) (u : St) (hI_3_12 : fI u 3 12 = 0) (hR_0 : fR u 0 = a 3)   : Mi l D cy (cW cy a) yX10_round (.code yX10_round cX10_round 3 (some .int)) (rmo 1 22) [.ref (a 0)] u (fun (r : Int32) (u' : St) => r = (-1) ∧ u' = (sI u 0 10 0)) := by
  refine Mi.of (own := RX10) rfl (by decide) (Nat.le_of_ble_eq_true rfl) ?_
  intro p e s m below meth c A Q ls C hret hO hl
  obtain ⟨hx, hb, hml, hown, ht, hK, hA⟩ := id C
  have hl : lv_has ls 3 [(0, .ref (a 0))] := hl
  refine lv_aload_n hx hb dX10_round_0 rfl (lv_at hl 0 rfl) ?_
  refine lv_iconst (v := 0) hx hb dX10_round_1 (by decide) ?_
  refine pf_RX10_111 C hO 0 cW_0 (Nat.le_of_ble_eq_true rfl) cW_s0_10 dX10_round_2 (fun H locs hO => ?_)
  refine lv_aload_n hx hb dX10_round_5 rfl (lv_at hl 0 rfl) ?_
  refine gf_RX10_37 (v := .ref (a 28)) C hO 0 cW_0 rfl dX10_round_6 ?_
  refine cVi (w := cW cy a) (As := []) (rest := []) C hO (T_X2_held l D cy a _ (by exact hI_3_12) (by exact hR_0)) (cwV 0 ht (gV wd_962 wd_858 wd_859 wd_115 wd_860) rfl rfl rfl hd_yX2_held ⟨Nat.le_of_ble_eq_true rfl, Nat.le_of_ble_eq_true rfl⟩) 28 rfl cW_28 rfl rfl hl.1 (Nat.le_of_ble_eq_true rfl) dX10_round_9 rfl ⟨Nat.zero_le _, Nat.zero_le _⟩ (fun r1 u2 H locs hp3 hO => ?_)
  obtain ⟨hr1, hu2⟩ := hp3
  subst hr1
  rw [hu2] at hO
  refine lv_istore_n (lv' := [(1, .int 0), (0, .ref (a 0))]) hx hb dX10_round_12 rfl hl (by decide) rfl (fun ls hl => ?_)
  refine lv_iload_n hx hb dX10_round_13 rfl (lv_at hl 0 rfl) ?_
  refine bn_ne (X := 0) hx hb dX10_round_14 rfl (by omega) ?_ (tgt := 19) (by decide)
  refine lv_iconst (v := (-1)) hx hb dX10_round_17 (by decide) ?_
  refine hret _ _ _ _ _ _ dX10_round_18 rfl ?_ hO
  exact ⟨rfl, rfl⟩
theorem dX10_leave_0 : decode cX10_leave 0 = .ok (.aload_n 0, 1) := by decide +kernel
theorem dX10_leave_1 : decode cX10_leave 1 = .ok (.getfield 37, 3) := by decide +kernel
theorem dX10_leave_4 : decode cX10_leave 4 = .ok (.iload_n 1, 1) := by decide +kernel
theorem dX10_leave_5 : decode cX10_leave 5 = .ok (.invokevirtual 189, 3) := by decide +kernel
theorem dX10_leave_8 : decode cX10_leave 8 = .ok (.ifCond .eq 14, 3) := by decide +kernel
theorem dX10_leave_11 : decode cX10_leave 11 = .ok (.aload_n 0, 1) := by decide +kernel
theorem dX10_leave_12 : decode cX10_leave 12 = .ok (.getfield 69, 3) := by decide +kernel
theorem dX10_leave_15 : decode cX10_leave 15 = .ok (.iload_n 1, 1) := by decide +kernel
theorem dX10_leave_16 : decode cX10_leave 16 = .ok (.invokevirtual 236, 3) := by decide +kernel
theorem dX10_leave_19 : decode cX10_leave 19 = .ok (.goto 4, 3) := by decide +kernel
theorem dX10_leave_22 : decode cX10_leave 22 = .ok (.iconst (-1), 1) := by decide +kernel
theorem dX10_leave_23 : decode cX10_leave 23 = .ok (.ireturn, 1) := by decide +kernel
theorem wd_1076 : (Cond.code ⟨"WebCourt", "leave", "(I)I"⟩ prog_1_method_25_code (2 : Nat) (Option.some FieldType.int)) ∈ gtb := gtb_c5 7 (by decide +kernel) rfl
set_option maxHeartbeats 4000000 in
set_option maxRecDepth 100000 in
theorem T_X10_leave (l : Launch) (D : va_G) (cy : Nat → ClassId) (a : Nat → Nat) (u : St) (hI_3_12 : fI u 3 12 = 0) (hR_0 : fR u 0 = a 3) (x1 : Int32)  : Mi l D cy (cW cy a) yX10_leave (.code yX10_leave cX10_leave 2 (some .int)) (rmo 2 42) [.ref (a 0), .int x1] u (fun (r : Int32) (u' : St) => r = (-1) ∧ u' = u) := by
  refine Mi.of (own := RX10) rfl (by decide) (Nat.le_of_ble_eq_true rfl) ?_
  intro p e s m below meth c A Q ls C hret hO hl
  obtain ⟨hx, hb, hml, hown, ht, hK, hA⟩ := id C
  have hl : lv_has ls 2 [(0, .ref (a 0)), (1, .int x1)] := hl
  refine lv_aload_n hx hb dX10_leave_0 rfl (lv_at hl 0 rfl) ?_
  refine gf_RX10_37 (v := .ref (a 28)) C hO 0 cW_0 rfl dX10_leave_1 ?_
  refine lv_iload_n hx hb dX10_leave_4 rfl (lv_at hl 1 rfl) ?_
  refine cVi (w := cW cy a) (As := [.int x1]) (rest := []) C hO (T_X2_isHeld l D cy a _ (by exact hI_3_12) (by exact hR_0) (x1)) (cwV 1 ht (gV wd_961 wd_930 wd_931 wd_115 wd_932) rfl rfl rfl hd_yX2_isHeld ⟨Nat.le_of_ble_eq_true rfl, Nat.le_of_ble_eq_true rfl⟩) 28 rfl cW_28 rfl rfl hl.1 (Nat.le_of_ble_eq_true rfl) dX10_leave_5 rfl ⟨Nat.zero_le _, Nat.zero_le _⟩ (fun r1 u2 H locs hp3 hO => ?_)
  obtain ⟨hr1, hu2⟩ := hp3
  subst hr1
  rw [hu2] at hO
  refine bt_eq (tgt := 22) (X := 0) hx hb dX10_leave_8 (by decide) rfl (by omega) ?_
  refine lv_iconst (v := (-1)) hx hb dX10_leave_22 (by decide) ?_
  refine hret _ _ _ _ _ _ dX10_leave_23 rfl ?_ hO
  exact ⟨rfl, rfl⟩
theorem dX1_contraries_0 : decode cX1_contraries 0 = .ok (.iconst 0, 1) := by decide +kernel
theorem dX1_contraries_1 : decode cX1_contraries 1 = .ok (.istore_n 1, 1) := by decide +kernel
theorem dX1_contraries_2 : decode cX1_contraries 2 = .ok (.iload_n 1, 1) := by decide +kernel
theorem dX1_contraries_3 : decode cX1_contraries 3 = .ok (.aload_n 0, 1) := by decide +kernel
theorem dX1_contraries_4 : decode cX1_contraries 4 = .ok (.getfield 18, 3) := by decide +kernel
theorem dX1_contraries_7 : decode cX1_contraries 7 = .ok (.getfield 34, 3) := by decide +kernel
theorem dX1_contraries_10 : decode cX1_contraries 10 = .ok (.getfield 44, 3) := by decide +kernel
theorem dX1_contraries_13 : decode cX1_contraries 13 = .ok (.if_icmp .ge 102, 3) := by decide +kernel
theorem dX1_contraries_16 : decode cX1_contraries 16 = .ok (.iload_n 1, 1) := by decide +kernel
theorem dX1_contraries_17 : decode cX1_contraries 17 = .ok (.iconst 1, 1) := by decide +kernel
theorem dX1_contraries_18 : decode cX1_contraries 18 = .ok (.iadd, 1) := by decide +kernel
theorem dX1_contraries_19 : decode cX1_contraries 19 = .ok (.istore_n 2, 1) := by decide +kernel
theorem dX1_contraries_20 : decode cX1_contraries 20 = .ok (.iload_n 2, 1) := by decide +kernel
theorem dX1_contraries_21 : decode cX1_contraries 21 = .ok (.aload_n 0, 1) := by decide +kernel
theorem dX1_contraries_22 : decode cX1_contraries 22 = .ok (.getfield 18, 3) := by decide +kernel
theorem dX1_contraries_25 : decode cX1_contraries 25 = .ok (.getfield 34, 3) := by decide +kernel
theorem dX1_contraries_28 : decode cX1_contraries 28 = .ok (.getfield 44, 3) := by decide +kernel
theorem dX1_contraries_31 : decode cX1_contraries 31 = .ok (.if_icmp .ge 78, 3) := by decide +kernel
theorem dX1_contraries_34 : decode cX1_contraries 34 = .ok (.aload_n 0, 1) := by decide +kernel
theorem dX1_contraries_35 : decode cX1_contraries 35 = .ok (.getfield 18, 3) := by decide +kernel
theorem dX1_contraries_38 : decode cX1_contraries 38 = .ok (.iload_n 1, 1) := by decide +kernel
theorem dX1_contraries_39 : decode cX1_contraries 39 = .ok (.invokevirtual 47, 3) := by decide +kernel
theorem dX1_contraries_42 : decode cX1_contraries 42 = .ok (.ifCond .eq 61, 3) := by decide +kernel
theorem dX1_contraries_45 : decode cX1_contraries 45 = .ok (.aload_n 0, 1) := by decide +kernel
theorem dX1_contraries_46 : decode cX1_contraries 46 = .ok (.getfield 18, 3) := by decide +kernel
theorem dX1_contraries_49 : decode cX1_contraries 49 = .ok (.iload_n 2, 1) := by decide +kernel
theorem dX1_contraries_50 : decode cX1_contraries 50 = .ok (.invokevirtual 47, 3) := by decide +kernel
theorem dX1_contraries_53 : decode cX1_contraries 53 = .ok (.ifCond .eq 50, 3) := by decide +kernel
theorem dX1_contraries_56 : decode cX1_contraries 56 = .ok (.aload_n 0, 1) := by decide +kernel
theorem dX1_contraries_57 : decode cX1_contraries 57 = .ok (.getfield 18, 3) := by decide +kernel
theorem dX1_contraries_60 : decode cX1_contraries 60 = .ok (.getfield 54, 3) := by decide +kernel
theorem dX1_contraries_63 : decode cX1_contraries 63 = .ok (.bipush 11, 2) := by decide +kernel
theorem dX1_contraries_65 : decode cX1_contraries 65 = .ok (.iload_n 1, 1) := by decide +kernel
theorem dX1_contraries_66 : decode cX1_contraries 66 = .ok (.iadd, 1) := by decide +kernel
theorem dX1_contraries_67 : decode cX1_contraries 67 = .ok (.iaload, 1) := by decide +kernel
theorem dX1_contraries_68 : decode cX1_contraries 68 = .ok (.aload_n 0, 1) := by decide +kernel
theorem dX1_contraries_69 : decode cX1_contraries 69 = .ok (.getfield 18, 3) := by decide +kernel
theorem dX1_contraries_72 : decode cX1_contraries 72 = .ok (.getfield 54, 3) := by decide +kernel
theorem dX1_contraries_75 : decode cX1_contraries 75 = .ok (.bipush 11, 2) := by decide +kernel
theorem dX1_contraries_77 : decode cX1_contraries 77 = .ok (.iload_n 2, 1) := by decide +kernel
theorem dX1_contraries_78 : decode cX1_contraries 78 = .ok (.iadd, 1) := by decide +kernel
theorem dX1_contraries_79 : decode cX1_contraries 79 = .ok (.iaload, 1) := by decide +kernel
theorem dX1_contraries_80 : decode cX1_contraries 80 = .ok (.if_icmp .ne 23, 3) := by decide +kernel
theorem dX1_contraries_83 : decode cX1_contraries 83 = .ok (.aload_n 0, 1) := by decide +kernel
theorem dX1_contraries_84 : decode cX1_contraries 84 = .ok (.iload_n 1, 1) := by decide +kernel
theorem dX1_contraries_85 : decode cX1_contraries 85 = .ok (.invokevirtual 66, 3) := by decide +kernel
theorem dX1_contraries_88 : decode cX1_contraries 88 = .ok (.aload_n 0, 1) := by decide +kernel
theorem dX1_contraries_89 : decode cX1_contraries 89 = .ok (.iload_n 2, 1) := by decide +kernel
theorem dX1_contraries_90 : decode cX1_contraries 90 = .ok (.invokevirtual 66, 3) := by decide +kernel
theorem dX1_contraries_93 : decode cX1_contraries 93 = .ok (.if_icmp .eq 10, 3) := by decide +kernel
theorem dX1_contraries_96 : decode cX1_contraries 96 = .ok (.iload_n 1, 1) := by decide +kernel
theorem dX1_contraries_97 : decode cX1_contraries 97 = .ok (.bipush 6, 2) := by decide +kernel
theorem dX1_contraries_99 : decode cX1_contraries 99 = .ok (.imul, 1) := by decide +kernel
theorem dX1_contraries_100 : decode cX1_contraries 100 = .ok (.iload_n 2, 1) := by decide +kernel
theorem dX1_contraries_101 : decode cX1_contraries 101 = .ok (.iadd, 1) := by decide +kernel
theorem dX1_contraries_102 : decode cX1_contraries 102 = .ok (.ireturn, 1) := by decide +kernel
theorem dX1_contraries_103 : decode cX1_contraries 103 = .ok (.iinc 2 1, 3) := by decide +kernel
theorem dX1_contraries_106 : decode cX1_contraries 106 = .ok (.goto (-86), 3) := by decide +kernel
theorem dX1_contraries_109 : decode cX1_contraries 109 = .ok (.iinc 1 1, 3) := by decide +kernel
theorem dX1_contraries_112 : decode cX1_contraries 112 = .ok (.goto (-110), 3) := by decide +kernel
theorem dX1_contraries_115 : decode cX1_contraries 115 = .ok (.iconst (-1), 1) := by decide +kernel
theorem dX1_contraries_116 : decode cX1_contraries 116 = .ok (.ireturn, 1) := by decide +kernel
theorem wd_1090 : (Cond.code ⟨"WebCourt$Counsel", "contraries", "()I"⟩ prog_3_method_5_code (3 : Nat) (Option.some FieldType.int)) ∈ gtb := gtb_c5 21 (by decide +kernel) rfl
theorem wd_426 : (Cond.fieldLink "WebCourt$Counsel" (18 : Nat) "WebCourt$Counsel" "court" "LWebCourt$Court;") ∈ gtb := gtb_c2 77 (by decide +kernel) rfl
theorem wd_429 : (Cond.laysFinal "WebCourt$Counsel" "WebCourt$Counsel" "court" "LWebCourt$Court;") ∈ gtb := gtb_c2 80 (by decide +kernel) rfl
theorem wd_431 : (Cond.laysFinal "WebCourt$Counsel" "WebCourt$Counsel" "alone" "[I") ∈ gtb := gtb_c2 82 (by decide +kernel) rfl
theorem wd_433 : (Cond.laysFinal "WebCourt$Counsel" "WebCourt$Counsel" "otherAlone" "[I") ∈ gtb := gtb_c2 84 (by decide +kernel) rfl
theorem inFX1 : ∀ w ∈ u_ws RX1 TX1 3, w ∈ gtb := by
  show ∀ w ∈ [u_lay RX1 TX1 0, u_lay RX1 TX1 1, u_lay RX1 TX1 2], w ∈ gtb
  exact List.forall_mem_cons.mpr ⟨wd_429, List.forall_mem_cons.mpr ⟨wd_431, List.forall_mem_cons.mpr ⟨wd_433, fun _ h => absurd h List.not_mem_nil⟩⟩⟩
theorem gf_RX1_18 {p : Program} {l : Launch} {e : Env} {R : Room} {s : State} {m : MethodId} {args : Array Value} {below : List Frame} {meth : Method} {c : Code} {H : Heap} {locs : List Loc} {cells slots : Nat} {Q : State → Prop} {cc : ByteArray} {pc nL : Nat} {ls : Array Slot} {rest : List Value} {D : va_G} {cy : Nat → ClassId} {A : Nat → Prop} {ws : va_W} {b : Nat} {fs : List Value} {v : Value} (C : Cx p s m args c cc nL RX1 D cy A) (hO : Wo D A ws s.heap H locs) (q0 : Nat) (he : ws[q0]? = some (b, .inr (1, fs))) (hv : fs[0]? = some v) (hdg : decode cc pc = .ok (.getfield 18, 3)) (kk : W p l e R s m args below meth c H locs cells slots Q (F0 m (pc + 3) ls (v :: rest))) : W p l e R s m args below meth c H locs cells slots Q (F0 m pc ls (.ref b :: rest)) := gF (k := 0) C hO q0 he rfl inFX1 (by decide) wd_426 rfl hv hdg kk
theorem wd_360 : (Cond.fieldLink "WebCourt$Counsel" (34 : Nat) "WebCourt$Court" "web" "LWebCourt$Web;") ∈ gtb := gtb_c2 11 (by decide +kernel) rfl
theorem gf_RX1_34 {p : Program} {l : Launch} {e : Env} {R : Room} {s : State} {m : MethodId} {args : Array Value} {below : List Frame} {meth : Method} {c : Code} {H : Heap} {locs : List Loc} {cells slots : Nat} {Q : State → Prop} {cc : ByteArray} {pc nL : Nat} {ls : Array Slot} {rest : List Value} {D : va_G} {cy : Nat → ClassId} {A : Nat → Prop} {ws : va_W} {b : Nat} {fs : List Value} {v : Value} (C : Cx p s m args c cc nL RX1 D cy A) (hO : Wo D A ws s.heap H locs) (q0 : Nat) (he : ws[q0]? = some (b, .inr (2, fs))) (hv : fs[1]? = some v) (hdg : decode cc pc = .ok (.getfield 34, 3)) (kk : W p l e R s m args below meth c H locs cells slots Q (F0 m (pc + 3) ls (v :: rest))) : W p l e R s m args below meth c H locs cells slots Q (F0 m pc ls (.ref b :: rest)) := gF (k := 1) C hO q0 he rfl inFX2 (by decide) wd_360 rfl hv hdg kk
theorem wd_270 : (Cond.fieldLink "WebCourt$Counsel" (44 : Nat) "WebCourt$Web" "cases" "I") ∈ gtb := gtb_c1 161 (by decide +kernel) rfl
theorem gf_RX1_44 {p : Program} {l : Launch} {e : Env} {R : Room} {s : State} {m : MethodId} {args : Array Value} {below : List Frame} {meth : Method} {c : Code} {H : Heap} {locs : List Loc} {cells slots : Nat} {Q : State → Prop} {cc : ByteArray} {pc nL : Nat} {ls : Array Slot} {rest : List Value} {D : va_G} {cy : Nat → ClassId} {A : Nat → Prop} {ws : va_W} {b : Nat} {fs : List Value} {v : Value} (C : Cx p s m args c cc nL RX1 D cy A) (hO : Wo D A ws s.heap H locs) (q0 : Nat) (he : ws[q0]? = some (b, .inr (9, fs))) (hv : fs[12]? = some v) (hdg : decode cc pc = .ok (.getfield 44, 3)) (kk : W p l e R s m args below meth c H locs cells slots Q (F0 m (pc + 3) ls (v :: rest))) : W p l e R s m args below meth c H locs cells slots Q (F0 m pc ls (.ref b :: rest)) := gF (k := 12) C hO q0 he rfl inFX9 (by decide) wd_270 rfl hv hdg kk
set_option maxHeartbeats 4000000 in
set_option maxRecDepth 100000 in
theorem T_X1_contraries (l : Launch) (D : va_G) (cy : Nat → ClassId) (a : Nat → Nat) (u : St) (hI_3_12 : fI u 3 12 = 0) (hR_0 : fR u 0 = a 3)   : Mi l D cy (cW cy a) yX1_contraries (.code yX1_contraries cX1_contraries 3 (some .int)) (rmo 0 0) [.ref (a 36)] u (fun (r : Int32) (u' : St) => r = (-1) ∧ u' = u) := by
  refine Mi.of (own := RX1) rfl (by decide) (Nat.le_of_ble_eq_true rfl) ?_
  intro p e s m below meth c A Q ls C hret hO hl
  obtain ⟨hx, hb, hml, hown, ht, hK, hA⟩ := id C
  have hl : lv_has ls 3 [(0, .ref (a 36))] := hl
  refine lv_iconst (v := 0) hx hb dX1_contraries_0 (by decide) ?_
  refine lv_istore_n (lv' := [(1, .int 0), (0, .ref (a 36))]) hx hb dX1_contraries_1 rfl hl (by decide) rfl (fun ls hl => ?_)
  refine lv_iload_n hx hb dX1_contraries_2 rfl (lv_at hl 0 rfl) ?_
  refine lv_aload_n hx hb dX1_contraries_3 rfl (lv_at hl 1 rfl) ?_
  refine gf_RX1_18 (v := .ref (a 28)) C hO 36 cW_36 rfl dX1_contraries_4 ?_
  refine gf_RX1_34 (v := .ref (a 3)) C hO 28 cW_28 (congrArg (fun z : Nat => some (Value.ref z)) hR_0) dX1_contraries_7 ?_
  refine gf_RX1_44 (v := .int 0) C hO 3 cW_3 (congrArg (fun z : Int32 => some (Value.int z)) hI_3_12) dX1_contraries_10 ?_
  refine ct_ge (tgt := 115) (X := 0) (Y := 0) hx hb dX1_contraries_13 (by decide) rfl rfl (by omega) ?_
  refine lv_iconst (v := (-1)) hx hb dX1_contraries_115 (by decide) ?_
  refine hret _ _ _ _ _ _ dX1_contraries_116 rfl ?_ hO
  exact ⟨rfl, rfl⟩
theorem dX10_memberOf_0 : decode cX10_memberOf 0 = .ok (.iload_n 0, 1) := by decide +kernel
theorem dX10_memberOf_1 : decode cX10_memberOf 1 = .ok (.iconst (-1), 1) := by decide +kernel
theorem dX10_memberOf_2 : decode cX10_memberOf 2 = .ok (.if_icmp .eq 12, 3) := by decide +kernel
theorem dX10_memberOf_5 : decode cX10_memberOf 5 = .ok (.iload_n 1, 1) := by decide +kernel
theorem dX10_memberOf_6 : decode cX10_memberOf 6 = .ok (.ifCond .lt 8, 3) := by decide +kernel
theorem dX10_memberOf_9 : decode cX10_memberOf 9 = .ok (.iload_n 1, 1) := by decide +kernel
theorem dX10_memberOf_10 : decode cX10_memberOf 10 = .ok (.iconst 1, 1) := by decide +kernel
theorem dX10_memberOf_11 : decode cX10_memberOf 11 = .ok (.if_icmp .le 5, 3) := by decide +kernel
theorem dX10_memberOf_14 : decode cX10_memberOf 14 = .ok (.iconst (-1), 1) := by decide +kernel
theorem dX10_memberOf_15 : decode cX10_memberOf 15 = .ok (.ireturn, 1) := by decide +kernel
theorem dX10_memberOf_16 : decode cX10_memberOf 16 = .ok (.iload_n 1, 1) := by decide +kernel
theorem dX10_memberOf_17 : decode cX10_memberOf 17 = .ok (.ifCond .ne 10, 3) := by decide +kernel
theorem dX10_memberOf_20 : decode cX10_memberOf 20 = .ok (.iload_n 0, 1) := by decide +kernel
theorem dX10_memberOf_21 : decode cX10_memberOf 21 = .ok (.bipush 6, 2) := by decide +kernel
theorem dX10_memberOf_23 : decode cX10_memberOf 23 = .ok (.idiv, 1) := by decide +kernel
theorem dX10_memberOf_24 : decode cX10_memberOf 24 = .ok (.goto 7, 3) := by decide +kernel
theorem dX10_memberOf_27 : decode cX10_memberOf 27 = .ok (.iload_n 0, 1) := by decide +kernel
theorem dX10_memberOf_28 : decode cX10_memberOf 28 = .ok (.bipush 6, 2) := by decide +kernel
theorem dX10_memberOf_30 : decode cX10_memberOf 30 = .ok (.irem, 1) := by decide +kernel
theorem dX10_memberOf_31 : decode cX10_memberOf 31 = .ok (.ireturn, 1) := by decide +kernel
theorem wd_1102 : (Cond.code ⟨"WebCourt", "memberOf", "(II)I"⟩ prog_1_method_27_code (2 : Nat) (Option.some FieldType.int)) ∈ gtb := gtb_c5 33 (by decide +kernel) rfl
set_option maxHeartbeats 4000000 in
set_option maxRecDepth 100000 in
theorem T_X10_memberOf_m1 (l : Launch) (D : va_G) (cy : Nat → ClassId) (a : Nat → Nat) (u : St)  (x2 : Int32)  : Mi l D cy (cW cy a) yX10_memberOf (.code yX10_memberOf cX10_memberOf 2 (some .int)) (rmo 0 0) [.int (-1), .int x2] u (fun (r : Int32) (u' : St) => r = (-1) ∧ u' = u) := by
  refine Mi.of (own := RX10) rfl (by decide) (Nat.le_of_ble_eq_true rfl) ?_
  intro p e s m below meth c A Q ls C hret hO hl
  obtain ⟨hx, hb, hml, hown, ht, hK, hA⟩ := id C
  have hl : lv_has ls 2 [(0, .int (-1)), (1, .int x2)] := hl
  refine lv_iload_n hx hb dX10_memberOf_0 rfl (lv_at hl 0 rfl) ?_
  refine lv_iconst (v := (-1)) hx hb dX10_memberOf_1 (by decide) ?_
  refine ct_eq (tgt := 14) (X := (-1)) (Y := (-1)) hx hb dX10_memberOf_2 (by decide) rfl rfl (by omega) ?_
  refine lv_iconst (v := (-1)) hx hb dX10_memberOf_14 (by decide) ?_
  refine hret _ _ _ _ _ _ dX10_memberOf_15 rfl ?_ hO
  exact ⟨rfl, rfl⟩
theorem dX10_contrary_0 : decode cX10_contrary 0 = .ok (.aload_n 0, 1) := by decide +kernel
theorem dX10_contrary_1 : decode cX10_contrary 1 = .ok (.getfield 69, 3) := by decide +kernel
theorem dX10_contrary_4 : decode cX10_contrary 4 = .ok (.invokevirtual 239, 3) := by decide +kernel
theorem dX10_contrary_7 : decode cX10_contrary 7 = .ok (.iload_n 1, 1) := by decide +kernel
theorem dX10_contrary_8 : decode cX10_contrary 8 = .ok (.invokestatic 242, 3) := by decide +kernel
theorem dX10_contrary_11 : decode cX10_contrary 11 = .ok (.ireturn, 1) := by decide +kernel
theorem wd_1086 : (Cond.code ⟨"WebCourt", "contrary", "(I)I"⟩ prog_1_method_26_code (2 : Nat) (Option.some FieldType.int)) ∈ gtb := gtb_c5 17 (by decide +kernel) rfl
theorem wd_474 : (Cond.fieldLink "WebCourt" (69 : Nat) "WebCourt" "counsel" "LWebCourt$Counsel;") ∈ gtb := gtb_c2 125 (by decide +kernel) rfl
theorem gf_RX10_69 {p : Program} {l : Launch} {e : Env} {R : Room} {s : State} {m : MethodId} {args : Array Value} {below : List Frame} {meth : Method} {c : Code} {H : Heap} {locs : List Loc} {cells slots : Nat} {Q : State → Prop} {cc : ByteArray} {pc nL : Nat} {ls : Array Slot} {rest : List Value} {D : va_G} {cy : Nat → ClassId} {A : Nat → Prop} {ws : va_W} {b : Nat} {fs : List Value} {v : Value} (C : Cx p s m args c cc nL RX10 D cy A) (hO : Wo D A ws s.heap H locs) (q0 : Nat) (he : ws[q0]? = some (b, .inr (10, fs))) (hv : fs[6]? = some v) (hdg : decode cc pc = .ok (.getfield 69, 3)) (kk : W p l e R s m args below meth c H locs cells slots Q (F0 m (pc + 3) ls (v :: rest))) : W p l e R s m args below meth c H locs cells slots Q (F0 m pc ls (.ref b :: rest)) := gF (k := 6) C hO q0 he rfl inFX10 (by decide) wd_474 rfl hv hdg kk
theorem wd_1087 : (Cond.methodLink "WebCourt" (239 : Nat) ⟨"WebCourt$Counsel", "contraries", "()I"⟩) ∈ gtb := gtb_c5 18 (by decide +kernel) rfl
theorem wd_1088 : (Cond.instanceMethod ⟨"WebCourt$Counsel", "contraries", "()I"⟩) ∈ gtb := gtb_c5 19 (by decide +kernel) rfl
theorem wd_1089 : (Cond.selects "WebCourt$Counsel" ⟨"WebCourt$Counsel", "contraries", "()I"⟩ ⟨"WebCourt$Counsel", "contraries", "()I"⟩) ∈ gtb := gtb_c5 20 (by decide +kernel) rfl
theorem wd_119 : (Cond.initialized "WebCourt$Counsel") ∈ gtb := gtb_c1 10 (by decide +kernel) rfl
theorem hd_yX1_contraries : yX1_contraries.cls = RX1 ∧ yX1_contraries.cls ≠ "java/lang/invoke/MethodHandle" ∧ yX1_contraries.cls ≠ "java/lang/invoke/VarHandle" ∧ (parseMethodDescriptor yX1_contraries.desc).map (fun d => d.parameters.length) = some 0 := by decide +kernel
theorem wd_1100 : (Cond.methodLink "WebCourt" (242 : Nat) ⟨"WebCourt", "memberOf", "(II)I"⟩) ∈ gtb := gtb_c5 31 (by decide +kernel) rfl
theorem wd_1101 : (Cond.static ⟨"WebCourt", "memberOf", "(II)I"⟩) ∈ gtb := gtb_c5 32 (by decide +kernel) rfl
theorem gSS {own : String} {idx : Nat} {y : MethodName} {cw : Cond} (h1 : Cond.methodLink own idx y ∈ gtb) (h2 : Cond.static y ∈ gtb) (h3 : Cond.initialized y.cls ∈ gtb) (h5 : cw ∈ gtb) : GoodIn gtb (va_wsS own idx y (cw :: gtb)) := by
  intro w hw
  rcases List.mem_append.mp hw with hw | hw
  · rcases List.mem_cons.mp hw with e | hw
    · subst e; exact ⟨h1, gtb_good h1⟩
    · rcases List.mem_cons.mp hw with e | hw
      · subst e; exact ⟨h2, gtb_good h2⟩
      · rcases List.mem_cons.mp hw with e | hw
        · subst e; exact ⟨h3, gtb_good h3⟩
        · cases hw
  · exact gGood h5 w hw
theorem hd_yX10_memberOf : yX10_memberOf.cls ≠ "java/lang/invoke/MethodHandle" ∧ yX10_memberOf.cls ≠ "java/lang/invoke/VarHandle" ∧ (parseMethodDescriptor yX10_memberOf.desc).map (fun d => d.parameters.length) = some 2 := by decide +kernel
set_option maxHeartbeats 4000000 in
set_option maxRecDepth 100000 in
theorem T_X10_contrary (l : Launch) (D : va_G) (cy : Nat → ClassId) (a : Nat → Nat) (u : St) (hI_3_12 : fI u 3 12 = 0) (hR_0 : fR u 0 = a 3) (x1 : Int32)  : Mi l D cy (cW cy a) yX10_contrary (.code yX10_contrary cX10_contrary 2 (some .int)) (rmo 1 22) [.ref (a 0), .int x1] u (fun (r : Int32) (u' : St) => r = (-1) ∧ u' = u) := by
  refine Mi.of (own := RX10) rfl (by decide) (Nat.le_of_ble_eq_true rfl) ?_
  intro p e s m below meth c A Q ls C hret hO hl
  obtain ⟨hx, hb, hml, hown, ht, hK, hA⟩ := id C
  have hl : lv_has ls 2 [(0, .ref (a 0)), (1, .int x1)] := hl
  refine lv_aload_n hx hb dX10_contrary_0 rfl (lv_at hl 0 rfl) ?_
  refine gf_RX10_69 (v := .ref (a 36)) C hO 0 cW_0 rfl dX10_contrary_1 ?_
  refine cVi (w := cW cy a) (As := []) (rest := []) C hO (T_X1_contraries l D cy a _ (by exact hI_3_12) (by exact hR_0)) (cwV 0 ht (gV wd_1087 wd_1088 wd_1089 wd_119 wd_1090) rfl rfl rfl hd_yX1_contraries ⟨Nat.le_of_ble_eq_true rfl, Nat.le_of_ble_eq_true rfl⟩) 36 rfl cW_36 rfl rfl hl.1 (Nat.le_of_ble_eq_true rfl) dX10_contrary_4 rfl ⟨Nat.zero_le _, Nat.zero_le _⟩ (fun r1 u2 H locs hp3 hO => ?_)
  obtain ⟨hr1, hu2⟩ := hp3
  subst hr1
  rw [hu2] at hO
  refine lv_iload_n hx hb dX10_contrary_7 rfl (lv_at hl 1 rfl) ?_
  refine cSi (w := cW cy a) (As := [.int (-1), .int x1]) (rest := []) C hO (T_X10_memberOf_m1 l D cy a _ (x1)) (va_cwS 2 ht (gSS wd_1100 wd_1101 wd_110 wd_1102) rfl rfl rfl hd_yX10_memberOf ⟨Nat.le_of_ble_eq_true rfl, Nat.le_of_ble_eq_true rfl⟩)  rfl hl.1 (Nat.le_of_ble_eq_true rfl) dX10_contrary_8 rfl ⟨Nat.zero_le _, Nat.zero_le _⟩ (fun r4 u5 H locs hp6 hO => ?_)
  obtain ⟨hr4, hu5⟩ := hp6
  subst hr4
  rw [hu5] at hO
  refine hret _ _ _ _ _ _ dX10_contrary_11 rfl ?_ hO
  exact ⟨rfl, rfl⟩
theorem dX1_withoutHope_0 : decode cX1_withoutHope 0 = .ok (.iconst 1, 1) := by decide +kernel
theorem dX1_withoutHope_1 : decode cX1_withoutHope 1 = .ok (.aload_n 0, 1) := by decide +kernel
theorem dX1_withoutHope_2 : decode cX1_withoutHope 2 = .ok (.getfield 18, 3) := by decide +kernel
theorem dX1_withoutHope_5 : decode cX1_withoutHope 5 = .ok (.getfield 34, 3) := by decide +kernel
theorem dX1_withoutHope_8 : decode cX1_withoutHope 8 = .ok (.getfield 38, 3) := by decide +kernel
theorem dX1_withoutHope_11 : decode cX1_withoutHope 11 = .ok (.ishl, 1) := by decide +kernel
theorem dX1_withoutHope_12 : decode cX1_withoutHope 12 = .ok (.iconst 1, 1) := by decide +kernel
theorem dX1_withoutHope_13 : decode cX1_withoutHope 13 = .ok (.isub, 1) := by decide +kernel
theorem dX1_withoutHope_14 : decode cX1_withoutHope 14 = .ok (.istore_n 1, 1) := by decide +kernel
theorem dX1_withoutHope_15 : decode cX1_withoutHope 15 = .ok (.iconst 0, 1) := by decide +kernel
theorem dX1_withoutHope_16 : decode cX1_withoutHope 16 = .ok (.istore_n 2, 1) := by decide +kernel
theorem dX1_withoutHope_17 : decode cX1_withoutHope 17 = .ok (.iconst 0, 1) := by decide +kernel
theorem dX1_withoutHope_18 : decode cX1_withoutHope 18 = .ok (.istore_n 3, 1) := by decide +kernel
theorem dX1_withoutHope_19 : decode cX1_withoutHope 19 = .ok (.iload_n 3, 1) := by decide +kernel
theorem dX1_withoutHope_20 : decode cX1_withoutHope 20 = .ok (.aload_n 0, 1) := by decide +kernel
theorem dX1_withoutHope_21 : decode cX1_withoutHope 21 = .ok (.getfield 18, 3) := by decide +kernel
theorem dX1_withoutHope_24 : decode cX1_withoutHope 24 = .ok (.getfield 34, 3) := by decide +kernel
theorem dX1_withoutHope_27 : decode cX1_withoutHope 27 = .ok (.getfield 44, 3) := by decide +kernel
theorem dX1_withoutHope_30 : decode cX1_withoutHope 30 = .ok (.if_icmp .ge 35, 3) := by decide +kernel
theorem dX1_withoutHope_33 : decode cX1_withoutHope 33 = .ok (.aload_n 0, 1) := by decide +kernel
theorem dX1_withoutHope_34 : decode cX1_withoutHope 34 = .ok (.getfield 18, 3) := by decide +kernel
theorem dX1_withoutHope_37 : decode cX1_withoutHope 37 = .ok (.iload_n 3, 1) := by decide +kernel
theorem dX1_withoutHope_38 : decode cX1_withoutHope 38 = .ok (.invokevirtual 47, 3) := by decide +kernel
theorem dX1_withoutHope_41 : decode cX1_withoutHope 41 = .ok (.ifCond .eq 18, 3) := by decide +kernel
theorem dX1_withoutHope_44 : decode cX1_withoutHope 44 = .ok (.aload_n 0, 1) := by decide +kernel
theorem dX1_withoutHope_45 : decode cX1_withoutHope 45 = .ok (.iload_n 3, 1) := by decide +kernel
theorem dX1_withoutHope_46 : decode cX1_withoutHope 46 = .ok (.iload_n 1, 1) := by decide +kernel
theorem dX1_withoutHope_47 : decode cX1_withoutHope 47 = .ok (.invokevirtual 51, 3) := by decide +kernel
theorem dX1_withoutHope_50 : decode cX1_withoutHope 50 = .ok (.ifCond .ne 9, 3) := by decide +kernel
theorem dX1_withoutHope_53 : decode cX1_withoutHope 53 = .ok (.iload_n 2, 1) := by decide +kernel
theorem dX1_withoutHope_54 : decode cX1_withoutHope 54 = .ok (.iconst 1, 1) := by decide +kernel
theorem dX1_withoutHope_55 : decode cX1_withoutHope 55 = .ok (.iload_n 3, 1) := by decide +kernel
theorem dX1_withoutHope_56 : decode cX1_withoutHope 56 = .ok (.ishl, 1) := by decide +kernel
theorem dX1_withoutHope_57 : decode cX1_withoutHope 57 = .ok (.ior, 1) := by decide +kernel
theorem dX1_withoutHope_58 : decode cX1_withoutHope 58 = .ok (.istore_n 2, 1) := by decide +kernel
theorem dX1_withoutHope_59 : decode cX1_withoutHope 59 = .ok (.iinc 3 1, 3) := by decide +kernel
theorem dX1_withoutHope_62 : decode cX1_withoutHope 62 = .ok (.goto (-43), 3) := by decide +kernel
theorem dX1_withoutHope_65 : decode cX1_withoutHope 65 = .ok (.iload_n 2, 1) := by decide +kernel
theorem dX1_withoutHope_66 : decode cX1_withoutHope 66 = .ok (.ireturn, 1) := by decide +kernel
theorem wd_1110 : (Cond.code ⟨"WebCourt$Counsel", "withoutHope", "()I"⟩ prog_3_method_3_code (4 : Nat) (Option.some FieldType.int)) ∈ gtb := gtb_c5 41 (by decide +kernel) rfl
theorem wd_262 : (Cond.fieldLink "WebCourt$Counsel" (38 : Nat) "WebCourt$Web" "pleas" "I") ∈ gtb := gtb_c1 153 (by decide +kernel) rfl
theorem gf_RX1_38 {p : Program} {l : Launch} {e : Env} {R : Room} {s : State} {m : MethodId} {args : Array Value} {below : List Frame} {meth : Method} {c : Code} {H : Heap} {locs : List Loc} {cells slots : Nat} {Q : State → Prop} {cc : ByteArray} {pc nL : Nat} {ls : Array Slot} {rest : List Value} {D : va_G} {cy : Nat → ClassId} {A : Nat → Prop} {ws : va_W} {b : Nat} {fs : List Value} {v : Value} (C : Cx p s m args c cc nL RX1 D cy A) (hO : Wo D A ws s.heap H locs) (q0 : Nat) (he : ws[q0]? = some (b, .inr (9, fs))) (hv : fs[11]? = some v) (hdg : decode cc pc = .ok (.getfield 38, 3)) (kk : W p l e R s m args below meth c H locs cells slots Q (F0 m (pc + 3) ls (v :: rest))) : W p l e R s m args below meth c H locs cells slots Q (F0 m pc ls (.ref b :: rest)) := gF (k := 11) C hO q0 he rfl inFX9 (by decide) wd_262 rfl hv hdg kk
set_option maxHeartbeats 4000000 in
set_option maxRecDepth 100000 in
theorem T_X1_withoutHope (l : Launch) (D : va_G) (cy : Nat → ClassId) (a : Nat → Nat) (u : St) (hI_3_11 : fI u 3 11 = 0) (hI_3_12 : fI u 3 12 = 0) (hR_0 : fR u 0 = a 3)   : Mi l D cy (cW cy a) yX1_withoutHope (.code yX1_withoutHope cX1_withoutHope 4 (some .int)) (rmo 0 0) [.ref (a 36)] u (fun (r : Int32) (u' : St) => r = 0 ∧ u' = u) := by
  refine Mi.of (own := RX1) rfl (by decide) (Nat.le_of_ble_eq_true rfl) ?_
  intro p e s m below meth c A Q ls C hret hO hl
  obtain ⟨hx, hb, hml, hown, ht, hK, hA⟩ := id C
  have hl : lv_has ls 4 [(0, .ref (a 36))] := hl
  refine lv_iconst (v := 1) hx hb dX1_withoutHope_0 (by decide) ?_
  refine lv_aload_n hx hb dX1_withoutHope_1 rfl (lv_at hl 0 rfl) ?_
  refine gf_RX1_18 (v := .ref (a 28)) C hO 36 cW_36 rfl dX1_withoutHope_2 ?_
  refine gf_RX1_34 (v := .ref (a 3)) C hO 28 cW_28 (congrArg (fun z : Nat => some (Value.ref z)) hR_0) dX1_withoutHope_5 ?_
  refine gf_RX1_38 (v := .int 0) C hO 3 cW_3 (congrArg (fun z : Int32 => some (Value.int z)) hI_3_11) dX1_withoutHope_8 ?_
  refine lv_ishl hx hb dX1_withoutHope_11 ?_
  refine tE (y := 1) (by decide) ?_
  refine lv_iconst (v := 1) hx hb dX1_withoutHope_12 (by decide) ?_
  refine lv_isub hx hb dX1_withoutHope_13 ?_
  refine tE (y := 0) rfl ?_
  refine lv_istore_n (lv' := [(1, .int 0), (0, .ref (a 36))]) hx hb dX1_withoutHope_14 rfl hl (by decide) rfl (fun ls hl => ?_)
  refine lv_iconst (v := 0) hx hb dX1_withoutHope_15 (by decide) ?_
  refine lv_istore_n (lv' := [(2, .int 0), (1, .int 0), (0, .ref (a 36))]) hx hb dX1_withoutHope_16 rfl hl (by decide) rfl (fun ls hl => ?_)
  refine lv_iconst (v := 0) hx hb dX1_withoutHope_17 (by decide) ?_
  refine lv_istore_n (lv' := [(3, .int 0), (2, .int 0), (1, .int 0), (0, .ref (a 36))]) hx hb dX1_withoutHope_18 rfl hl (by decide) rfl (fun ls hl => ?_)
  refine lv_iload_n hx hb dX1_withoutHope_19 rfl (lv_at hl 0 rfl) ?_
  refine lv_aload_n hx hb dX1_withoutHope_20 rfl (lv_at hl 3 rfl) ?_
  refine gf_RX1_18 (v := .ref (a 28)) C hO 36 cW_36 rfl dX1_withoutHope_21 ?_
  refine gf_RX1_34 (v := .ref (a 3)) C hO 28 cW_28 (congrArg (fun z : Nat => some (Value.ref z)) hR_0) dX1_withoutHope_24 ?_
  refine gf_RX1_44 (v := .int 0) C hO 3 cW_3 (congrArg (fun z : Int32 => some (Value.int z)) hI_3_12) dX1_withoutHope_27 ?_
  refine ct_ge (tgt := 65) (X := 0) (Y := 0) hx hb dX1_withoutHope_30 (by decide) rfl rfl (by omega) ?_
  refine lv_iload_n hx hb dX1_withoutHope_65 rfl (lv_at hl 1 rfl) ?_
  refine hret _ _ _ _ _ _ dX1_withoutHope_66 rfl ?_ hO
  exact ⟨rfl, rfl⟩
theorem dX10_hopeless_0 : decode cX10_hopeless 0 = .ok (.aload_n 0, 1) := by decide +kernel
theorem dX10_hopeless_1 : decode cX10_hopeless 1 = .ok (.getfield 69, 3) := by decide +kernel
theorem dX10_hopeless_4 : decode cX10_hopeless 4 = .ok (.invokevirtual 245, 3) := by decide +kernel
theorem dX10_hopeless_7 : decode cX10_hopeless 7 = .ok (.ireturn, 1) := by decide +kernel
theorem wd_1106 : (Cond.code ⟨"WebCourt", "hopeless", "()I"⟩ prog_1_method_28_code (1 : Nat) (Option.some FieldType.int)) ∈ gtb := gtb_c5 37 (by decide +kernel) rfl
theorem wd_1107 : (Cond.methodLink "WebCourt" (245 : Nat) ⟨"WebCourt$Counsel", "withoutHope", "()I"⟩) ∈ gtb := gtb_c5 38 (by decide +kernel) rfl
theorem wd_1108 : (Cond.instanceMethod ⟨"WebCourt$Counsel", "withoutHope", "()I"⟩) ∈ gtb := gtb_c5 39 (by decide +kernel) rfl
theorem wd_1109 : (Cond.selects "WebCourt$Counsel" ⟨"WebCourt$Counsel", "withoutHope", "()I"⟩ ⟨"WebCourt$Counsel", "withoutHope", "()I"⟩) ∈ gtb := gtb_c5 40 (by decide +kernel) rfl
theorem hd_yX1_withoutHope : yX1_withoutHope.cls = RX1 ∧ yX1_withoutHope.cls ≠ "java/lang/invoke/MethodHandle" ∧ yX1_withoutHope.cls ≠ "java/lang/invoke/VarHandle" ∧ (parseMethodDescriptor yX1_withoutHope.desc).map (fun d => d.parameters.length) = some 0 := by decide +kernel
set_option maxHeartbeats 4000000 in
set_option maxRecDepth 100000 in
theorem T_X10_hopeless (l : Launch) (D : va_G) (cy : Nat → ClassId) (a : Nat → Nat) (u : St) (hI_3_11 : fI u 3 11 = 0) (hI_3_12 : fI u 3 12 = 0) (hR_0 : fR u 0 = a 3)   : Mi l D cy (cW cy a) yX10_hopeless (.code yX10_hopeless cX10_hopeless 1 (some .int)) (rmo 1 23) [.ref (a 0)] u (fun (r : Int32) (u' : St) => r = 0 ∧ u' = u) := by
  refine Mi.of (own := RX10) rfl (by decide) (Nat.le_of_ble_eq_true rfl) ?_
  intro p e s m below meth c A Q ls C hret hO hl
  obtain ⟨hx, hb, hml, hown, ht, hK, hA⟩ := id C
  have hl : lv_has ls 1 [(0, .ref (a 0))] := hl
  refine lv_aload_n hx hb dX10_hopeless_0 rfl (lv_at hl 0 rfl) ?_
  refine gf_RX10_69 (v := .ref (a 36)) C hO 0 cW_0 rfl dX10_hopeless_1 ?_
  refine cVi (w := cW cy a) (As := []) (rest := []) C hO (T_X1_withoutHope l D cy a _ (by exact hI_3_11) (by exact hI_3_12) (by exact hR_0)) (cwV 0 ht (gV wd_1107 wd_1108 wd_1109 wd_119 wd_1110) rfl rfl rfl hd_yX1_withoutHope ⟨Nat.le_of_ble_eq_true rfl, Nat.le_of_ble_eq_true rfl⟩) 36 rfl cW_36 rfl rfl hl.1 (Nat.le_of_ble_eq_true rfl) dX10_hopeless_4 rfl ⟨Nat.zero_le _, Nat.zero_le _⟩ (fun r1 u2 H locs hp3 hO => ?_)
  obtain ⟨hr1, hu2⟩ := hp3
  subst hr1
  rw [hu2] at hO
  refine hret _ _ _ _ _ _ dX10_hopeless_7 rfl ?_ hO
  exact ⟨rfl, rfl⟩
theorem dX10_rivals_0 : decode cX10_rivals 0 = .ok (.aload_n 0, 1) := by decide +kernel
theorem dX10_rivals_1 : decode cX10_rivals 1 = .ok (.iconst 0, 1) := by decide +kernel
theorem dX10_rivals_2 : decode cX10_rivals 2 = .ok (.putfield 111, 3) := by decide +kernel
theorem dX10_rivals_5 : decode cX10_rivals 5 = .ok (.iload_n 1, 1) := by decide +kernel
theorem dX10_rivals_6 : decode cX10_rivals 6 = .ok (.iload_n 2, 1) := by decide +kernel
theorem dX10_rivals_7 : decode cX10_rivals 7 = .ok (.if_icmp .eq 38, 3) := by decide +kernel
theorem dX10_rivals_10 : decode cX10_rivals 10 = .ok (.aload_n 0, 1) := by decide +kernel
theorem dX10_rivals_11 : decode cX10_rivals 11 = .ok (.getfield 37, 3) := by decide +kernel
theorem dX10_rivals_14 : decode cX10_rivals 14 = .ok (.iload_n 1, 1) := by decide +kernel
theorem dX10_rivals_15 : decode cX10_rivals 15 = .ok (.invokevirtual 189, 3) := by decide +kernel
theorem dX10_rivals_18 : decode cX10_rivals 18 = .ok (.ifCond .eq 27, 3) := by decide +kernel
theorem dX10_rivals_21 : decode cX10_rivals 21 = .ok (.aload_n 0, 1) := by decide +kernel
theorem dX10_rivals_22 : decode cX10_rivals 22 = .ok (.getfield 37, 3) := by decide +kernel
theorem dX10_rivals_25 : decode cX10_rivals 25 = .ok (.iload_n 2, 1) := by decide +kernel
theorem dX10_rivals_26 : decode cX10_rivals 26 = .ok (.invokevirtual 189, 3) := by decide +kernel
theorem dX10_rivals_29 : decode cX10_rivals 29 = .ok (.ifCond .eq 16, 3) := by decide +kernel
theorem dX10_rivals_32 : decode cX10_rivals 32 = .ok (.aload_n 0, 1) := by decide +kernel
theorem dX10_rivals_33 : decode cX10_rivals 33 = .ok (.getfield 37, 3) := by decide +kernel
theorem dX10_rivals_36 : decode cX10_rivals 36 = .ok (.getfield 101, 3) := by decide +kernel
theorem dX10_rivals_39 : decode cX10_rivals 39 = .ok (.getfield 206, 3) := by decide +kernel
theorem dX10_rivals_42 : decode cX10_rivals 42 = .ok (.ifCond .ne 5, 3) := by decide +kernel
theorem dX10_rivals_45 : decode cX10_rivals 45 = .ok (.iconst (-1), 1) := by decide +kernel
theorem dX10_rivals_46 : decode cX10_rivals 46 = .ok (.ireturn, 1) := by decide +kernel
theorem dX10_rivals_47 : decode cX10_rivals 47 = .ok (.aload_n 0, 1) := by decide +kernel
theorem dX10_rivals_48 : decode cX10_rivals 48 = .ok (.getfield 69, 3) := by decide +kernel
theorem dX10_rivals_51 : decode cX10_rivals 51 = .ok (.iload_n 1, 1) := by decide +kernel
theorem dX10_rivals_52 : decode cX10_rivals 52 = .ok (.iload_n 2, 1) := by decide +kernel
theorem dX10_rivals_53 : decode cX10_rivals 53 = .ok (.aload_n 0, 1) := by decide +kernel
theorem dX10_rivals_54 : decode cX10_rivals 54 = .ok (.getfield 85, 3) := by decide +kernel
theorem dX10_rivals_57 : decode cX10_rivals 57 = .ok (.invokevirtual 248, 3) := by decide +kernel
theorem dX10_rivals_60 : decode cX10_rivals 60 = .ok (.istore_n 3, 1) := by decide +kernel
theorem dX10_rivals_61 : decode cX10_rivals 61 = .ok (.aload_n 0, 1) := by decide +kernel
theorem dX10_rivals_62 : decode cX10_rivals 62 = .ok (.iload_n 3, 1) := by decide +kernel
theorem dX10_rivals_63 : decode cX10_rivals 63 = .ok (.ifCond .le 7, 3) := by decide +kernel
theorem dX10_rivals_66 : decode cX10_rivals 66 = .ok (.iconst 2, 1) := by decide +kernel
theorem dX10_rivals_67 : decode cX10_rivals 67 = .ok (.goto 4, 3) := by decide +kernel
theorem dX10_rivals_70 : decode cX10_rivals 70 = .ok (.iconst 0, 1) := by decide +kernel
theorem dX10_rivals_71 : decode cX10_rivals 71 = .ok (.putfield 111, 3) := by decide +kernel
theorem dX10_rivals_74 : decode cX10_rivals 74 = .ok (.iload_n 3, 1) := by decide +kernel
theorem dX10_rivals_75 : decode cX10_rivals 75 = .ok (.ireturn, 1) := by decide +kernel
theorem wd_1115 : (Cond.code ⟨"WebCourt", "rivals", "(II)I"⟩ prog_1_method_29_code (4 : Nat) (Option.some FieldType.int)) ∈ gtb := gtb_c5 46 (by decide +kernel) rfl
set_option maxHeartbeats 4000000 in
set_option maxRecDepth 100000 in
theorem T_X10_rivals (l : Launch) (D : va_G) (cy : Nat → ClassId) (a : Nat → Nat) (u : St) (hI_3_12 : fI u 3 12 = 0) (hR_0 : fR u 0 = a 3) (x1 : Int32) (x2 : Int32)  : Mi l D cy (cW cy a) yX10_rivals (.code yX10_rivals cX10_rivals 4 (some .int)) (rmo 2 42) [.ref (a 0), .int x1, .int x2] u (fun (r : Int32) (u' : St) => r = (-1) ∧ u' = (sI u 0 10 0)) := by
  refine Mi.of (own := RX10) rfl (by decide) (Nat.le_of_ble_eq_true rfl) ?_
  intro p e s m below meth c A Q ls C hret hO hl
  obtain ⟨hx, hb, hml, hown, ht, hK, hA⟩ := id C
  have hl : lv_has ls 4 [(0, .ref (a 0)), (1, .int x1), (2, .int x2)] := hl
  refine lv_aload_n hx hb dX10_rivals_0 rfl (lv_at hl 0 rfl) ?_
  refine lv_iconst (v := 0) hx hb dX10_rivals_1 (by decide) ?_
  refine pf_RX10_111 C hO 0 cW_0 (Nat.le_of_ble_eq_true rfl) cW_s0_10 dX10_rivals_2 (fun H locs hO => ?_)
  refine lv_iload_n hx hb dX10_rivals_5 rfl (lv_at hl 1 rfl) ?_
  refine lv_iload_n hx hb dX10_rivals_6 rfl (lv_at hl 2 rfl) ?_
  refine cs_eq (tgt := 45) (X := (x1).toInt) (Y := (x2).toInt) hx hb dX10_rivals_7 (by decide) rfl rfl (fun c1 => ?_) (fun c1 => ?_)
  · refine lv_iconst (v := (-1)) hx hb dX10_rivals_45 (by decide) ?_
    refine hret _ _ _ _ _ _ dX10_rivals_46 rfl ?_ hO
    exact ⟨rfl, rfl⟩
  · refine lv_aload_n hx hb dX10_rivals_10 rfl (lv_at hl 0 rfl) ?_
    refine gf_RX10_37 (v := .ref (a 28)) C hO 0 cW_0 rfl dX10_rivals_11 ?_
    refine lv_iload_n hx hb dX10_rivals_14 rfl (lv_at hl 1 rfl) ?_
    refine cVi (w := cW cy a) (As := [.int x1]) (rest := []) C hO (T_X2_isHeld l D cy a _ (by exact hI_3_12) (by exact hR_0) (x1)) (cwV 1 ht (gV wd_961 wd_930 wd_931 wd_115 wd_932) rfl rfl rfl hd_yX2_isHeld ⟨Nat.le_of_ble_eq_true rfl, Nat.le_of_ble_eq_true rfl⟩) 28 rfl cW_28 rfl rfl hl.1 (Nat.le_of_ble_eq_true rfl) dX10_rivals_15 rfl ⟨Nat.zero_le _, Nat.zero_le _⟩ (fun r2 u3 H locs hp4 hO => ?_)
    obtain ⟨hr2, hu3⟩ := hp4
    subst hr2
    rw [hu3] at hO
    refine bt_eq (tgt := 45) (X := 0) hx hb dX10_rivals_18 (by decide) rfl (by omega) ?_
    refine lv_iconst (v := (-1)) hx hb dX10_rivals_45 (by decide) ?_
    refine hret _ _ _ _ _ _ dX10_rivals_46 rfl ?_ hO
    exact ⟨rfl, rfl⟩
theorem dX8_bridgeLine_0 : decode cX8_bridgeLine 0 = .ok (.iconst (-1), 1) := by decide +kernel
theorem dX8_bridgeLine_1 : decode cX8_bridgeLine 1 = .ok (.istore_n 1, 1) := by decide +kernel
theorem dX8_bridgeLine_2 : decode cX8_bridgeLine 2 = .ok (.bipush 9, 2) := by decide +kernel
theorem dX8_bridgeLine_4 : decode cX8_bridgeLine 4 = .ok (.istore_n 2, 1) := by decide +kernel
theorem dX8_bridgeLine_5 : decode cX8_bridgeLine 5 = .ok (.iconst 0, 1) := by decide +kernel
theorem dX8_bridgeLine_6 : decode cX8_bridgeLine 6 = .ok (.istore_n 3, 1) := by decide +kernel
theorem dX8_bridgeLine_7 : decode cX8_bridgeLine 7 = .ok (.iload_n 3, 1) := by decide +kernel
theorem dX8_bridgeLine_8 : decode cX8_bridgeLine 8 = .ok (.aload_n 0, 1) := by decide +kernel
theorem dX8_bridgeLine_9 : decode cX8_bridgeLine 9 = .ok (.getfield 15, 3) := by decide +kernel
theorem dX8_bridgeLine_12 : decode cX8_bridgeLine 12 = .ok (.getfield 44, 3) := by decide +kernel
theorem dX8_bridgeLine_15 : decode cX8_bridgeLine 15 = .ok (.getfield 54, 3) := by decide +kernel
theorem dX8_bridgeLine_18 : decode cX8_bridgeLine 18 = .ok (.if_icmp .ge 46, 3) := by decide +kernel
theorem dX8_bridgeLine_21 : decode cX8_bridgeLine 21 = .ok (.aload_n 0, 1) := by decide +kernel
theorem dX8_bridgeLine_22 : decode cX8_bridgeLine 22 = .ok (.getfield 15, 3) := by decide +kernel
theorem dX8_bridgeLine_25 : decode cX8_bridgeLine 25 = .ok (.getfield 33, 3) := by decide +kernel
theorem dX8_bridgeLine_28 : decode cX8_bridgeLine 28 = .ok (.iconst 4, 1) := by decide +kernel
theorem dX8_bridgeLine_29 : decode cX8_bridgeLine 29 = .ok (.iaload, 1) := by decide +kernel
theorem dX8_bridgeLine_30 : decode cX8_bridgeLine 30 = .ok (.iload_n 3, 1) := by decide +kernel
theorem dX8_bridgeLine_31 : decode cX8_bridgeLine 31 = .ok (.ishr, 1) := by decide +kernel
theorem dX8_bridgeLine_32 : decode cX8_bridgeLine 32 = .ok (.iconst 1, 1) := by decide +kernel
theorem dX8_bridgeLine_33 : decode cX8_bridgeLine 33 = .ok (.iand, 1) := by decide +kernel
theorem dX8_bridgeLine_34 : decode cX8_bridgeLine 34 = .ok (.ifCond .eq 6, 3) := by decide +kernel
theorem dX8_bridgeLine_37 : decode cX8_bridgeLine 37 = .ok (.goto 21, 3) := by decide +kernel
theorem dX8_bridgeLine_40 : decode cX8_bridgeLine 40 = .ok (.aload_n 0, 1) := by decide +kernel
theorem dX8_bridgeLine_41 : decode cX8_bridgeLine 41 = .ok (.iload_n 3, 1) := by decide +kernel
theorem dX8_bridgeLine_42 : decode cX8_bridgeLine 42 = .ok (.invokevirtual 72, 3) := by decide +kernel
theorem dX8_bridgeLine_45 : decode cX8_bridgeLine 45 = .ok (.istore 4, 2) := by decide +kernel
theorem dX8_bridgeLine_47 : decode cX8_bridgeLine 47 = .ok (.iload 4, 2) := by decide +kernel
theorem dX8_bridgeLine_49 : decode cX8_bridgeLine 49 = .ok (.iload_n 2, 1) := by decide +kernel
theorem dX8_bridgeLine_50 : decode cX8_bridgeLine 50 = .ok (.if_icmp .ge 8, 3) := by decide +kernel
theorem dX8_bridgeLine_53 : decode cX8_bridgeLine 53 = .ok (.iload 4, 2) := by decide +kernel
theorem dX8_bridgeLine_55 : decode cX8_bridgeLine 55 = .ok (.istore_n 2, 1) := by decide +kernel
theorem dX8_bridgeLine_56 : decode cX8_bridgeLine 56 = .ok (.iload_n 3, 1) := by decide +kernel
theorem dX8_bridgeLine_57 : decode cX8_bridgeLine 57 = .ok (.istore_n 1, 1) := by decide +kernel
theorem dX8_bridgeLine_58 : decode cX8_bridgeLine 58 = .ok (.iinc 3 1, 3) := by decide +kernel
theorem dX8_bridgeLine_61 : decode cX8_bridgeLine 61 = .ok (.goto (-54), 3) := by decide +kernel
theorem dX8_bridgeLine_64 : decode cX8_bridgeLine 64 = .ok (.iload_n 1, 1) := by decide +kernel
theorem dX8_bridgeLine_65 : decode cX8_bridgeLine 65 = .ok (.ireturn, 1) := by decide +kernel
theorem wd_1131 : (Cond.code ⟨"WebCourt$Ways", "bridgeLine", "()I"⟩ prog_10_method_9_code (5 : Nat) (Option.some FieldType.int)) ∈ gtb := gtb_c5 62 (by decide +kernel) rfl
theorem wd_397 : (Cond.fieldLink "WebCourt$Ways" (15 : Nat) "WebCourt$Ways" "court" "LWebCourt$Court;") ∈ gtb := gtb_c2 48 (by decide +kernel) rfl
theorem wd_399 : (Cond.laysFinal "WebCourt$Ways" "WebCourt$Ways" "court" "LWebCourt$Court;") ∈ gtb := gtb_c2 50 (by decide +kernel) rfl
theorem wd_401 : (Cond.laysFinal "WebCourt$Ways" "WebCourt$Ways" "between" "[I") ∈ gtb := gtb_c2 52 (by decide +kernel) rfl
theorem inFX8 : ∀ w ∈ u_ws RX8 TX8 2, w ∈ gtb := by
  show ∀ w ∈ [u_lay RX8 TX8 0, u_lay RX8 TX8 1], w ∈ gtb
  exact List.forall_mem_cons.mpr ⟨wd_399, List.forall_mem_cons.mpr ⟨wd_401, fun _ h => absurd h List.not_mem_nil⟩⟩
theorem gf_RX8_15 {p : Program} {l : Launch} {e : Env} {R : Room} {s : State} {m : MethodId} {args : Array Value} {below : List Frame} {meth : Method} {c : Code} {H : Heap} {locs : List Loc} {cells slots : Nat} {Q : State → Prop} {cc : ByteArray} {pc nL : Nat} {ls : Array Slot} {rest : List Value} {D : va_G} {cy : Nat → ClassId} {A : Nat → Prop} {ws : va_W} {b : Nat} {fs : List Value} {v : Value} (C : Cx p s m args c cc nL RX8 D cy A) (hO : Wo D A ws s.heap H locs) (q0 : Nat) (he : ws[q0]? = some (b, .inr (8, fs))) (hv : fs[0]? = some v) (hdg : decode cc pc = .ok (.getfield 15, 3)) (kk : W p l e R s m args below meth c H locs cells slots Q (F0 m (pc + 3) ls (v :: rest))) : W p l e R s m args below meth c H locs cells slots Q (F0 m pc ls (.ref b :: rest)) := gF (k := 0) C hO q0 he rfl inFX8 (by decide) wd_397 rfl hv hdg kk
theorem wd_362 : (Cond.fieldLink "WebCourt$Ways" (44 : Nat) "WebCourt$Court" "web" "LWebCourt$Web;") ∈ gtb := gtb_c2 13 (by decide +kernel) rfl
theorem gf_RX8_44 {p : Program} {l : Launch} {e : Env} {R : Room} {s : State} {m : MethodId} {args : Array Value} {below : List Frame} {meth : Method} {c : Code} {H : Heap} {locs : List Loc} {cells slots : Nat} {Q : State → Prop} {cc : ByteArray} {pc nL : Nat} {ls : Array Slot} {rest : List Value} {D : va_G} {cy : Nat → ClassId} {A : Nat → Prop} {ws : va_W} {b : Nat} {fs : List Value} {v : Value} (C : Cx p s m args c cc nL RX8 D cy A) (hO : Wo D A ws s.heap H locs) (q0 : Nat) (he : ws[q0]? = some (b, .inr (2, fs))) (hv : fs[1]? = some v) (hdg : decode cc pc = .ok (.getfield 44, 3)) (kk : W p l e R s m args below meth c H locs cells slots Q (F0 m (pc + 3) ls (v :: rest))) : W p l e R s m args below meth c H locs cells slots Q (F0 m pc ls (.ref b :: rest)) := gF (k := 1) C hO q0 he rfl inFX2 (by decide) wd_362 rfl hv hdg kk
theorem wd_257 : (Cond.fieldLink "WebCourt$Ways" (54 : Nat) "WebCourt$Web" "lines" "I") ∈ gtb := gtb_c1 148 (by decide +kernel) rfl
theorem gf_RX8_54 {p : Program} {l : Launch} {e : Env} {R : Room} {s : State} {m : MethodId} {args : Array Value} {below : List Frame} {meth : Method} {c : Code} {H : Heap} {locs : List Loc} {cells slots : Nat} {Q : State → Prop} {cc : ByteArray} {pc nL : Nat} {ls : Array Slot} {rest : List Value} {D : va_G} {cy : Nat → ClassId} {A : Nat → Prop} {ws : va_W} {b : Nat} {fs : List Value} {v : Value} (C : Cx p s m args c cc nL RX8 D cy A) (hO : Wo D A ws s.heap H locs) (q0 : Nat) (he : ws[q0]? = some (b, .inr (9, fs))) (hv : fs[10]? = some v) (hdg : decode cc pc = .ok (.getfield 54, 3)) (kk : W p l e R s m args below meth c H locs cells slots Q (F0 m (pc + 3) ls (v :: rest))) : W p l e R s m args below meth c H locs cells slots Q (F0 m pc ls (.ref b :: rest)) := gF (k := 10) C hO q0 he rfl inFX9 (by decide) wd_257 rfl hv hdg kk
set_option maxHeartbeats 4000000 in
set_option maxRecDepth 100000 in
theorem T_X8_bridgeLine (l : Launch) (D : va_G) (cy : Nat → ClassId) (a : Nat → Nat) (u : St) (hI_3_10 : fI u 3 10 = 0) (hR_0 : fR u 0 = a 3)   : Mi l D cy (cW cy a) yX8_bridgeLine (.code yX8_bridgeLine cX8_bridgeLine 5 (some .int)) (rmo 0 0) [.ref (a 32)] u (fun (r : Int32) (u' : St) => r = (-1) ∧ u' = u) := by
  refine Mi.of (own := RX8) rfl (by decide) (Nat.le_of_ble_eq_true rfl) ?_
  intro p e s m below meth c A Q ls C hret hO hl
  obtain ⟨hx, hb, hml, hown, ht, hK, hA⟩ := id C
  have hl : lv_has ls 5 [(0, .ref (a 32))] := hl
  refine lv_iconst (v := (-1)) hx hb dX8_bridgeLine_0 (by decide) ?_
  refine lv_istore_n (lv' := [(1, .int (-1)), (0, .ref (a 32))]) hx hb dX8_bridgeLine_1 rfl hl (by decide) rfl (fun ls hl => ?_)
  refine lv_bipush (v := 9) hx hb dX8_bridgeLine_2 (by decide) ?_
  refine lv_istore_n (lv' := [(2, .int 9), (1, .int (-1)), (0, .ref (a 32))]) hx hb dX8_bridgeLine_4 rfl hl (by decide) rfl (fun ls hl => ?_)
  refine lv_iconst (v := 0) hx hb dX8_bridgeLine_5 (by decide) ?_
  refine lv_istore_n (lv' := [(3, .int 0), (2, .int 9), (1, .int (-1)), (0, .ref (a 32))]) hx hb dX8_bridgeLine_6 rfl hl (by decide) rfl (fun ls hl => ?_)
  refine lv_iload_n hx hb dX8_bridgeLine_7 rfl (lv_at hl 0 rfl) ?_
  refine lv_aload_n hx hb dX8_bridgeLine_8 rfl (lv_at hl 3 rfl) ?_
  refine gf_RX8_15 (v := .ref (a 28)) C hO 32 cW_32 rfl dX8_bridgeLine_9 ?_
  refine gf_RX8_44 (v := .ref (a 3)) C hO 28 cW_28 (congrArg (fun z : Nat => some (Value.ref z)) hR_0) dX8_bridgeLine_12 ?_
  refine gf_RX8_54 (v := .int 0) C hO 3 cW_3 (congrArg (fun z : Int32 => some (Value.int z)) hI_3_10) dX8_bridgeLine_15 ?_
  refine ct_ge (tgt := 64) (X := 0) (Y := 0) hx hb dX8_bridgeLine_18 (by decide) rfl rfl (by omega) ?_
  refine lv_iload_n hx hb dX8_bridgeLine_64 rfl (lv_at hl 2 rfl) ?_
  refine hret _ _ _ _ _ _ dX8_bridgeLine_65 rfl ?_ hO
  exact ⟨rfl, rfl⟩
theorem dX10_bridge_0 : decode cX10_bridge 0 = .ok (.aload_n 0, 1) := by decide +kernel
theorem dX10_bridge_1 : decode cX10_bridge 1 = .ok (.getfield 53, 3) := by decide +kernel
theorem dX10_bridge_4 : decode cX10_bridge 4 = .ok (.invokevirtual 252, 3) := by decide +kernel
theorem dX10_bridge_7 : decode cX10_bridge 7 = .ok (.istore_n 2, 1) := by decide +kernel
theorem dX10_bridge_8 : decode cX10_bridge 8 = .ok (.iload_n 2, 1) := by decide +kernel
theorem dX10_bridge_9 : decode cX10_bridge 9 = .ok (.iconst (-1), 1) := by decide +kernel
theorem dX10_bridge_10 : decode cX10_bridge 10 = .ok (.if_icmp .eq 12, 3) := by decide +kernel
theorem dX10_bridge_13 : decode cX10_bridge 13 = .ok (.iload_n 1, 1) := by decide +kernel
theorem dX10_bridge_14 : decode cX10_bridge 14 = .ok (.ifCond .lt 8, 3) := by decide +kernel
theorem dX10_bridge_17 : decode cX10_bridge 17 = .ok (.iload_n 1, 1) := by decide +kernel
theorem dX10_bridge_18 : decode cX10_bridge 18 = .ok (.iconst 1, 1) := by decide +kernel
theorem dX10_bridge_19 : decode cX10_bridge 19 = .ok (.if_icmp .le 5, 3) := by decide +kernel
theorem dX10_bridge_22 : decode cX10_bridge 22 = .ok (.iconst (-1), 1) := by decide +kernel
theorem dX10_bridge_23 : decode cX10_bridge 23 = .ok (.ireturn, 1) := by decide +kernel
theorem dX10_bridge_24 : decode cX10_bridge 24 = .ok (.iload_n 1, 1) := by decide +kernel
theorem dX10_bridge_25 : decode cX10_bridge 25 = .ok (.ifCond .ne 7, 3) := by decide +kernel
theorem dX10_bridge_28 : decode cX10_bridge 28 = .ok (.iload_n 2, 1) := by decide +kernel
theorem dX10_bridge_29 : decode cX10_bridge 29 = .ok (.goto 11, 3) := by decide +kernel
theorem dX10_bridge_32 : decode cX10_bridge 32 = .ok (.aload_n 0, 1) := by decide +kernel
theorem dX10_bridge_33 : decode cX10_bridge 33 = .ok (.getfield 53, 3) := by decide +kernel
theorem dX10_bridge_36 : decode cX10_bridge 36 = .ok (.iload_n 2, 1) := by decide +kernel
theorem dX10_bridge_37 : decode cX10_bridge 37 = .ok (.invokevirtual 255, 3) := by decide +kernel
theorem dX10_bridge_40 : decode cX10_bridge 40 = .ok (.ireturn, 1) := by decide +kernel
theorem wd_1127 : (Cond.code ⟨"WebCourt", "bridge", "(I)I"⟩ prog_1_method_30_code (3 : Nat) (Option.some FieldType.int)) ∈ gtb := gtb_c5 58 (by decide +kernel) rfl
theorem wd_472 : (Cond.fieldLink "WebCourt" (53 : Nat) "WebCourt" "ways" "LWebCourt$Ways;") ∈ gtb := gtb_c2 123 (by decide +kernel) rfl
theorem gf_RX10_53 {p : Program} {l : Launch} {e : Env} {R : Room} {s : State} {m : MethodId} {args : Array Value} {below : List Frame} {meth : Method} {c : Code} {H : Heap} {locs : List Loc} {cells slots : Nat} {Q : State → Prop} {cc : ByteArray} {pc nL : Nat} {ls : Array Slot} {rest : List Value} {D : va_G} {cy : Nat → ClassId} {A : Nat → Prop} {ws : va_W} {b : Nat} {fs : List Value} {v : Value} (C : Cx p s m args c cc nL RX10 D cy A) (hO : Wo D A ws s.heap H locs) (q0 : Nat) (he : ws[q0]? = some (b, .inr (10, fs))) (hv : fs[4]? = some v) (hdg : decode cc pc = .ok (.getfield 53, 3)) (kk : W p l e R s m args below meth c H locs cells slots Q (F0 m (pc + 3) ls (v :: rest))) : W p l e R s m args below meth c H locs cells slots Q (F0 m pc ls (.ref b :: rest)) := gF (k := 4) C hO q0 he rfl inFX10 (by decide) wd_472 rfl hv hdg kk
theorem wd_1128 : (Cond.methodLink "WebCourt" (252 : Nat) ⟨"WebCourt$Ways", "bridgeLine", "()I"⟩) ∈ gtb := gtb_c5 59 (by decide +kernel) rfl
theorem wd_1129 : (Cond.instanceMethod ⟨"WebCourt$Ways", "bridgeLine", "()I"⟩) ∈ gtb := gtb_c5 60 (by decide +kernel) rfl
theorem wd_1130 : (Cond.selects "WebCourt$Ways" ⟨"WebCourt$Ways", "bridgeLine", "()I"⟩ ⟨"WebCourt$Ways", "bridgeLine", "()I"⟩) ∈ gtb := gtb_c5 61 (by decide +kernel) rfl
theorem wd_117 : (Cond.initialized "WebCourt$Ways") ∈ gtb := gtb_c1 8 (by decide +kernel) rfl
theorem hd_yX8_bridgeLine : yX8_bridgeLine.cls = RX8 ∧ yX8_bridgeLine.cls ≠ "java/lang/invoke/MethodHandle" ∧ yX8_bridgeLine.cls ≠ "java/lang/invoke/VarHandle" ∧ (parseMethodDescriptor yX8_bridgeLine.desc).map (fun d => d.parameters.length) = some 0 := by decide +kernel
set_option maxHeartbeats 4000000 in
set_option maxRecDepth 100000 in
theorem T_X10_bridge (l : Launch) (D : va_G) (cy : Nat → ClassId) (a : Nat → Nat) (u : St) (hI_3_10 : fI u 3 10 = 0) (hR_0 : fR u 0 = a 3) (x1 : Int32)  : Mi l D cy (cW cy a) yX10_bridge (.code yX10_bridge cX10_bridge 3 (some .int)) (rmo 1 24) [.ref (a 0), .int x1] u (fun (r : Int32) (u' : St) => r = (-1) ∧ u' = u) := by
  refine Mi.of (own := RX10) rfl (by decide) (Nat.le_of_ble_eq_true rfl) ?_
  intro p e s m below meth c A Q ls C hret hO hl
  obtain ⟨hx, hb, hml, hown, ht, hK, hA⟩ := id C
  have hl : lv_has ls 3 [(0, .ref (a 0)), (1, .int x1)] := hl
  refine lv_aload_n hx hb dX10_bridge_0 rfl (lv_at hl 0 rfl) ?_
  refine gf_RX10_53 (v := .ref (a 32)) C hO 0 cW_0 rfl dX10_bridge_1 ?_
  refine cVi (w := cW cy a) (As := []) (rest := []) C hO (T_X8_bridgeLine l D cy a _ (by exact hI_3_10) (by exact hR_0)) (cwV 0 ht (gV wd_1128 wd_1129 wd_1130 wd_117 wd_1131) rfl rfl rfl hd_yX8_bridgeLine ⟨Nat.le_of_ble_eq_true rfl, Nat.le_of_ble_eq_true rfl⟩) 32 rfl cW_32 rfl rfl hl.1 (Nat.le_of_ble_eq_true rfl) dX10_bridge_4 rfl ⟨Nat.zero_le _, Nat.zero_le _⟩ (fun r1 u2 H locs hp3 hO => ?_)
  obtain ⟨hr1, hu2⟩ := hp3
  subst hr1
  rw [hu2] at hO
  refine lv_istore_n (lv' := [(2, .int (-1)), (0, .ref (a 0)), (1, .int x1)]) hx hb dX10_bridge_7 rfl hl (by decide) rfl (fun ls hl => ?_)
  refine lv_iload_n hx hb dX10_bridge_8 rfl (lv_at hl 0 rfl) ?_
  refine lv_iconst (v := (-1)) hx hb dX10_bridge_9 (by decide) ?_
  refine ct_eq (tgt := 22) (X := (-1)) (Y := (-1)) hx hb dX10_bridge_10 (by decide) rfl rfl (by omega) ?_
  refine lv_iconst (v := (-1)) hx hb dX10_bridge_22 (by decide) ?_
  refine hret _ _ _ _ _ _ dX10_bridge_23 rfl ?_ hO
  exact ⟨rfl, rfl⟩
theorem dX1_pleaToForbid_0 : decode cX1_pleaToForbid 0 = .ok (.iconst (-1), 1) := by decide +kernel
theorem dX1_pleaToForbid_1 : decode cX1_pleaToForbid 1 = .ok (.istore_n 1, 1) := by decide +kernel
theorem dX1_pleaToForbid_2 : decode cX1_pleaToForbid 2 = .ok (.bipush 7, 2) := by decide +kernel
theorem dX1_pleaToForbid_4 : decode cX1_pleaToForbid 4 = .ok (.istore_n 2, 1) := by decide +kernel
theorem dX1_pleaToForbid_5 : decode cX1_pleaToForbid 5 = .ok (.iconst 0, 1) := by decide +kernel
theorem dX1_pleaToForbid_6 : decode cX1_pleaToForbid 6 = .ok (.istore_n 3, 1) := by decide +kernel
theorem dX1_pleaToForbid_7 : decode cX1_pleaToForbid 7 = .ok (.iload_n 3, 1) := by decide +kernel
theorem dX1_pleaToForbid_8 : decode cX1_pleaToForbid 8 = .ok (.aload_n 0, 1) := by decide +kernel
theorem dX1_pleaToForbid_9 : decode cX1_pleaToForbid 9 = .ok (.getfield 18, 3) := by decide +kernel
theorem dX1_pleaToForbid_12 : decode cX1_pleaToForbid 12 = .ok (.getfield 34, 3) := by decide +kernel
theorem dX1_pleaToForbid_15 : decode cX1_pleaToForbid 15 = .ok (.getfield 38, 3) := by decide +kernel
theorem dX1_pleaToForbid_18 : decode cX1_pleaToForbid 18 = .ok (.if_icmp .ge 27, 3) := by decide +kernel
theorem dX1_pleaToForbid_21 : decode cX1_pleaToForbid 21 = .ok (.aload_n 0, 1) := by decide +kernel
theorem dX1_pleaToForbid_22 : decode cX1_pleaToForbid 22 = .ok (.iload_n 3, 1) := by decide +kernel
theorem dX1_pleaToForbid_23 : decode cX1_pleaToForbid 23 = .ok (.invokevirtual 79, 3) := by decide +kernel
theorem dX1_pleaToForbid_26 : decode cX1_pleaToForbid 26 = .ok (.istore 4, 2) := by decide +kernel
theorem dX1_pleaToForbid_28 : decode cX1_pleaToForbid 28 = .ok (.iload 4, 2) := by decide +kernel
theorem dX1_pleaToForbid_30 : decode cX1_pleaToForbid 30 = .ok (.iload_n 2, 1) := by decide +kernel
theorem dX1_pleaToForbid_31 : decode cX1_pleaToForbid 31 = .ok (.if_icmp .ge 8, 3) := by decide +kernel
theorem dX1_pleaToForbid_34 : decode cX1_pleaToForbid 34 = .ok (.iload 4, 2) := by decide +kernel
theorem dX1_pleaToForbid_36 : decode cX1_pleaToForbid 36 = .ok (.istore_n 2, 1) := by decide +kernel
theorem dX1_pleaToForbid_37 : decode cX1_pleaToForbid 37 = .ok (.iload_n 3, 1) := by decide +kernel
theorem dX1_pleaToForbid_38 : decode cX1_pleaToForbid 38 = .ok (.istore_n 1, 1) := by decide +kernel
theorem dX1_pleaToForbid_39 : decode cX1_pleaToForbid 39 = .ok (.iinc 3 1, 3) := by decide +kernel
theorem dX1_pleaToForbid_42 : decode cX1_pleaToForbid 42 = .ok (.goto (-35), 3) := by decide +kernel
theorem dX1_pleaToForbid_45 : decode cX1_pleaToForbid 45 = .ok (.iload_n 1, 1) := by decide +kernel
theorem dX1_pleaToForbid_46 : decode cX1_pleaToForbid 46 = .ok (.ireturn, 1) := by decide +kernel
theorem wd_1149 : (Cond.code ⟨"WebCourt$Counsel", "pleaToForbid", "()I"⟩ prog_3_method_10_code (5 : Nat) (Option.some FieldType.int)) ∈ gtb := gtb_c5 80 (by decide +kernel) rfl
set_option maxHeartbeats 4000000 in
set_option maxRecDepth 100000 in
theorem T_X1_pleaToForbid (l : Launch) (D : va_G) (cy : Nat → ClassId) (a : Nat → Nat) (u : St) (hI_3_11 : fI u 3 11 = 0) (hR_0 : fR u 0 = a 3)   : Mi l D cy (cW cy a) yX1_pleaToForbid (.code yX1_pleaToForbid cX1_pleaToForbid 5 (some .int)) (rmo 0 0) [.ref (a 36)] u (fun (r : Int32) (u' : St) => r = (-1) ∧ u' = u) := by
  refine Mi.of (own := RX1) rfl (by decide) (Nat.le_of_ble_eq_true rfl) ?_
  intro p e s m below meth c A Q ls C hret hO hl
  obtain ⟨hx, hb, hml, hown, ht, hK, hA⟩ := id C
  have hl : lv_has ls 5 [(0, .ref (a 36))] := hl
  refine lv_iconst (v := (-1)) hx hb dX1_pleaToForbid_0 (by decide) ?_
  refine lv_istore_n (lv' := [(1, .int (-1)), (0, .ref (a 36))]) hx hb dX1_pleaToForbid_1 rfl hl (by decide) rfl (fun ls hl => ?_)
  refine lv_bipush (v := 7) hx hb dX1_pleaToForbid_2 (by decide) ?_
  refine lv_istore_n (lv' := [(2, .int 7), (1, .int (-1)), (0, .ref (a 36))]) hx hb dX1_pleaToForbid_4 rfl hl (by decide) rfl (fun ls hl => ?_)
  refine lv_iconst (v := 0) hx hb dX1_pleaToForbid_5 (by decide) ?_
  refine lv_istore_n (lv' := [(3, .int 0), (2, .int 7), (1, .int (-1)), (0, .ref (a 36))]) hx hb dX1_pleaToForbid_6 rfl hl (by decide) rfl (fun ls hl => ?_)
  refine lv_iload_n hx hb dX1_pleaToForbid_7 rfl (lv_at hl 0 rfl) ?_
  refine lv_aload_n hx hb dX1_pleaToForbid_8 rfl (lv_at hl 3 rfl) ?_
  refine gf_RX1_18 (v := .ref (a 28)) C hO 36 cW_36 rfl dX1_pleaToForbid_9 ?_
  refine gf_RX1_34 (v := .ref (a 3)) C hO 28 cW_28 (congrArg (fun z : Nat => some (Value.ref z)) hR_0) dX1_pleaToForbid_12 ?_
  refine gf_RX1_38 (v := .int 0) C hO 3 cW_3 (congrArg (fun z : Int32 => some (Value.int z)) hI_3_11) dX1_pleaToForbid_15 ?_
  refine ct_ge (tgt := 45) (X := 0) (Y := 0) hx hb dX1_pleaToForbid_18 (by decide) rfl rfl (by omega) ?_
  refine lv_iload_n hx hb dX1_pleaToForbid_45 rfl (lv_at hl 2 rfl) ?_
  refine hret _ _ _ _ _ _ dX1_pleaToForbid_46 rfl ?_ hO
  exact ⟨rfl, rfl⟩
theorem dX10_forbid_0 : decode cX10_forbid 0 = .ok (.aload_n 0, 1) := by decide +kernel
theorem dX10_forbid_1 : decode cX10_forbid 1 = .ok (.getfield 69, 3) := by decide +kernel
theorem dX10_forbid_4 : decode cX10_forbid 4 = .ok (.invokevirtual 258, 3) := by decide +kernel
theorem dX10_forbid_7 : decode cX10_forbid 7 = .ok (.istore_n 2, 1) := by decide +kernel
theorem dX10_forbid_8 : decode cX10_forbid 8 = .ok (.iload_n 2, 1) := by decide +kernel
theorem dX10_forbid_9 : decode cX10_forbid 9 = .ok (.iconst (-1), 1) := by decide +kernel
theorem dX10_forbid_10 : decode cX10_forbid 10 = .ok (.if_icmp .eq 12, 3) := by decide +kernel
theorem dX10_forbid_13 : decode cX10_forbid 13 = .ok (.iload_n 1, 1) := by decide +kernel
theorem dX10_forbid_14 : decode cX10_forbid 14 = .ok (.ifCond .lt 8, 3) := by decide +kernel
theorem dX10_forbid_17 : decode cX10_forbid 17 = .ok (.iload_n 1, 1) := by decide +kernel
theorem dX10_forbid_18 : decode cX10_forbid 18 = .ok (.iconst 1, 1) := by decide +kernel
theorem dX10_forbid_19 : decode cX10_forbid 19 = .ok (.if_icmp .le 5, 3) := by decide +kernel
theorem dX10_forbid_22 : decode cX10_forbid 22 = .ok (.iconst (-1), 1) := by decide +kernel
theorem dX10_forbid_23 : decode cX10_forbid 23 = .ok (.ireturn, 1) := by decide +kernel
theorem dX10_forbid_24 : decode cX10_forbid 24 = .ok (.iload_n 1, 1) := by decide +kernel
theorem dX10_forbid_25 : decode cX10_forbid 25 = .ok (.ifCond .ne 7, 3) := by decide +kernel
theorem dX10_forbid_28 : decode cX10_forbid 28 = .ok (.iload_n 2, 1) := by decide +kernel
theorem dX10_forbid_29 : decode cX10_forbid 29 = .ok (.goto 11, 3) := by decide +kernel
theorem dX10_forbid_32 : decode cX10_forbid 32 = .ok (.aload_n 0, 1) := by decide +kernel
theorem dX10_forbid_33 : decode cX10_forbid 33 = .ok (.getfield 69, 3) := by decide +kernel
theorem dX10_forbid_36 : decode cX10_forbid 36 = .ok (.iload_n 2, 1) := by decide +kernel
theorem dX10_forbid_37 : decode cX10_forbid 37 = .ok (.invokevirtual 261, 3) := by decide +kernel
theorem dX10_forbid_40 : decode cX10_forbid 40 = .ok (.ireturn, 1) := by decide +kernel
theorem wd_1145 : (Cond.code ⟨"WebCourt", "forbid", "(I)I"⟩ prog_1_method_31_code (3 : Nat) (Option.some FieldType.int)) ∈ gtb := gtb_c5 76 (by decide +kernel) rfl
theorem wd_1146 : (Cond.methodLink "WebCourt" (258 : Nat) ⟨"WebCourt$Counsel", "pleaToForbid", "()I"⟩) ∈ gtb := gtb_c5 77 (by decide +kernel) rfl
theorem wd_1147 : (Cond.instanceMethod ⟨"WebCourt$Counsel", "pleaToForbid", "()I"⟩) ∈ gtb := gtb_c5 78 (by decide +kernel) rfl
theorem wd_1148 : (Cond.selects "WebCourt$Counsel" ⟨"WebCourt$Counsel", "pleaToForbid", "()I"⟩ ⟨"WebCourt$Counsel", "pleaToForbid", "()I"⟩) ∈ gtb := gtb_c5 79 (by decide +kernel) rfl
theorem hd_yX1_pleaToForbid : yX1_pleaToForbid.cls = RX1 ∧ yX1_pleaToForbid.cls ≠ "java/lang/invoke/MethodHandle" ∧ yX1_pleaToForbid.cls ≠ "java/lang/invoke/VarHandle" ∧ (parseMethodDescriptor yX1_pleaToForbid.desc).map (fun d => d.parameters.length) = some 0 := by decide +kernel
set_option maxHeartbeats 4000000 in
set_option maxRecDepth 100000 in
theorem T_X10_forbid (l : Launch) (D : va_G) (cy : Nat → ClassId) (a : Nat → Nat) (u : St) (hI_3_11 : fI u 3 11 = 0) (hR_0 : fR u 0 = a 3) (x1 : Int32)  : Mi l D cy (cW cy a) yX10_forbid (.code yX10_forbid cX10_forbid 3 (some .int)) (rmo 1 24) [.ref (a 0), .int x1] u (fun (r : Int32) (u' : St) => r = (-1) ∧ u' = u) := by
  refine Mi.of (own := RX10) rfl (by decide) (Nat.le_of_ble_eq_true rfl) ?_
  intro p e s m below meth c A Q ls C hret hO hl
  obtain ⟨hx, hb, hml, hown, ht, hK, hA⟩ := id C
  have hl : lv_has ls 3 [(0, .ref (a 0)), (1, .int x1)] := hl
  refine lv_aload_n hx hb dX10_forbid_0 rfl (lv_at hl 0 rfl) ?_
  refine gf_RX10_69 (v := .ref (a 36)) C hO 0 cW_0 rfl dX10_forbid_1 ?_
  refine cVi (w := cW cy a) (As := []) (rest := []) C hO (T_X1_pleaToForbid l D cy a _ (by exact hI_3_11) (by exact hR_0)) (cwV 0 ht (gV wd_1146 wd_1147 wd_1148 wd_119 wd_1149) rfl rfl rfl hd_yX1_pleaToForbid ⟨Nat.le_of_ble_eq_true rfl, Nat.le_of_ble_eq_true rfl⟩) 36 rfl cW_36 rfl rfl hl.1 (Nat.le_of_ble_eq_true rfl) dX10_forbid_4 rfl ⟨Nat.zero_le _, Nat.zero_le _⟩ (fun r1 u2 H locs hp3 hO => ?_)
  obtain ⟨hr1, hu2⟩ := hp3
  subst hr1
  rw [hu2] at hO
  refine lv_istore_n (lv' := [(2, .int (-1)), (0, .ref (a 0)), (1, .int x1)]) hx hb dX10_forbid_7 rfl hl (by decide) rfl (fun ls hl => ?_)
  refine lv_iload_n hx hb dX10_forbid_8 rfl (lv_at hl 0 rfl) ?_
  refine lv_iconst (v := (-1)) hx hb dX10_forbid_9 (by decide) ?_
  refine ct_eq (tgt := 22) (X := (-1)) (Y := (-1)) hx hb dX10_forbid_10 (by decide) rfl rfl (by omega) ?_
  refine lv_iconst (v := (-1)) hx hb dX10_forbid_22 (by decide) ?_
  refine hret _ _ _ _ _ _ dX10_forbid_23 rfl ?_ hO
  exact ⟨rfl, rfl⟩
theorem dX1_freeByExchange_0 : decode cX1_freeByExchange 0 = .ok (.iconst 0, 1) := by decide +kernel
theorem dX1_freeByExchange_1 : decode cX1_freeByExchange 1 = .ok (.istore_n 3, 1) := by decide +kernel
theorem dX1_freeByExchange_2 : decode cX1_freeByExchange 2 = .ok (.iconst 0, 1) := by decide +kernel
theorem dX1_freeByExchange_3 : decode cX1_freeByExchange 3 = .ok (.istore 4, 2) := by decide +kernel
theorem dX1_freeByExchange_5 : decode cX1_freeByExchange 5 = .ok (.iload 4, 2) := by decide +kernel
theorem dX1_freeByExchange_7 : decode cX1_freeByExchange 7 = .ok (.aload_n 0, 1) := by decide +kernel
theorem dX1_freeByExchange_8 : decode cX1_freeByExchange 8 = .ok (.getfield 18, 3) := by decide +kernel
theorem dX1_freeByExchange_11 : decode cX1_freeByExchange 11 = .ok (.getfield 34, 3) := by decide +kernel
theorem dX1_freeByExchange_14 : decode cX1_freeByExchange 14 = .ok (.getfield 44, 3) := by decide +kernel
theorem dX1_freeByExchange_17 : decode cX1_freeByExchange 17 = .ok (.if_icmp .ge 73, 3) := by decide +kernel
theorem dX1_freeByExchange_20 : decode cX1_freeByExchange 20 = .ok (.iload 4, 2) := by decide +kernel
theorem dX1_freeByExchange_22 : decode cX1_freeByExchange 22 = .ok (.iload_n 1, 1) := by decide +kernel
theorem dX1_freeByExchange_23 : decode cX1_freeByExchange 23 = .ok (.if_icmp .ne 7, 3) := by decide +kernel
theorem dX1_freeByExchange_26 : decode cX1_freeByExchange 26 = .ok (.iload_n 2, 1) := by decide +kernel
theorem dX1_freeByExchange_27 : decode cX1_freeByExchange 27 = .ok (.goto 15, 3) := by decide +kernel
theorem dX1_freeByExchange_30 : decode cX1_freeByExchange 30 = .ok (.iload 4, 2) := by decide +kernel
theorem dX1_freeByExchange_32 : decode cX1_freeByExchange 32 = .ok (.iload_n 2, 1) := by decide +kernel
theorem dX1_freeByExchange_33 : decode cX1_freeByExchange 33 = .ok (.if_icmp .ne 7, 3) := by decide +kernel
theorem dX1_freeByExchange_36 : decode cX1_freeByExchange 36 = .ok (.iload_n 1, 1) := by decide +kernel
theorem dX1_freeByExchange_37 : decode cX1_freeByExchange 37 = .ok (.goto 5, 3) := by decide +kernel
theorem dX1_freeByExchange_40 : decode cX1_freeByExchange 40 = .ok (.iload 4, 2) := by decide +kernel
theorem dX1_freeByExchange_42 : decode cX1_freeByExchange 42 = .ok (.istore 5, 2) := by decide +kernel
theorem dX1_freeByExchange_44 : decode cX1_freeByExchange 44 = .ok (.aload_n 0, 1) := by decide +kernel
theorem dX1_freeByExchange_45 : decode cX1_freeByExchange 45 = .ok (.getfield 18, 3) := by decide +kernel
theorem dX1_freeByExchange_48 : decode cX1_freeByExchange 48 = .ok (.iload 4, 2) := by decide +kernel
theorem dX1_freeByExchange_50 : decode cX1_freeByExchange 50 = .ok (.invokevirtual 47, 3) := by decide +kernel
theorem dX1_freeByExchange_53 : decode cX1_freeByExchange 53 = .ok (.ifCond .eq 31, 3) := by decide +kernel
theorem dX1_freeByExchange_56 : decode cX1_freeByExchange 56 = .ok (.aload_n 0, 1) := by decide +kernel
theorem dX1_freeByExchange_57 : decode cX1_freeByExchange 57 = .ok (.getfield 18, 3) := by decide +kernel
theorem dX1_freeByExchange_60 : decode cX1_freeByExchange 60 = .ok (.iload 4, 2) := by decide +kernel
theorem dX1_freeByExchange_62 : decode cX1_freeByExchange 62 = .ok (.aload_n 0, 1) := by decide +kernel
theorem dX1_freeByExchange_63 : decode cX1_freeByExchange 63 = .ok (.getfield 18, 3) := by decide +kernel
theorem dX1_freeByExchange_66 : decode cX1_freeByExchange 66 = .ok (.getfield 54, 3) := by decide +kernel
theorem dX1_freeByExchange_69 : decode cX1_freeByExchange 69 = .ok (.bipush 11, 2) := by decide +kernel
theorem dX1_freeByExchange_71 : decode cX1_freeByExchange 71 = .ok (.iload 5, 2) := by decide +kernel
theorem dX1_freeByExchange_73 : decode cX1_freeByExchange 73 = .ok (.iadd, 1) := by decide +kernel
theorem dX1_freeByExchange_74 : decode cX1_freeByExchange 74 = .ok (.iaload, 1) := by decide +kernel
theorem dX1_freeByExchange_75 : decode cX1_freeByExchange 75 = .ok (.invokevirtual 28, 3) := by decide +kernel
theorem dX1_freeByExchange_78 : decode cX1_freeByExchange 78 = .ok (.ifCond .le 6, 3) := by decide +kernel
theorem dX1_freeByExchange_81 : decode cX1_freeByExchange 81 = .ok (.iinc 3 1, 3) := by decide +kernel
theorem dX1_freeByExchange_84 : decode cX1_freeByExchange 84 = .ok (.iinc 4 1, 3) := by decide +kernel
theorem dX1_freeByExchange_87 : decode cX1_freeByExchange 87 = .ok (.goto (-82), 3) := by decide +kernel
theorem dX1_freeByExchange_90 : decode cX1_freeByExchange 90 = .ok (.iload_n 3, 1) := by decide +kernel
theorem dX1_freeByExchange_91 : decode cX1_freeByExchange 91 = .ok (.ireturn, 1) := by decide +kernel
theorem wd_1166 : (Cond.code ⟨"WebCourt$Counsel", "freeByExchange", "(II)I"⟩ prog_3_method_11_code (6 : Nat) (Option.some FieldType.int)) ∈ gtb := gtb_c5 97 (by decide +kernel) rfl
set_option maxHeartbeats 4000000 in
set_option maxRecDepth 100000 in
theorem T_X1_freeByExchange_00 (l : Launch) (D : va_G) (cy : Nat → ClassId) (a : Nat → Nat) (u : St) (hI_3_12 : fI u 3 12 = 0) (hR_0 : fR u 0 = a 3)   : Mi l D cy (cW cy a) yX1_freeByExchange (.code yX1_freeByExchange cX1_freeByExchange 6 (some .int)) (rmo 0 0) [.ref (a 36), .int 0, .int 0] u (fun (r : Int32) (u' : St) => r = 0 ∧ u' = u) := by
  refine Mi.of (own := RX1) rfl (by decide) (Nat.le_of_ble_eq_true rfl) ?_
  intro p e s m below meth c A Q ls C hret hO hl
  obtain ⟨hx, hb, hml, hown, ht, hK, hA⟩ := id C
  have hl : lv_has ls 6 [(0, .ref (a 36)), (1, .int 0), (2, .int 0)] := hl
  refine lv_iconst (v := 0) hx hb dX1_freeByExchange_0 (by decide) ?_
  refine lv_istore_n (lv' := [(3, .int 0), (0, .ref (a 36)), (1, .int 0), (2, .int 0)]) hx hb dX1_freeByExchange_1 rfl hl (by decide) rfl (fun ls hl => ?_)
  refine lv_iconst (v := 0) hx hb dX1_freeByExchange_2 (by decide) ?_
  refine lv_istore (lv' := [(4, .int 0), (3, .int 0), (0, .ref (a 36)), (1, .int 0), (2, .int 0)]) hx hb dX1_freeByExchange_3 hl (by decide) rfl (fun ls hl => ?_)
  refine lv_iload hx hb dX1_freeByExchange_5 (lv_at hl 0 rfl) ?_
  refine lv_aload_n hx hb dX1_freeByExchange_7 rfl (lv_at hl 2 rfl) ?_
  refine gf_RX1_18 (v := .ref (a 28)) C hO 36 cW_36 rfl dX1_freeByExchange_8 ?_
  refine gf_RX1_34 (v := .ref (a 3)) C hO 28 cW_28 (congrArg (fun z : Nat => some (Value.ref z)) hR_0) dX1_freeByExchange_11 ?_
  refine gf_RX1_44 (v := .int 0) C hO 3 cW_3 (congrArg (fun z : Int32 => some (Value.int z)) hI_3_12) dX1_freeByExchange_14 ?_
  refine ct_ge (tgt := 90) (X := 0) (Y := 0) hx hb dX1_freeByExchange_17 (by decide) rfl rfl (by omega) ?_
  refine lv_iload_n hx hb dX1_freeByExchange_90 rfl (lv_at hl 1 rfl) ?_
  refine hret _ _ _ _ _ _ dX1_freeByExchange_91 rfl ?_ hO
  exact ⟨rfl, rfl⟩
theorem dX1_bestExchange_0 : decode cX1_bestExchange 0 = .ok (.iconst (-1), 1) := by decide +kernel
theorem dX1_bestExchange_1 : decode cX1_bestExchange 1 = .ok (.istore_n 1, 1) := by decide +kernel
theorem dX1_bestExchange_2 : decode cX1_bestExchange 2 = .ok (.aload_n 0, 1) := by decide +kernel
theorem dX1_bestExchange_3 : decode cX1_bestExchange 3 = .ok (.iconst 0, 1) := by decide +kernel
theorem dX1_bestExchange_4 : decode cX1_bestExchange 4 = .ok (.iconst 0, 1) := by decide +kernel
theorem dX1_bestExchange_5 : decode cX1_bestExchange 5 = .ok (.invokevirtual 82, 3) := by decide +kernel
theorem dX1_bestExchange_8 : decode cX1_bestExchange 8 = .ok (.istore_n 2, 1) := by decide +kernel
theorem dX1_bestExchange_9 : decode cX1_bestExchange 9 = .ok (.iconst 0, 1) := by decide +kernel
theorem dX1_bestExchange_10 : decode cX1_bestExchange 10 = .ok (.istore_n 3, 1) := by decide +kernel
theorem dX1_bestExchange_11 : decode cX1_bestExchange 11 = .ok (.iload_n 3, 1) := by decide +kernel
theorem dX1_bestExchange_12 : decode cX1_bestExchange 12 = .ok (.aload_n 0, 1) := by decide +kernel
theorem dX1_bestExchange_13 : decode cX1_bestExchange 13 = .ok (.getfield 18, 3) := by decide +kernel
theorem dX1_bestExchange_16 : decode cX1_bestExchange 16 = .ok (.getfield 34, 3) := by decide +kernel
theorem dX1_bestExchange_19 : decode cX1_bestExchange 19 = .ok (.getfield 44, 3) := by decide +kernel
theorem dX1_bestExchange_22 : decode cX1_bestExchange 22 = .ok (.if_icmp .ge 88, 3) := by decide +kernel
theorem dX1_bestExchange_25 : decode cX1_bestExchange 25 = .ok (.iload_n 3, 1) := by decide +kernel
theorem dX1_bestExchange_26 : decode cX1_bestExchange 26 = .ok (.iconst 1, 1) := by decide +kernel
theorem dX1_bestExchange_27 : decode cX1_bestExchange 27 = .ok (.iadd, 1) := by decide +kernel
theorem dX1_bestExchange_28 : decode cX1_bestExchange 28 = .ok (.istore 4, 2) := by decide +kernel
theorem dX1_bestExchange_30 : decode cX1_bestExchange 30 = .ok (.iload 4, 2) := by decide +kernel
theorem dX1_bestExchange_32 : decode cX1_bestExchange 32 = .ok (.aload_n 0, 1) := by decide +kernel
theorem dX1_bestExchange_33 : decode cX1_bestExchange 33 = .ok (.getfield 18, 3) := by decide +kernel
theorem dX1_bestExchange_36 : decode cX1_bestExchange 36 = .ok (.getfield 34, 3) := by decide +kernel
theorem dX1_bestExchange_39 : decode cX1_bestExchange 39 = .ok (.getfield 44, 3) := by decide +kernel
theorem dX1_bestExchange_42 : decode cX1_bestExchange 42 = .ok (.if_icmp .ge 62, 3) := by decide +kernel
theorem dX1_bestExchange_45 : decode cX1_bestExchange 45 = .ok (.aload_n 0, 1) := by decide +kernel
theorem dX1_bestExchange_46 : decode cX1_bestExchange 46 = .ok (.getfield 18, 3) := by decide +kernel
theorem dX1_bestExchange_49 : decode cX1_bestExchange 49 = .ok (.iload_n 3, 1) := by decide +kernel
theorem dX1_bestExchange_50 : decode cX1_bestExchange 50 = .ok (.invokevirtual 47, 3) := by decide +kernel
theorem dX1_bestExchange_53 : decode cX1_bestExchange 53 = .ok (.ifCond .eq 25, 3) := by decide +kernel
theorem dX1_bestExchange_56 : decode cX1_bestExchange 56 = .ok (.aload_n 0, 1) := by decide +kernel
theorem dX1_bestExchange_57 : decode cX1_bestExchange 57 = .ok (.getfield 18, 3) := by decide +kernel
theorem dX1_bestExchange_60 : decode cX1_bestExchange 60 = .ok (.iload 4, 2) := by decide +kernel
theorem dX1_bestExchange_62 : decode cX1_bestExchange 62 = .ok (.invokevirtual 47, 3) := by decide +kernel
theorem dX1_bestExchange_65 : decode cX1_bestExchange 65 = .ok (.ifCond .eq 13, 3) := by decide +kernel
theorem dX1_bestExchange_68 : decode cX1_bestExchange 68 = .ok (.aload_n 0, 1) := by decide +kernel
theorem dX1_bestExchange_69 : decode cX1_bestExchange 69 = .ok (.iload_n 3, 1) := by decide +kernel
theorem dX1_bestExchange_70 : decode cX1_bestExchange 70 = .ok (.iload 4, 2) := by decide +kernel
theorem dX1_bestExchange_72 : decode cX1_bestExchange 72 = .ok (.invokevirtual 82, 3) := by decide +kernel
theorem dX1_bestExchange_75 : decode cX1_bestExchange 75 = .ok (.goto 4, 3) := by decide +kernel
theorem dX1_bestExchange_78 : decode cX1_bestExchange 78 = .ok (.iconst 0, 1) := by decide +kernel
theorem dX1_bestExchange_79 : decode cX1_bestExchange 79 = .ok (.istore 5, 2) := by decide +kernel
theorem dX1_bestExchange_81 : decode cX1_bestExchange 81 = .ok (.iload 5, 2) := by decide +kernel
theorem dX1_bestExchange_83 : decode cX1_bestExchange 83 = .ok (.iload_n 2, 1) := by decide +kernel
theorem dX1_bestExchange_84 : decode cX1_bestExchange 84 = .ok (.if_icmp .le 14, 3) := by decide +kernel
theorem dX1_bestExchange_87 : decode cX1_bestExchange 87 = .ok (.iload 5, 2) := by decide +kernel
theorem dX1_bestExchange_89 : decode cX1_bestExchange 89 = .ok (.istore_n 2, 1) := by decide +kernel
theorem dX1_bestExchange_90 : decode cX1_bestExchange 90 = .ok (.iload_n 3, 1) := by decide +kernel
theorem dX1_bestExchange_91 : decode cX1_bestExchange 91 = .ok (.bipush 6, 2) := by decide +kernel
theorem dX1_bestExchange_93 : decode cX1_bestExchange 93 = .ok (.imul, 1) := by decide +kernel
theorem dX1_bestExchange_94 : decode cX1_bestExchange 94 = .ok (.iload 4, 2) := by decide +kernel
theorem dX1_bestExchange_96 : decode cX1_bestExchange 96 = .ok (.iadd, 1) := by decide +kernel
theorem dX1_bestExchange_97 : decode cX1_bestExchange 97 = .ok (.istore_n 1, 1) := by decide +kernel
theorem dX1_bestExchange_98 : decode cX1_bestExchange 98 = .ok (.iinc 4 1, 3) := by decide +kernel
theorem dX1_bestExchange_101 : decode cX1_bestExchange 101 = .ok (.goto (-71), 3) := by decide +kernel
theorem dX1_bestExchange_104 : decode cX1_bestExchange 104 = .ok (.iinc 3 1, 3) := by decide +kernel
theorem dX1_bestExchange_107 : decode cX1_bestExchange 107 = .ok (.goto (-96), 3) := by decide +kernel
theorem dX1_bestExchange_110 : decode cX1_bestExchange 110 = .ok (.iload_n 1, 1) := by decide +kernel
theorem dX1_bestExchange_111 : decode cX1_bestExchange 111 = .ok (.ireturn, 1) := by decide +kernel
theorem wd_1162 : (Cond.code ⟨"WebCourt$Counsel", "bestExchange", "()I"⟩ prog_3_method_12_code (6 : Nat) (Option.some FieldType.int)) ∈ gtb := gtb_c5 93 (by decide +kernel) rfl
theorem wd_1163 : (Cond.methodLink "WebCourt$Counsel" (82 : Nat) ⟨"WebCourt$Counsel", "freeByExchange", "(II)I"⟩) ∈ gtb := gtb_c5 94 (by decide +kernel) rfl
theorem wd_1164 : (Cond.instanceMethod ⟨"WebCourt$Counsel", "freeByExchange", "(II)I"⟩) ∈ gtb := gtb_c5 95 (by decide +kernel) rfl
theorem wd_1165 : (Cond.selects "WebCourt$Counsel" ⟨"WebCourt$Counsel", "freeByExchange", "(II)I"⟩ ⟨"WebCourt$Counsel", "freeByExchange", "(II)I"⟩) ∈ gtb := gtb_c5 96 (by decide +kernel) rfl
theorem hd_yX1_freeByExchange : yX1_freeByExchange.cls = RX1 ∧ yX1_freeByExchange.cls ≠ "java/lang/invoke/MethodHandle" ∧ yX1_freeByExchange.cls ≠ "java/lang/invoke/VarHandle" ∧ (parseMethodDescriptor yX1_freeByExchange.desc).map (fun d => d.parameters.length) = some 2 := by decide +kernel
set_option maxHeartbeats 4000000 in
set_option maxRecDepth 100000 in
theorem T_X1_bestExchange (l : Launch) (D : va_G) (cy : Nat → ClassId) (a : Nat → Nat) (u : St) (hI_3_12 : fI u 3 12 = 0) (hR_0 : fR u 0 = a 3)   : Mi l D cy (cW cy a) yX1_bestExchange (.code yX1_bestExchange cX1_bestExchange 6 (some .int)) (rmo 1 25) [.ref (a 36)] u (fun (r : Int32) (u' : St) => r = (-1) ∧ u' = u) := by
  refine Mi.of (own := RX1) rfl (by decide) (Nat.le_of_ble_eq_true rfl) ?_
  intro p e s m below meth c A Q ls C hret hO hl
  obtain ⟨hx, hb, hml, hown, ht, hK, hA⟩ := id C
  have hl : lv_has ls 6 [(0, .ref (a 36))] := hl
  refine lv_iconst (v := (-1)) hx hb dX1_bestExchange_0 (by decide) ?_
  refine lv_istore_n (lv' := [(1, .int (-1)), (0, .ref (a 36))]) hx hb dX1_bestExchange_1 rfl hl (by decide) rfl (fun ls hl => ?_)
  refine lv_aload_n hx hb dX1_bestExchange_2 rfl (lv_at hl 1 rfl) ?_
  refine lv_iconst (v := 0) hx hb dX1_bestExchange_3 (by decide) ?_
  refine lv_iconst (v := 0) hx hb dX1_bestExchange_4 (by decide) ?_
  refine cVi (w := cW cy a) (As := [.int 0, .int 0]) (rest := []) C hO (T_X1_freeByExchange_00 l D cy a _ (by exact hI_3_12) (by exact hR_0)) (cwV 2 ht (gV wd_1163 wd_1164 wd_1165 wd_119 wd_1166) rfl rfl rfl hd_yX1_freeByExchange ⟨Nat.le_of_ble_eq_true rfl, Nat.le_of_ble_eq_true rfl⟩) 36 rfl cW_36 rfl rfl hl.1 (Nat.le_of_ble_eq_true rfl) dX1_bestExchange_5 rfl ⟨Nat.zero_le _, Nat.zero_le _⟩ (fun r1 u2 H locs hp3 hO => ?_)
  obtain ⟨hr1, hu2⟩ := hp3
  subst hr1
  rw [hu2] at hO
  refine lv_istore_n (lv' := [(2, .int 0), (1, .int (-1)), (0, .ref (a 36))]) hx hb dX1_bestExchange_8 rfl hl (by decide) rfl (fun ls hl => ?_)
  refine lv_iconst (v := 0) hx hb dX1_bestExchange_9 (by decide) ?_
  refine lv_istore_n (lv' := [(3, .int 0), (2, .int 0), (1, .int (-1)), (0, .ref (a 36))]) hx hb dX1_bestExchange_10 rfl hl (by decide) rfl (fun ls hl => ?_)
  refine lv_iload_n hx hb dX1_bestExchange_11 rfl (lv_at hl 0 rfl) ?_
  refine lv_aload_n hx hb dX1_bestExchange_12 rfl (lv_at hl 3 rfl) ?_
  refine gf_RX1_18 (v := .ref (a 28)) C hO 36 cW_36 rfl dX1_bestExchange_13 ?_
  refine gf_RX1_34 (v := .ref (a 3)) C hO 28 cW_28 (congrArg (fun z : Nat => some (Value.ref z)) hR_0) dX1_bestExchange_16 ?_
  refine gf_RX1_44 (v := .int 0) C hO 3 cW_3 (congrArg (fun z : Int32 => some (Value.int z)) hI_3_12) dX1_bestExchange_19 ?_
  refine ct_ge (tgt := 110) (X := 0) (Y := 0) hx hb dX1_bestExchange_22 (by decide) rfl rfl (by omega) ?_
  refine lv_iload_n hx hb dX1_bestExchange_110 rfl (lv_at hl 2 rfl) ?_
  refine hret _ _ _ _ _ _ dX1_bestExchange_111 rfl ?_ hO
  exact ⟨rfl, rfl⟩
theorem dX10_swap_0 : decode cX10_swap 0 = .ok (.aload_n 0, 1) := by decide +kernel
theorem dX10_swap_1 : decode cX10_swap 1 = .ok (.getfield 69, 3) := by decide +kernel
theorem dX10_swap_4 : decode cX10_swap 4 = .ok (.invokevirtual 264, 3) := by decide +kernel
theorem dX10_swap_7 : decode cX10_swap 7 = .ok (.istore_n 2, 1) := by decide +kernel
theorem dX10_swap_8 : decode cX10_swap 8 = .ok (.iload_n 2, 1) := by decide +kernel
theorem dX10_swap_9 : decode cX10_swap 9 = .ok (.iconst (-1), 1) := by decide +kernel
theorem dX10_swap_10 : decode cX10_swap 10 = .ok (.if_icmp .eq 8, 3) := by decide +kernel
theorem dX10_swap_13 : decode cX10_swap 13 = .ok (.iload_n 1, 1) := by decide +kernel
theorem dX10_swap_14 : decode cX10_swap 14 = .ok (.iconst 2, 1) := by decide +kernel
theorem dX10_swap_15 : decode cX10_swap 15 = .ok (.if_icmp .eq 9, 3) := by decide +kernel
theorem dX10_swap_18 : decode cX10_swap 18 = .ok (.iload_n 2, 1) := by decide +kernel
theorem dX10_swap_19 : decode cX10_swap 19 = .ok (.iload_n 1, 1) := by decide +kernel
theorem dX10_swap_20 : decode cX10_swap 20 = .ok (.invokestatic 242, 3) := by decide +kernel
theorem dX10_swap_23 : decode cX10_swap 23 = .ok (.ireturn, 1) := by decide +kernel
theorem dX10_swap_24 : decode cX10_swap 24 = .ok (.aload_n 0, 1) := by decide +kernel
theorem dX10_swap_25 : decode cX10_swap 25 = .ok (.getfield 69, 3) := by decide +kernel
theorem dX10_swap_28 : decode cX10_swap 28 = .ok (.iload_n 2, 1) := by decide +kernel
theorem dX10_swap_29 : decode cX10_swap 29 = .ok (.bipush 6, 2) := by decide +kernel
theorem dX10_swap_31 : decode cX10_swap 31 = .ok (.idiv, 1) := by decide +kernel
theorem dX10_swap_32 : decode cX10_swap 32 = .ok (.iload_n 2, 1) := by decide +kernel
theorem dX10_swap_33 : decode cX10_swap 33 = .ok (.bipush 6, 2) := by decide +kernel
theorem dX10_swap_35 : decode cX10_swap 35 = .ok (.irem, 1) := by decide +kernel
theorem dX10_swap_36 : decode cX10_swap 36 = .ok (.invokevirtual 267, 3) := by decide +kernel
theorem dX10_swap_39 : decode cX10_swap 39 = .ok (.ireturn, 1) := by decide +kernel
theorem wd_1158 : (Cond.code ⟨"WebCourt", "swap", "(I)I"⟩ prog_1_method_32_code (3 : Nat) (Option.some FieldType.int)) ∈ gtb := gtb_c5 89 (by decide +kernel) rfl
theorem wd_1159 : (Cond.methodLink "WebCourt" (264 : Nat) ⟨"WebCourt$Counsel", "bestExchange", "()I"⟩) ∈ gtb := gtb_c5 90 (by decide +kernel) rfl
theorem wd_1160 : (Cond.instanceMethod ⟨"WebCourt$Counsel", "bestExchange", "()I"⟩) ∈ gtb := gtb_c5 91 (by decide +kernel) rfl
theorem wd_1161 : (Cond.selects "WebCourt$Counsel" ⟨"WebCourt$Counsel", "bestExchange", "()I"⟩ ⟨"WebCourt$Counsel", "bestExchange", "()I"⟩) ∈ gtb := gtb_c5 92 (by decide +kernel) rfl
theorem hd_yX1_bestExchange : yX1_bestExchange.cls = RX1 ∧ yX1_bestExchange.cls ≠ "java/lang/invoke/MethodHandle" ∧ yX1_bestExchange.cls ≠ "java/lang/invoke/VarHandle" ∧ (parseMethodDescriptor yX1_bestExchange.desc).map (fun d => d.parameters.length) = some 0 := by decide +kernel
set_option maxHeartbeats 4000000 in
set_option maxRecDepth 100000 in
theorem T_X10_swap (l : Launch) (D : va_G) (cy : Nat → ClassId) (a : Nat → Nat) (u : St) (hI_3_12 : fI u 3 12 = 0) (hR_0 : fR u 0 = a 3) (x1 : Int32)  : Mi l D cy (cW cy a) yX10_swap (.code yX10_swap cX10_swap 3 (some .int)) (rmo 2 50) [.ref (a 0), .int x1] u (fun (r : Int32) (u' : St) => r = (-1) ∧ u' = u) := by
  refine Mi.of (own := RX10) rfl (by decide) (Nat.le_of_ble_eq_true rfl) ?_
  intro p e s m below meth c A Q ls C hret hO hl
  obtain ⟨hx, hb, hml, hown, ht, hK, hA⟩ := id C
  have hl : lv_has ls 3 [(0, .ref (a 0)), (1, .int x1)] := hl
  refine lv_aload_n hx hb dX10_swap_0 rfl (lv_at hl 0 rfl) ?_
  refine gf_RX10_69 (v := .ref (a 36)) C hO 0 cW_0 rfl dX10_swap_1 ?_
  refine cVi (w := cW cy a) (As := []) (rest := []) C hO (T_X1_bestExchange l D cy a _ (by exact hI_3_12) (by exact hR_0)) (cwV 0 ht (gV wd_1159 wd_1160 wd_1161 wd_119 wd_1162) rfl rfl rfl hd_yX1_bestExchange ⟨Nat.le_of_ble_eq_true rfl, Nat.le_of_ble_eq_true rfl⟩) 36 rfl cW_36 rfl rfl hl.1 (Nat.le_of_ble_eq_true rfl) dX10_swap_4 rfl ⟨Nat.zero_le _, Nat.zero_le _⟩ (fun r1 u2 H locs hp3 hO => ?_)
  obtain ⟨hr1, hu2⟩ := hp3
  subst hr1
  rw [hu2] at hO
  refine lv_istore_n (lv' := [(2, .int (-1)), (0, .ref (a 0)), (1, .int x1)]) hx hb dX10_swap_7 rfl hl (by decide) rfl (fun ls hl => ?_)
  refine lv_iload_n hx hb dX10_swap_8 rfl (lv_at hl 0 rfl) ?_
  refine lv_iconst (v := (-1)) hx hb dX10_swap_9 (by decide) ?_
  refine ct_eq (tgt := 18) (X := (-1)) (Y := (-1)) hx hb dX10_swap_10 (by decide) rfl rfl (by omega) ?_
  refine lv_iload_n hx hb dX10_swap_18 rfl (lv_at hl 0 rfl) ?_
  refine lv_iload_n hx hb dX10_swap_19 rfl (lv_at hl 2 rfl) ?_
  refine cSi (w := cW cy a) (As := [.int (-1), .int x1]) (rest := []) C hO (T_X10_memberOf_m1 l D cy a _ (x1)) (va_cwS 2 ht (gSS wd_1100 wd_1101 wd_110 wd_1102) rfl rfl rfl hd_yX10_memberOf ⟨Nat.le_of_ble_eq_true rfl, Nat.le_of_ble_eq_true rfl⟩)  rfl hl.1 (Nat.le_of_ble_eq_true rfl) dX10_swap_20 rfl ⟨Nat.zero_le _, Nat.zero_le _⟩ (fun r4 u5 H locs hp6 hO => ?_)
  obtain ⟨hr4, hu5⟩ := hp6
  subst hr4
  rw [hu5] at hO
  refine hret _ _ _ _ _ _ dX10_swap_23 rfl ?_ hO
  exact ⟨rfl, rfl⟩
theorem dX10_advice_0 : decode cX10_advice 0 = .ok (.aload_n 0, 1) := by decide +kernel
theorem dX10_advice_1 : decode cX10_advice 1 = .ok (.getfield 37, 3) := by decide +kernel
theorem dX10_advice_4 : decode cX10_advice 4 = .ok (.iload_n 1, 1) := by decide +kernel
theorem dX10_advice_5 : decode cX10_advice 5 = .ok (.invokevirtual 189, 3) := by decide +kernel
theorem dX10_advice_8 : decode cX10_advice 8 = .ok (.ifCond .eq 12, 3) := by decide +kernel
theorem dX10_advice_11 : decode cX10_advice 11 = .ok (.iload_n 2, 1) := by decide +kernel
theorem dX10_advice_12 : decode cX10_advice 12 = .ok (.ifCond .lt 8, 3) := by decide +kernel
theorem dX10_advice_15 : decode cX10_advice 15 = .ok (.iload_n 2, 1) := by decide +kernel
theorem dX10_advice_16 : decode cX10_advice 16 = .ok (.iconst 1, 1) := by decide +kernel
theorem dX10_advice_17 : decode cX10_advice 17 = .ok (.if_icmp .le 6, 3) := by decide +kernel
theorem dX10_advice_20 : decode cX10_advice 20 = .ok (.ldc 159, 2) := by decide +kernel
theorem dX10_advice_22 : decode cX10_advice 22 = .ok (.ireturn, 1) := by decide +kernel
theorem dX10_advice_23 : decode cX10_advice 23 = .ok (.aload_n 0, 1) := by decide +kernel
theorem dX10_advice_24 : decode cX10_advice 24 = .ok (.getfield 69, 3) := by decide +kernel
theorem dX10_advice_27 : decode cX10_advice 27 = .ok (.iload_n 1, 1) := by decide +kernel
theorem dX10_advice_28 : decode cX10_advice 28 = .ok (.invokevirtual 270, 3) := by decide +kernel
theorem dX10_advice_31 : decode cX10_advice 31 = .ok (.istore_n 3, 1) := by decide +kernel
theorem dX10_advice_32 : decode cX10_advice 32 = .ok (.iload_n 3, 1) := by decide +kernel
theorem dX10_advice_33 : decode cX10_advice 33 = .ok (.iconst (-1), 1) := by decide +kernel
theorem dX10_advice_34 : decode cX10_advice 34 = .ok (.if_icmp .ne 6, 3) := by decide +kernel
theorem dX10_advice_37 : decode cX10_advice 37 = .ok (.ldc 159, 2) := by decide +kernel
theorem dX10_advice_39 : decode cX10_advice 39 = .ok (.ireturn, 1) := by decide +kernel
theorem dX10_advice_40 : decode cX10_advice 40 = .ok (.iload_n 2, 1) := by decide +kernel
theorem dX10_advice_41 : decode cX10_advice 41 = .ok (.ifCond .ne 7, 3) := by decide +kernel
theorem dX10_advice_44 : decode cX10_advice 44 = .ok (.iload_n 3, 1) := by decide +kernel
theorem dX10_advice_45 : decode cX10_advice 45 = .ok (.goto 27, 3) := by decide +kernel
theorem dX10_advice_48 : decode cX10_advice 48 = .ok (.aload_n 0, 1) := by decide +kernel
theorem dX10_advice_49 : decode cX10_advice 49 = .ok (.getfield 37, 3) := by decide +kernel
theorem dX10_advice_52 : decode cX10_advice 52 = .ok (.iload_n 1, 1) := by decide +kernel
theorem dX10_advice_53 : decode cX10_advice 53 = .ok (.aload_n 0, 1) := by decide +kernel
theorem dX10_advice_54 : decode cX10_advice 54 = .ok (.getfield 37, 3) := by decide +kernel
theorem dX10_advice_57 : decode cX10_advice 57 = .ok (.getfield 150, 3) := by decide +kernel
theorem dX10_advice_60 : decode cX10_advice 60 = .ok (.bipush 11, 2) := by decide +kernel
theorem dX10_advice_62 : decode cX10_advice 62 = .ok (.iload_n 1, 1) := by decide +kernel
theorem dX10_advice_63 : decode cX10_advice 63 = .ok (.iadd, 1) := by decide +kernel
theorem dX10_advice_64 : decode cX10_advice 64 = .ok (.iaload, 1) := by decide +kernel
theorem dX10_advice_65 : decode cX10_advice 65 = .ok (.iconst 1, 1) := by decide +kernel
theorem dX10_advice_66 : decode cX10_advice 66 = .ok (.iload_n 3, 1) := by decide +kernel
theorem dX10_advice_67 : decode cX10_advice 67 = .ok (.ishl, 1) := by decide +kernel
theorem dX10_advice_68 : decode cX10_advice 68 = .ok (.ior, 1) := by decide +kernel
theorem dX10_advice_69 : decode cX10_advice 69 = .ok (.invokevirtual 273, 3) := by decide +kernel
theorem dX10_advice_72 : decode cX10_advice 72 = .ok (.ireturn, 1) := by decide +kernel
theorem wd_1171 : (Cond.code ⟨"WebCourt", "advice", "(II)I"⟩ prog_1_method_33_code (4 : Nat) (Option.some FieldType.int)) ∈ gtb := gtb_c5 102 (by decide +kernel) rfl
set_option maxHeartbeats 4000000 in
set_option maxRecDepth 100000 in
theorem T_X10_advice (l : Launch) (D : va_G) (cy : Nat → ClassId) (a : Nat → Nat) (u : St) (hI_3_12 : fI u 3 12 = 0) (hR_0 : fR u 0 = a 3) (x1 : Int32) (x2 : Int32)  : Mi l D cy (cW cy a) yX10_advice (.code yX10_advice cX10_advice 4 (some .int)) (rmo 2 42) [.ref (a 0), .int x1, .int x2] u (fun (r : Int32) (u' : St) => r = (-1000000000) ∧ u' = u) := by
  refine Mi.of (own := RX10) rfl (by decide) (Nat.le_of_ble_eq_true rfl) ?_
  intro p e s m below meth c A Q ls C hret hO hl
  obtain ⟨hx, hb, hml, hown, ht, hK, hA⟩ := id C
  have hl : lv_has ls 4 [(0, .ref (a 0)), (1, .int x1), (2, .int x2)] := hl
  refine lv_aload_n hx hb dX10_advice_0 rfl (lv_at hl 0 rfl) ?_
  refine gf_RX10_37 (v := .ref (a 28)) C hO 0 cW_0 rfl dX10_advice_1 ?_
  refine lv_iload_n hx hb dX10_advice_4 rfl (lv_at hl 1 rfl) ?_
  refine cVi (w := cW cy a) (As := [.int x1]) (rest := []) C hO (T_X2_isHeld l D cy a _ (by exact hI_3_12) (by exact hR_0) (x1)) (cwV 1 ht (gV wd_961 wd_930 wd_931 wd_115 wd_932) rfl rfl rfl hd_yX2_isHeld ⟨Nat.le_of_ble_eq_true rfl, Nat.le_of_ble_eq_true rfl⟩) 28 rfl cW_28 rfl rfl hl.1 (Nat.le_of_ble_eq_true rfl) dX10_advice_5 rfl ⟨Nat.zero_le _, Nat.zero_le _⟩ (fun r1 u2 H locs hp3 hO => ?_)
  obtain ⟨hr1, hu2⟩ := hp3
  subst hr1
  rw [hu2] at hO
  refine bt_eq (tgt := 20) (X := 0) hx hb dX10_advice_8 (by decide) rfl (by omega) ?_
  refine lv_ldc (v := (-1000000000)) hx hb hown (ht _ wd_895) dX10_advice_20 ?_
  refine hret _ _ _ _ _ _ dX10_advice_22 rfl ?_ hO
  exact ⟨rfl, rfl⟩
theorem dX1_freeNow_0 : decode cX1_freeNow 0 = .ok (.iconst 0, 1) := by decide +kernel
theorem dX1_freeNow_1 : decode cX1_freeNow 1 = .ok (.istore_n 1, 1) := by decide +kernel
theorem dX1_freeNow_2 : decode cX1_freeNow 2 = .ok (.iconst 0, 1) := by decide +kernel
theorem dX1_freeNow_3 : decode cX1_freeNow 3 = .ok (.istore_n 2, 1) := by decide +kernel
theorem dX1_freeNow_4 : decode cX1_freeNow 4 = .ok (.iload_n 2, 1) := by decide +kernel
theorem dX1_freeNow_5 : decode cX1_freeNow 5 = .ok (.aload_n 0, 1) := by decide +kernel
theorem dX1_freeNow_6 : decode cX1_freeNow 6 = .ok (.getfield 18, 3) := by decide +kernel
theorem dX1_freeNow_9 : decode cX1_freeNow 9 = .ok (.getfield 34, 3) := by decide +kernel
theorem dX1_freeNow_12 : decode cX1_freeNow 12 = .ok (.getfield 44, 3) := by decide +kernel
theorem dX1_freeNow_15 : decode cX1_freeNow 15 = .ok (.if_icmp .ge 37, 3) := by decide +kernel
theorem dX1_freeNow_18 : decode cX1_freeNow 18 = .ok (.aload_n 0, 1) := by decide +kernel
theorem dX1_freeNow_19 : decode cX1_freeNow 19 = .ok (.getfield 18, 3) := by decide +kernel
theorem dX1_freeNow_22 : decode cX1_freeNow 22 = .ok (.iload_n 2, 1) := by decide +kernel
theorem dX1_freeNow_23 : decode cX1_freeNow 23 = .ok (.invokevirtual 47, 3) := by decide +kernel
theorem dX1_freeNow_26 : decode cX1_freeNow 26 = .ok (.ifCond .eq 20, 3) := by decide +kernel
theorem dX1_freeNow_29 : decode cX1_freeNow 29 = .ok (.aload_n 0, 1) := by decide +kernel
theorem dX1_freeNow_30 : decode cX1_freeNow 30 = .ok (.getfield 18, 3) := by decide +kernel
theorem dX1_freeNow_33 : decode cX1_freeNow 33 = .ok (.iload_n 2, 1) := by decide +kernel
theorem dX1_freeNow_34 : decode cX1_freeNow 34 = .ok (.invokevirtual 69, 3) := by decide +kernel
theorem dX1_freeNow_37 : decode cX1_freeNow 37 = .ok (.ifCond .le 9, 3) := by decide +kernel
theorem dX1_freeNow_40 : decode cX1_freeNow 40 = .ok (.iload_n 1, 1) := by decide +kernel
theorem dX1_freeNow_41 : decode cX1_freeNow 41 = .ok (.iconst 1, 1) := by decide +kernel
theorem dX1_freeNow_42 : decode cX1_freeNow 42 = .ok (.iload_n 2, 1) := by decide +kernel
theorem dX1_freeNow_43 : decode cX1_freeNow 43 = .ok (.ishl, 1) := by decide +kernel
theorem dX1_freeNow_44 : decode cX1_freeNow 44 = .ok (.ior, 1) := by decide +kernel
theorem dX1_freeNow_45 : decode cX1_freeNow 45 = .ok (.istore_n 1, 1) := by decide +kernel
theorem dX1_freeNow_46 : decode cX1_freeNow 46 = .ok (.iinc 2 1, 3) := by decide +kernel
theorem dX1_freeNow_49 : decode cX1_freeNow 49 = .ok (.goto (-45), 3) := by decide +kernel
theorem dX1_freeNow_52 : decode cX1_freeNow 52 = .ok (.iload_n 1, 1) := by decide +kernel
theorem dX1_freeNow_53 : decode cX1_freeNow 53 = .ok (.ireturn, 1) := by decide +kernel
theorem wd_1184 : (Cond.code ⟨"WebCourt$Counsel", "freeNow", "()I"⟩ prog_3_method_14_code (3 : Nat) (Option.some FieldType.int)) ∈ gtb := gtb_c5 115 (by decide +kernel) rfl
set_option maxHeartbeats 4000000 in
set_option maxRecDepth 100000 in
theorem T_X1_freeNow (l : Launch) (D : va_G) (cy : Nat → ClassId) (a : Nat → Nat) (u : St) (hI_3_12 : fI u 3 12 = 0) (hR_0 : fR u 0 = a 3)   : Mi l D cy (cW cy a) yX1_freeNow (.code yX1_freeNow cX1_freeNow 3 (some .int)) (rmo 0 0) [.ref (a 36)] u (fun (r : Int32) (u' : St) => r = 0 ∧ u' = u) := by
  refine Mi.of (own := RX1) rfl (by decide) (Nat.le_of_ble_eq_true rfl) ?_
  intro p e s m below meth c A Q ls C hret hO hl
  obtain ⟨hx, hb, hml, hown, ht, hK, hA⟩ := id C
  have hl : lv_has ls 3 [(0, .ref (a 36))] := hl
  refine lv_iconst (v := 0) hx hb dX1_freeNow_0 (by decide) ?_
  refine lv_istore_n (lv' := [(1, .int 0), (0, .ref (a 36))]) hx hb dX1_freeNow_1 rfl hl (by decide) rfl (fun ls hl => ?_)
  refine lv_iconst (v := 0) hx hb dX1_freeNow_2 (by decide) ?_
  refine lv_istore_n (lv' := [(2, .int 0), (1, .int 0), (0, .ref (a 36))]) hx hb dX1_freeNow_3 rfl hl (by decide) rfl (fun ls hl => ?_)
  refine lv_iload_n hx hb dX1_freeNow_4 rfl (lv_at hl 0 rfl) ?_
  refine lv_aload_n hx hb dX1_freeNow_5 rfl (lv_at hl 2 rfl) ?_
  refine gf_RX1_18 (v := .ref (a 28)) C hO 36 cW_36 rfl dX1_freeNow_6 ?_
  refine gf_RX1_34 (v := .ref (a 3)) C hO 28 cW_28 (congrArg (fun z : Nat => some (Value.ref z)) hR_0) dX1_freeNow_9 ?_
  refine gf_RX1_44 (v := .int 0) C hO 3 cW_3 (congrArg (fun z : Int32 => some (Value.int z)) hI_3_12) dX1_freeNow_12 ?_
  refine ct_ge (tgt := 52) (X := 0) (Y := 0) hx hb dX1_freeNow_15 (by decide) rfl rfl (by omega) ?_
  refine lv_iload_n hx hb dX1_freeNow_52 rfl (lv_at hl 1 rfl) ?_
  refine hret _ _ _ _ _ _ dX1_freeNow_53 rfl ?_ hO
  exact ⟨rfl, rfl⟩
theorem dX10_free_0 : decode cX10_free 0 = .ok (.aload_n 0, 1) := by decide +kernel
theorem dX10_free_1 : decode cX10_free 1 = .ok (.getfield 69, 3) := by decide +kernel
theorem dX10_free_4 : decode cX10_free 4 = .ok (.invokevirtual 276, 3) := by decide +kernel
theorem dX10_free_7 : decode cX10_free 7 = .ok (.ireturn, 1) := by decide +kernel
theorem wd_1180 : (Cond.code ⟨"WebCourt", "free", "()I"⟩ prog_1_method_34_code (1 : Nat) (Option.some FieldType.int)) ∈ gtb := gtb_c5 111 (by decide +kernel) rfl
theorem wd_1181 : (Cond.methodLink "WebCourt" (276 : Nat) ⟨"WebCourt$Counsel", "freeNow", "()I"⟩) ∈ gtb := gtb_c5 112 (by decide +kernel) rfl
theorem wd_1182 : (Cond.instanceMethod ⟨"WebCourt$Counsel", "freeNow", "()I"⟩) ∈ gtb := gtb_c5 113 (by decide +kernel) rfl
theorem wd_1183 : (Cond.selects "WebCourt$Counsel" ⟨"WebCourt$Counsel", "freeNow", "()I"⟩ ⟨"WebCourt$Counsel", "freeNow", "()I"⟩) ∈ gtb := gtb_c5 114 (by decide +kernel) rfl
theorem hd_yX1_freeNow : yX1_freeNow.cls = RX1 ∧ yX1_freeNow.cls ≠ "java/lang/invoke/MethodHandle" ∧ yX1_freeNow.cls ≠ "java/lang/invoke/VarHandle" ∧ (parseMethodDescriptor yX1_freeNow.desc).map (fun d => d.parameters.length) = some 0 := by decide +kernel
set_option maxHeartbeats 4000000 in
set_option maxRecDepth 100000 in
theorem T_X10_free (l : Launch) (D : va_G) (cy : Nat → ClassId) (a : Nat → Nat) (u : St) (hI_3_12 : fI u 3 12 = 0) (hR_0 : fR u 0 = a 3)   : Mi l D cy (cW cy a) yX10_free (.code yX10_free cX10_free 1 (some .int)) (rmo 1 22) [.ref (a 0)] u (fun (r : Int32) (u' : St) => r = 0 ∧ u' = u) := by
  refine Mi.of (own := RX10) rfl (by decide) (Nat.le_of_ble_eq_true rfl) ?_
  intro p e s m below meth c A Q ls C hret hO hl
  obtain ⟨hx, hb, hml, hown, ht, hK, hA⟩ := id C
  have hl : lv_has ls 1 [(0, .ref (a 0))] := hl
  refine lv_aload_n hx hb dX10_free_0 rfl (lv_at hl 0 rfl) ?_
  refine gf_RX10_69 (v := .ref (a 36)) C hO 0 cW_0 rfl dX10_free_1 ?_
  refine cVi (w := cW cy a) (As := []) (rest := []) C hO (T_X1_freeNow l D cy a _ (by exact hI_3_12) (by exact hR_0)) (cwV 0 ht (gV wd_1181 wd_1182 wd_1183 wd_119 wd_1184) rfl rfl rfl hd_yX1_freeNow ⟨Nat.le_of_ble_eq_true rfl, Nat.le_of_ble_eq_true rfl⟩) 36 rfl cW_36 rfl rfl hl.1 (Nat.le_of_ble_eq_true rfl) dX10_free_4 rfl ⟨Nat.zero_le _, Nat.zero_le _⟩ (fun r1 u2 H locs hp3 hO => ?_)
  obtain ⟨hr1, hu2⟩ := hp3
  subst hr1
  rw [hu2] at hO
  refine hret _ _ _ _ _ _ dX10_free_7 rfl ?_ hO
  exact ⟨rfl, rfl⟩
theorem dX8_reached_0 : decode cX8_reached 0 = .ok (.aload_n 0, 1) := by decide +kernel
theorem dX8_reached_1 : decode cX8_reached 1 = .ok (.getfield 15, 3) := by decide +kernel
theorem dX8_reached_4 : decode cX8_reached 4 = .ok (.getfield 33, 3) := by decide +kernel
theorem dX8_reached_7 : decode cX8_reached 7 = .ok (.iconst 0, 1) := by decide +kernel
theorem dX8_reached_8 : decode cX8_reached 8 = .ok (.iaload, 1) := by decide +kernel
theorem dX8_reached_9 : decode cX8_reached 9 = .ok (.iconst (-1), 1) := by decide +kernel
theorem dX8_reached_10 : decode cX8_reached 10 = .ok (.if_icmp .ne 7, 3) := by decide +kernel
theorem dX8_reached_13 : decode cX8_reached 13 = .ok (.iconst 0, 1) := by decide +kernel
theorem dX8_reached_14 : decode cX8_reached 14 = .ok (.goto 14, 3) := by decide +kernel
theorem dX8_reached_17 : decode cX8_reached 17 = .ok (.iconst 1, 1) := by decide +kernel
theorem dX8_reached_18 : decode cX8_reached 18 = .ok (.aload_n 0, 1) := by decide +kernel
theorem dX8_reached_19 : decode cX8_reached 19 = .ok (.getfield 15, 3) := by decide +kernel
theorem dX8_reached_22 : decode cX8_reached 22 = .ok (.getfield 33, 3) := by decide +kernel
theorem dX8_reached_25 : decode cX8_reached 25 = .ok (.iconst 0, 1) := by decide +kernel
theorem dX8_reached_26 : decode cX8_reached 26 = .ok (.iaload, 1) := by decide +kernel
theorem dX8_reached_27 : decode cX8_reached 27 = .ok (.ishl, 1) := by decide +kernel
theorem dX8_reached_28 : decode cX8_reached 28 = .ok (.istore_n 2, 1) := by decide +kernel
theorem dX8_reached_29 : decode cX8_reached 29 = .ok (.iconst 0, 1) := by decide +kernel
theorem dX8_reached_30 : decode cX8_reached 30 = .ok (.istore_n 3, 1) := by decide +kernel
theorem dX8_reached_31 : decode cX8_reached 31 = .ok (.iload_n 3, 1) := by decide +kernel
theorem dX8_reached_32 : decode cX8_reached 32 = .ok (.bipush 8, 2) := by decide +kernel
theorem dX8_reached_34 : decode cX8_reached 34 = .ok (.if_icmp .ge 87, 3) := by decide +kernel
theorem dX8_reached_37 : decode cX8_reached 37 = .ok (.iconst 0, 1) := by decide +kernel
theorem dX8_reached_38 : decode cX8_reached 38 = .ok (.istore 4, 2) := by decide +kernel
theorem dX8_reached_40 : decode cX8_reached 40 = .ok (.iload 4, 2) := by decide +kernel
theorem dX8_reached_42 : decode cX8_reached 42 = .ok (.aload_n 0, 1) := by decide +kernel
theorem dX8_reached_43 : decode cX8_reached 43 = .ok (.getfield 15, 3) := by decide +kernel
theorem dX8_reached_46 : decode cX8_reached 46 = .ok (.getfield 44, 3) := by decide +kernel
theorem dX8_reached_49 : decode cX8_reached 49 = .ok (.getfield 54, 3) := by decide +kernel
theorem dX8_reached_52 : decode cX8_reached 52 = .ok (.if_icmp .ge 63, 3) := by decide +kernel
theorem dX8_reached_55 : decode cX8_reached 55 = .ok (.iconst 1, 1) := by decide +kernel
theorem dX8_reached_56 : decode cX8_reached 56 = .ok (.aload_n 0, 1) := by decide +kernel
theorem dX8_reached_57 : decode cX8_reached 57 = .ok (.getfield 15, 3) := by decide +kernel
theorem dX8_reached_60 : decode cX8_reached 60 = .ok (.getfield 44, 3) := by decide +kernel
theorem dX8_reached_63 : decode cX8_reached 63 = .ok (.getfield 57, 3) := by decide +kernel
theorem dX8_reached_66 : decode cX8_reached 66 = .ok (.iload 4, 2) := by decide +kernel
theorem dX8_reached_68 : decode cX8_reached 68 = .ok (.iaload, 1) := by decide +kernel
theorem dX8_reached_69 : decode cX8_reached 69 = .ok (.ishl, 1) := by decide +kernel
theorem dX8_reached_70 : decode cX8_reached 70 = .ok (.iconst 1, 1) := by decide +kernel
theorem dX8_reached_71 : decode cX8_reached 71 = .ok (.aload_n 0, 1) := by decide +kernel
theorem dX8_reached_72 : decode cX8_reached 72 = .ok (.getfield 15, 3) := by decide +kernel
theorem dX8_reached_75 : decode cX8_reached 75 = .ok (.getfield 44, 3) := by decide +kernel
theorem dX8_reached_78 : decode cX8_reached 78 = .ok (.getfield 60, 3) := by decide +kernel
theorem dX8_reached_81 : decode cX8_reached 81 = .ok (.iload 4, 2) := by decide +kernel
theorem dX8_reached_83 : decode cX8_reached 83 = .ok (.iaload, 1) := by decide +kernel
theorem dX8_reached_84 : decode cX8_reached 84 = .ok (.ishl, 1) := by decide +kernel
theorem dX8_reached_85 : decode cX8_reached 85 = .ok (.ior, 1) := by decide +kernel
theorem dX8_reached_86 : decode cX8_reached 86 = .ok (.istore 5, 2) := by decide +kernel
theorem dX8_reached_88 : decode cX8_reached 88 = .ok (.iload_n 1, 1) := by decide +kernel
theorem dX8_reached_89 : decode cX8_reached 89 = .ok (.iload 4, 2) := by decide +kernel
theorem dX8_reached_91 : decode cX8_reached 91 = .ok (.ishr, 1) := by decide +kernel
theorem dX8_reached_92 : decode cX8_reached 92 = .ok (.iconst 1, 1) := by decide +kernel
theorem dX8_reached_93 : decode cX8_reached 93 = .ok (.iand, 1) := by decide +kernel
theorem dX8_reached_94 : decode cX8_reached 94 = .ok (.ifCond .ne 15, 3) := by decide +kernel
theorem dX8_reached_97 : decode cX8_reached 97 = .ok (.iload_n 2, 1) := by decide +kernel
theorem dX8_reached_98 : decode cX8_reached 98 = .ok (.iload 5, 2) := by decide +kernel
theorem dX8_reached_100 : decode cX8_reached 100 = .ok (.iand, 1) := by decide +kernel
theorem dX8_reached_101 : decode cX8_reached 101 = .ok (.ifCond .eq 8, 3) := by decide +kernel
theorem dX8_reached_104 : decode cX8_reached 104 = .ok (.iload_n 2, 1) := by decide +kernel
theorem dX8_reached_105 : decode cX8_reached 105 = .ok (.iload 5, 2) := by decide +kernel
theorem dX8_reached_107 : decode cX8_reached 107 = .ok (.ior, 1) := by decide +kernel
theorem dX8_reached_108 : decode cX8_reached 108 = .ok (.istore_n 2, 1) := by decide +kernel
theorem dX8_reached_109 : decode cX8_reached 109 = .ok (.iinc 4 1, 3) := by decide +kernel
theorem dX8_reached_112 : decode cX8_reached 112 = .ok (.goto (-72), 3) := by decide +kernel
theorem dX8_reached_115 : decode cX8_reached 115 = .ok (.iinc 3 1, 3) := by decide +kernel
theorem dX8_reached_118 : decode cX8_reached 118 = .ok (.goto (-87), 3) := by decide +kernel
theorem dX8_reached_121 : decode cX8_reached 121 = .ok (.iload_n 2, 1) := by decide +kernel
theorem dX8_reached_122 : decode cX8_reached 122 = .ok (.ireturn, 1) := by decide +kernel
theorem wd_1139 : (Cond.code ⟨"WebCourt$Ways", "reached", "(I)I"⟩ prog_10_method_7_code (6 : Nat) (Option.some FieldType.int)) ∈ gtb := gtb_c5 70 (by decide +kernel) rfl
theorem wd_355 : (Cond.fieldLink "WebCourt$Ways" (33 : Nat) "WebCourt$Court" "row" "[I") ∈ gtb := gtb_c2 6 (by decide +kernel) rfl
theorem gf_RX8_33 {p : Program} {l : Launch} {e : Env} {R : Room} {s : State} {m : MethodId} {args : Array Value} {below : List Frame} {meth : Method} {c : Code} {H : Heap} {locs : List Loc} {cells slots : Nat} {Q : State → Prop} {cc : ByteArray} {pc nL : Nat} {ls : Array Slot} {rest : List Value} {D : va_G} {cy : Nat → ClassId} {A : Nat → Prop} {ws : va_W} {b : Nat} {fs : List Value} {v : Value} (C : Cx p s m args c cc nL RX8 D cy A) (hO : Wo D A ws s.heap H locs) (q0 : Nat) (he : ws[q0]? = some (b, .inr (2, fs))) (hv : fs[0]? = some v) (hdg : decode cc pc = .ok (.getfield 33, 3)) (kk : W p l e R s m args below meth c H locs cells slots Q (F0 m (pc + 3) ls (v :: rest))) : W p l e R s m args below meth c H locs cells slots Q (F0 m pc ls (.ref b :: rest)) := gF (k := 0) C hO q0 he rfl inFX2 (by decide) wd_355 rfl hv hdg kk
set_option maxHeartbeats 4000000 in
set_option maxRecDepth 100000 in
theorem T_X8_reached_0 (l : Launch) (D : va_G) (cy : Nat → ClassId) (a : Nat → Nat) (u : St) (hA_29_0 : fA u 29 0 = (-1)) (hI_3_10 : fI u 3 10 = 0) (hR_0 : fR u 0 = a 3)   : Mi l D cy (cW cy a) yX8_reached (.code yX8_reached cX8_reached 6 (some .int)) (rmo 0 0) [.ref (a 32), .int 0] u (fun (r : Int32) (u' : St) => r = 0 ∧ u' = u) := by
  refine Mi.of (own := RX8) rfl (by decide) (Nat.le_of_ble_eq_true rfl) ?_
  intro p e s m below meth c A Q ls C hret hO hl
  obtain ⟨hx, hb, hml, hown, ht, hK, hA⟩ := id C
  have hl : lv_has ls 6 [(0, .ref (a 32)), (1, .int 0)] := hl
  refine lv_aload_n hx hb dX8_reached_0 rfl (lv_at hl 0 rfl) ?_
  refine gf_RX8_15 (v := .ref (a 28)) C hO 32 cW_32 rfl dX8_reached_1 ?_
  refine gf_RX8_33 (v := .ref (a 29)) C hO 28 cW_28 rfl dX8_reached_4 ?_
  refine lv_iconst (v := 0) hx hb dX8_reached_7 (by decide) ?_
  refine aI C hO 29 cW_29 (i_in (X := 0) rfl (by omega) (by omega)) dX8_reached_8 ?_
  refine tE (y := (-1)) hA_29_0 ?_
  refine lv_iconst (v := (-1)) hx hb dX8_reached_9 (by decide) ?_
  refine cn_ne (X := (-1)) (Y := (-1)) hx hb dX8_reached_10 rfl rfl (by omega) ?_ (tgt := 17) (by decide)
  refine lv_iconst (v := 0) hx hb dX8_reached_13 (by decide) ?_
  refine lv_goto (tgt := 28) hx hb dX8_reached_14 (by decide) ?_
  refine lv_istore_n (lv' := [(2, .int 0), (0, .ref (a 32)), (1, .int 0)]) hx hb dX8_reached_28 rfl hl (by decide) rfl (fun ls hl => ?_)
  refine lv_iconst (v := 0) hx hb dX8_reached_29 (by decide) ?_
  refine lv_istore_n (lv' := [(3, .int 0), (2, .int 0), (0, .ref (a 32)), (1, .int 0)]) hx hb dX8_reached_30 rfl hl (by decide) rfl (fun ls hl => ?_)
  refine lv_iload_n hx hb dX8_reached_31 rfl (lv_at hl 0 rfl) ?_
  refine lv_bipush (v := 8) hx hb dX8_reached_32 (by decide) ?_
  refine cn_ge (X := 0) (Y := 8) hx hb dX8_reached_34 rfl rfl (by omega) ?_ (tgt := 121) (by decide)
  refine lv_iconst (v := 0) hx hb dX8_reached_37 (by decide) ?_
  refine lv_istore (lv' := [(4, .int 0), (3, .int 0), (2, .int 0), (0, .ref (a 32)), (1, .int 0)]) hx hb dX8_reached_38 hl (by decide) rfl (fun ls hl => ?_)
  refine lv_iload hx hb dX8_reached_40 (lv_at hl 0 rfl) ?_
  refine lv_aload_n hx hb dX8_reached_42 rfl (lv_at hl 3 rfl) ?_
  refine gf_RX8_15 (v := .ref (a 28)) C hO 32 cW_32 rfl dX8_reached_43 ?_
  refine gf_RX8_44 (v := .ref (a 3)) C hO 28 cW_28 (congrArg (fun z : Nat => some (Value.ref z)) hR_0) dX8_reached_46 ?_
  refine gf_RX8_54 (v := .int 0) C hO 3 cW_3 (congrArg (fun z : Int32 => some (Value.int z)) hI_3_10) dX8_reached_49 ?_
  refine ct_ge (tgt := 115) (X := 0) (Y := 0) hx hb dX8_reached_52 (by decide) rfl rfl (by omega) ?_
  refine lv_iinc (v := 1) (lv' := [(3, .int 1), (4, .int 0), (2, .int 0), (0, .ref (a 32)), (1, .int 0)]) hx hb dX8_reached_115 hl (k := 1) rfl rfl (by decide) rfl (fun ls hl => ?_)
  refine lv_goto (tgt := 31) hx hb dX8_reached_118 (by decide) ?_
  refine lv_iload_n hx hb dX8_reached_31 rfl (lv_at hl 0 rfl) ?_
  refine lv_bipush (v := 8) hx hb dX8_reached_32 (by decide) ?_
  refine cn_ge (X := 1) (Y := 8) hx hb dX8_reached_34 rfl rfl (by omega) ?_ (tgt := 121) (by decide)
  refine lv_iconst (v := 0) hx hb dX8_reached_37 (by decide) ?_
  refine lv_istore (lv' := [(4, .int 0), (3, .int 1), (2, .int 0), (0, .ref (a 32)), (1, .int 0)]) hx hb dX8_reached_38 hl (by decide) rfl (fun ls hl => ?_)
  refine lv_iload hx hb dX8_reached_40 (lv_at hl 0 rfl) ?_
  refine lv_aload_n hx hb dX8_reached_42 rfl (lv_at hl 3 rfl) ?_
  refine gf_RX8_15 (v := .ref (a 28)) C hO 32 cW_32 rfl dX8_reached_43 ?_
  refine gf_RX8_44 (v := .ref (a 3)) C hO 28 cW_28 (congrArg (fun z : Nat => some (Value.ref z)) hR_0) dX8_reached_46 ?_
  refine gf_RX8_54 (v := .int 0) C hO 3 cW_3 (congrArg (fun z : Int32 => some (Value.int z)) hI_3_10) dX8_reached_49 ?_
  refine ct_ge (tgt := 115) (X := 0) (Y := 0) hx hb dX8_reached_52 (by decide) rfl rfl (by omega) ?_
  refine lv_iinc (v := 2) (lv' := [(3, .int 2), (4, .int 0), (2, .int 0), (0, .ref (a 32)), (1, .int 0)]) hx hb dX8_reached_115 hl (k := 1) rfl rfl (by decide) rfl (fun ls hl => ?_)
  refine lv_goto (tgt := 31) hx hb dX8_reached_118 (by decide) ?_
  refine lv_iload_n hx hb dX8_reached_31 rfl (lv_at hl 0 rfl) ?_
  refine lv_bipush (v := 8) hx hb dX8_reached_32 (by decide) ?_
  refine cn_ge (X := 2) (Y := 8) hx hb dX8_reached_34 rfl rfl (by omega) ?_ (tgt := 121) (by decide)
  refine lv_iconst (v := 0) hx hb dX8_reached_37 (by decide) ?_
  refine lv_istore (lv' := [(4, .int 0), (3, .int 2), (2, .int 0), (0, .ref (a 32)), (1, .int 0)]) hx hb dX8_reached_38 hl (by decide) rfl (fun ls hl => ?_)
  refine lv_iload hx hb dX8_reached_40 (lv_at hl 0 rfl) ?_
  refine lv_aload_n hx hb dX8_reached_42 rfl (lv_at hl 3 rfl) ?_
  refine gf_RX8_15 (v := .ref (a 28)) C hO 32 cW_32 rfl dX8_reached_43 ?_
  refine gf_RX8_44 (v := .ref (a 3)) C hO 28 cW_28 (congrArg (fun z : Nat => some (Value.ref z)) hR_0) dX8_reached_46 ?_
  refine gf_RX8_54 (v := .int 0) C hO 3 cW_3 (congrArg (fun z : Int32 => some (Value.int z)) hI_3_10) dX8_reached_49 ?_
  refine ct_ge (tgt := 115) (X := 0) (Y := 0) hx hb dX8_reached_52 (by decide) rfl rfl (by omega) ?_
  refine lv_iinc (v := 3) (lv' := [(3, .int 3), (4, .int 0), (2, .int 0), (0, .ref (a 32)), (1, .int 0)]) hx hb dX8_reached_115 hl (k := 1) rfl rfl (by decide) rfl (fun ls hl => ?_)
  refine lv_goto (tgt := 31) hx hb dX8_reached_118 (by decide) ?_
  refine lv_iload_n hx hb dX8_reached_31 rfl (lv_at hl 0 rfl) ?_
  refine lv_bipush (v := 8) hx hb dX8_reached_32 (by decide) ?_
  refine cn_ge (X := 3) (Y := 8) hx hb dX8_reached_34 rfl rfl (by omega) ?_ (tgt := 121) (by decide)
  refine lv_iconst (v := 0) hx hb dX8_reached_37 (by decide) ?_
  refine lv_istore (lv' := [(4, .int 0), (3, .int 3), (2, .int 0), (0, .ref (a 32)), (1, .int 0)]) hx hb dX8_reached_38 hl (by decide) rfl (fun ls hl => ?_)
  refine lv_iload hx hb dX8_reached_40 (lv_at hl 0 rfl) ?_
  refine lv_aload_n hx hb dX8_reached_42 rfl (lv_at hl 3 rfl) ?_
  refine gf_RX8_15 (v := .ref (a 28)) C hO 32 cW_32 rfl dX8_reached_43 ?_
  refine gf_RX8_44 (v := .ref (a 3)) C hO 28 cW_28 (congrArg (fun z : Nat => some (Value.ref z)) hR_0) dX8_reached_46 ?_
  refine gf_RX8_54 (v := .int 0) C hO 3 cW_3 (congrArg (fun z : Int32 => some (Value.int z)) hI_3_10) dX8_reached_49 ?_
  refine ct_ge (tgt := 115) (X := 0) (Y := 0) hx hb dX8_reached_52 (by decide) rfl rfl (by omega) ?_
  refine lv_iinc (v := 4) (lv' := [(3, .int 4), (4, .int 0), (2, .int 0), (0, .ref (a 32)), (1, .int 0)]) hx hb dX8_reached_115 hl (k := 1) rfl rfl (by decide) rfl (fun ls hl => ?_)
  refine lv_goto (tgt := 31) hx hb dX8_reached_118 (by decide) ?_
  refine lv_iload_n hx hb dX8_reached_31 rfl (lv_at hl 0 rfl) ?_
  refine lv_bipush (v := 8) hx hb dX8_reached_32 (by decide) ?_
  refine cn_ge (X := 4) (Y := 8) hx hb dX8_reached_34 rfl rfl (by omega) ?_ (tgt := 121) (by decide)
  refine lv_iconst (v := 0) hx hb dX8_reached_37 (by decide) ?_
  refine lv_istore (lv' := [(4, .int 0), (3, .int 4), (2, .int 0), (0, .ref (a 32)), (1, .int 0)]) hx hb dX8_reached_38 hl (by decide) rfl (fun ls hl => ?_)
  refine lv_iload hx hb dX8_reached_40 (lv_at hl 0 rfl) ?_
  refine lv_aload_n hx hb dX8_reached_42 rfl (lv_at hl 3 rfl) ?_
  refine gf_RX8_15 (v := .ref (a 28)) C hO 32 cW_32 rfl dX8_reached_43 ?_
  refine gf_RX8_44 (v := .ref (a 3)) C hO 28 cW_28 (congrArg (fun z : Nat => some (Value.ref z)) hR_0) dX8_reached_46 ?_
  refine gf_RX8_54 (v := .int 0) C hO 3 cW_3 (congrArg (fun z : Int32 => some (Value.int z)) hI_3_10) dX8_reached_49 ?_
  refine ct_ge (tgt := 115) (X := 0) (Y := 0) hx hb dX8_reached_52 (by decide) rfl rfl (by omega) ?_
  refine lv_iinc (v := 5) (lv' := [(3, .int 5), (4, .int 0), (2, .int 0), (0, .ref (a 32)), (1, .int 0)]) hx hb dX8_reached_115 hl (k := 1) rfl rfl (by decide) rfl (fun ls hl => ?_)
  refine lv_goto (tgt := 31) hx hb dX8_reached_118 (by decide) ?_
  refine lv_iload_n hx hb dX8_reached_31 rfl (lv_at hl 0 rfl) ?_
  refine lv_bipush (v := 8) hx hb dX8_reached_32 (by decide) ?_
  refine cn_ge (X := 5) (Y := 8) hx hb dX8_reached_34 rfl rfl (by omega) ?_ (tgt := 121) (by decide)
  refine lv_iconst (v := 0) hx hb dX8_reached_37 (by decide) ?_
  refine lv_istore (lv' := [(4, .int 0), (3, .int 5), (2, .int 0), (0, .ref (a 32)), (1, .int 0)]) hx hb dX8_reached_38 hl (by decide) rfl (fun ls hl => ?_)
  refine lv_iload hx hb dX8_reached_40 (lv_at hl 0 rfl) ?_
  refine lv_aload_n hx hb dX8_reached_42 rfl (lv_at hl 3 rfl) ?_
  refine gf_RX8_15 (v := .ref (a 28)) C hO 32 cW_32 rfl dX8_reached_43 ?_
  refine gf_RX8_44 (v := .ref (a 3)) C hO 28 cW_28 (congrArg (fun z : Nat => some (Value.ref z)) hR_0) dX8_reached_46 ?_
  refine gf_RX8_54 (v := .int 0) C hO 3 cW_3 (congrArg (fun z : Int32 => some (Value.int z)) hI_3_10) dX8_reached_49 ?_
  refine ct_ge (tgt := 115) (X := 0) (Y := 0) hx hb dX8_reached_52 (by decide) rfl rfl (by omega) ?_
  refine lv_iinc (v := 6) (lv' := [(3, .int 6), (4, .int 0), (2, .int 0), (0, .ref (a 32)), (1, .int 0)]) hx hb dX8_reached_115 hl (k := 1) rfl rfl (by decide) rfl (fun ls hl => ?_)
  refine lv_goto (tgt := 31) hx hb dX8_reached_118 (by decide) ?_
  refine lv_iload_n hx hb dX8_reached_31 rfl (lv_at hl 0 rfl) ?_
  refine lv_bipush (v := 8) hx hb dX8_reached_32 (by decide) ?_
  refine cn_ge (X := 6) (Y := 8) hx hb dX8_reached_34 rfl rfl (by omega) ?_ (tgt := 121) (by decide)
  refine lv_iconst (v := 0) hx hb dX8_reached_37 (by decide) ?_
  refine lv_istore (lv' := [(4, .int 0), (3, .int 6), (2, .int 0), (0, .ref (a 32)), (1, .int 0)]) hx hb dX8_reached_38 hl (by decide) rfl (fun ls hl => ?_)
  refine lv_iload hx hb dX8_reached_40 (lv_at hl 0 rfl) ?_
  refine lv_aload_n hx hb dX8_reached_42 rfl (lv_at hl 3 rfl) ?_
  refine gf_RX8_15 (v := .ref (a 28)) C hO 32 cW_32 rfl dX8_reached_43 ?_
  refine gf_RX8_44 (v := .ref (a 3)) C hO 28 cW_28 (congrArg (fun z : Nat => some (Value.ref z)) hR_0) dX8_reached_46 ?_
  refine gf_RX8_54 (v := .int 0) C hO 3 cW_3 (congrArg (fun z : Int32 => some (Value.int z)) hI_3_10) dX8_reached_49 ?_
  refine ct_ge (tgt := 115) (X := 0) (Y := 0) hx hb dX8_reached_52 (by decide) rfl rfl (by omega) ?_
  refine lv_iinc (v := 7) (lv' := [(3, .int 7), (4, .int 0), (2, .int 0), (0, .ref (a 32)), (1, .int 0)]) hx hb dX8_reached_115 hl (k := 1) rfl rfl (by decide) rfl (fun ls hl => ?_)
  refine lv_goto (tgt := 31) hx hb dX8_reached_118 (by decide) ?_
  refine lv_iload_n hx hb dX8_reached_31 rfl (lv_at hl 0 rfl) ?_
  refine lv_bipush (v := 8) hx hb dX8_reached_32 (by decide) ?_
  refine cn_ge (X := 7) (Y := 8) hx hb dX8_reached_34 rfl rfl (by omega) ?_ (tgt := 121) (by decide)
  refine lv_iconst (v := 0) hx hb dX8_reached_37 (by decide) ?_
  refine lv_istore (lv' := [(4, .int 0), (3, .int 7), (2, .int 0), (0, .ref (a 32)), (1, .int 0)]) hx hb dX8_reached_38 hl (by decide) rfl (fun ls hl => ?_)
  refine lv_iload hx hb dX8_reached_40 (lv_at hl 0 rfl) ?_
  refine lv_aload_n hx hb dX8_reached_42 rfl (lv_at hl 3 rfl) ?_
  refine gf_RX8_15 (v := .ref (a 28)) C hO 32 cW_32 rfl dX8_reached_43 ?_
  refine gf_RX8_44 (v := .ref (a 3)) C hO 28 cW_28 (congrArg (fun z : Nat => some (Value.ref z)) hR_0) dX8_reached_46 ?_
  refine gf_RX8_54 (v := .int 0) C hO 3 cW_3 (congrArg (fun z : Int32 => some (Value.int z)) hI_3_10) dX8_reached_49 ?_
  refine ct_ge (tgt := 115) (X := 0) (Y := 0) hx hb dX8_reached_52 (by decide) rfl rfl (by omega) ?_
  refine lv_iinc (v := 8) (lv' := [(3, .int 8), (4, .int 0), (2, .int 0), (0, .ref (a 32)), (1, .int 0)]) hx hb dX8_reached_115 hl (k := 1) rfl rfl (by decide) rfl (fun ls hl => ?_)
  refine lv_goto (tgt := 31) hx hb dX8_reached_118 (by decide) ?_
  refine lv_iload_n hx hb dX8_reached_31 rfl (lv_at hl 0 rfl) ?_
  refine lv_bipush (v := 8) hx hb dX8_reached_32 (by decide) ?_
  refine ct_ge (tgt := 121) (X := 8) (Y := 8) hx hb dX8_reached_34 (by decide) rfl rfl (by omega) ?_
  refine lv_iload_n hx hb dX8_reached_121 rfl (lv_at hl 2 rfl) ?_
  refine hret _ _ _ _ _ _ dX8_reached_122 rfl ?_ hO
  exact ⟨rfl, rfl⟩
theorem dX10_reach_0 : decode cX10_reach 0 = .ok (.aload_n 0, 1) := by decide +kernel
theorem dX10_reach_1 : decode cX10_reach 1 = .ok (.getfield 53, 3) := by decide +kernel
theorem dX10_reach_4 : decode cX10_reach 4 = .ok (.aload_n 0, 1) := by decide +kernel
theorem dX10_reach_5 : decode cX10_reach 5 = .ok (.getfield 37, 3) := by decide +kernel
theorem dX10_reach_8 : decode cX10_reach 8 = .ok (.getfield 150, 3) := by decide +kernel
theorem dX10_reach_11 : decode cX10_reach 11 = .ok (.iconst 4, 1) := by decide +kernel
theorem dX10_reach_12 : decode cX10_reach 12 = .ok (.iaload, 1) := by decide +kernel
theorem dX10_reach_13 : decode cX10_reach 13 = .ok (.invokevirtual 279, 3) := by decide +kernel
theorem dX10_reach_16 : decode cX10_reach 16 = .ok (.ireturn, 1) := by decide +kernel
theorem wd_1188 : (Cond.code ⟨"WebCourt", "reach", "()I"⟩ prog_1_method_35_code (1 : Nat) (Option.some FieldType.int)) ∈ gtb := gtb_c5 119 (by decide +kernel) rfl
theorem wd_1189 : (Cond.methodLink "WebCourt" (279 : Nat) ⟨"WebCourt$Ways", "reached", "(I)I"⟩) ∈ gtb := gtb_c5 120 (by decide +kernel) rfl
theorem wd_1137 : (Cond.instanceMethod ⟨"WebCourt$Ways", "reached", "(I)I"⟩) ∈ gtb := gtb_c5 68 (by decide +kernel) rfl
theorem wd_1138 : (Cond.selects "WebCourt$Ways" ⟨"WebCourt$Ways", "reached", "(I)I"⟩ ⟨"WebCourt$Ways", "reached", "(I)I"⟩) ∈ gtb := gtb_c5 69 (by decide +kernel) rfl
theorem hd_yX8_reached : yX8_reached.cls = RX8 ∧ yX8_reached.cls ≠ "java/lang/invoke/MethodHandle" ∧ yX8_reached.cls ≠ "java/lang/invoke/VarHandle" ∧ (parseMethodDescriptor yX8_reached.desc).map (fun d => d.parameters.length) = some 1 := by decide +kernel
set_option maxHeartbeats 4000000 in
set_option maxRecDepth 100000 in
theorem T_X10_reach (l : Launch) (D : va_G) (cy : Nat → ClassId) (a : Nat → Nat) (u : St) (hA_29_0 : fA u 29 0 = (-1)) (hA_29_4 : fA u 29 4 = 0) (hI_3_10 : fI u 3 10 = 0) (hR_0 : fR u 0 = a 3)   : Mi l D cy (cW cy a) yX10_reach (.code yX10_reach cX10_reach 1 (some .int)) (rmo 1 25) [.ref (a 0)] u (fun (r : Int32) (u' : St) => r = 0 ∧ u' = u) := by
  refine Mi.of (own := RX10) rfl (by decide) (Nat.le_of_ble_eq_true rfl) ?_
  intro p e s m below meth c A Q ls C hret hO hl
  obtain ⟨hx, hb, hml, hown, ht, hK, hA⟩ := id C
  have hl : lv_has ls 1 [(0, .ref (a 0))] := hl
  refine lv_aload_n hx hb dX10_reach_0 rfl (lv_at hl 0 rfl) ?_
  refine gf_RX10_53 (v := .ref (a 32)) C hO 0 cW_0 rfl dX10_reach_1 ?_
  refine lv_aload_n hx hb dX10_reach_4 rfl (lv_at hl 0 rfl) ?_
  refine gf_RX10_37 (v := .ref (a 28)) C hO 0 cW_0 rfl dX10_reach_5 ?_
  refine gf_RX10_150 (v := .ref (a 29)) C hO 28 cW_28 rfl dX10_reach_8 ?_
  refine lv_iconst (v := 4) hx hb dX10_reach_11 (by decide) ?_
  refine aI C hO 29 cW_29 (i_in (X := 4) rfl (by omega) (by omega)) dX10_reach_12 ?_
  refine tE (y := 0) hA_29_4 ?_
  refine cVi (w := cW cy a) (As := [.int 0]) (rest := []) C hO (T_X8_reached_0 l D cy a _ (by exact hA_29_0) (by exact hI_3_10) (by exact hR_0)) (cwV 1 ht (gV wd_1189 wd_1137 wd_1138 wd_117 wd_1139) rfl rfl rfl hd_yX8_reached ⟨Nat.le_of_ble_eq_true rfl, Nat.le_of_ble_eq_true rfl⟩) 32 rfl cW_32 rfl rfl hl.1 (Nat.le_of_ble_eq_true rfl) dX10_reach_13 rfl ⟨Nat.zero_le _, Nat.zero_le _⟩ (fun r1 u2 H locs hp3 hO => ?_)
  obtain ⟨hr1, hu2⟩ := hp3
  subst hr1
  rw [hu2] at hO
  refine hret _ _ _ _ _ _ dX10_reach_16 rfl ?_ hO
  exact ⟨rfl, rfl⟩
theorem dX1_commonestPlea_0 : decode cX1_commonestPlea 0 = .ok (.iconst (-1), 1) := by decide +kernel
theorem dX1_commonestPlea_1 : decode cX1_commonestPlea 1 = .ok (.istore_n 1, 1) := by decide +kernel
theorem dX1_commonestPlea_2 : decode cX1_commonestPlea 2 = .ok (.iconst (-1), 1) := by decide +kernel
theorem dX1_commonestPlea_3 : decode cX1_commonestPlea 3 = .ok (.istore_n 2, 1) := by decide +kernel
theorem dX1_commonestPlea_4 : decode cX1_commonestPlea 4 = .ok (.iconst 0, 1) := by decide +kernel
theorem dX1_commonestPlea_5 : decode cX1_commonestPlea 5 = .ok (.istore_n 3, 1) := by decide +kernel
theorem dX1_commonestPlea_6 : decode cX1_commonestPlea 6 = .ok (.iload_n 3, 1) := by decide +kernel
theorem dX1_commonestPlea_7 : decode cX1_commonestPlea 7 = .ok (.aload_n 0, 1) := by decide +kernel
theorem dX1_commonestPlea_8 : decode cX1_commonestPlea 8 = .ok (.getfield 18, 3) := by decide +kernel
theorem dX1_commonestPlea_11 : decode cX1_commonestPlea 11 = .ok (.getfield 34, 3) := by decide +kernel
theorem dX1_commonestPlea_14 : decode cX1_commonestPlea 14 = .ok (.getfield 38, 3) := by decide +kernel
theorem dX1_commonestPlea_17 : decode cX1_commonestPlea 17 = .ok (.if_icmp .ge 75, 3) := by decide +kernel
theorem dX1_commonestPlea_20 : decode cX1_commonestPlea 20 = .ok (.iconst 0, 1) := by decide +kernel
theorem dX1_commonestPlea_21 : decode cX1_commonestPlea 21 = .ok (.istore 4, 2) := by decide +kernel
theorem dX1_commonestPlea_23 : decode cX1_commonestPlea 23 = .ok (.iconst 0, 1) := by decide +kernel
theorem dX1_commonestPlea_24 : decode cX1_commonestPlea 24 = .ok (.istore 5, 2) := by decide +kernel
theorem dX1_commonestPlea_26 : decode cX1_commonestPlea 26 = .ok (.iload 5, 2) := by decide +kernel
theorem dX1_commonestPlea_28 : decode cX1_commonestPlea 28 = .ok (.aload_n 0, 1) := by decide +kernel
theorem dX1_commonestPlea_29 : decode cX1_commonestPlea 29 = .ok (.getfield 18, 3) := by decide +kernel
theorem dX1_commonestPlea_32 : decode cX1_commonestPlea 32 = .ok (.getfield 34, 3) := by decide +kernel
theorem dX1_commonestPlea_35 : decode cX1_commonestPlea 35 = .ok (.getfield 44, 3) := by decide +kernel
theorem dX1_commonestPlea_38 : decode cX1_commonestPlea 38 = .ok (.if_icmp .ge 37, 3) := by decide +kernel
theorem dX1_commonestPlea_41 : decode cX1_commonestPlea 41 = .ok (.aload_n 0, 1) := by decide +kernel
theorem dX1_commonestPlea_42 : decode cX1_commonestPlea 42 = .ok (.getfield 18, 3) := by decide +kernel
theorem dX1_commonestPlea_45 : decode cX1_commonestPlea 45 = .ok (.iload 5, 2) := by decide +kernel
theorem dX1_commonestPlea_47 : decode cX1_commonestPlea 47 = .ok (.invokevirtual 47, 3) := by decide +kernel
theorem dX1_commonestPlea_50 : decode cX1_commonestPlea 50 = .ok (.ifCond .eq 19, 3) := by decide +kernel
theorem dX1_commonestPlea_53 : decode cX1_commonestPlea 53 = .ok (.aload_n 0, 1) := by decide +kernel
theorem dX1_commonestPlea_54 : decode cX1_commonestPlea 54 = .ok (.getfield 18, 3) := by decide +kernel
theorem dX1_commonestPlea_57 : decode cX1_commonestPlea 57 = .ok (.iload 5, 2) := by decide +kernel
theorem dX1_commonestPlea_59 : decode cX1_commonestPlea 59 = .ok (.iload_n 3, 1) := by decide +kernel
theorem dX1_commonestPlea_60 : decode cX1_commonestPlea 60 = .ok (.invokevirtual 85, 3) := by decide +kernel
theorem dX1_commonestPlea_63 : decode cX1_commonestPlea 63 = .ok (.ifCond .eq 6, 3) := by decide +kernel
theorem dX1_commonestPlea_66 : decode cX1_commonestPlea 66 = .ok (.iinc 4 1, 3) := by decide +kernel
theorem dX1_commonestPlea_69 : decode cX1_commonestPlea 69 = .ok (.iinc 5 1, 3) := by decide +kernel
theorem dX1_commonestPlea_72 : decode cX1_commonestPlea 72 = .ok (.goto (-46), 3) := by decide +kernel
theorem dX1_commonestPlea_75 : decode cX1_commonestPlea 75 = .ok (.iload 4, 2) := by decide +kernel
theorem dX1_commonestPlea_77 : decode cX1_commonestPlea 77 = .ok (.iload_n 2, 1) := by decide +kernel
theorem dX1_commonestPlea_78 : decode cX1_commonestPlea 78 = .ok (.if_icmp .le 8, 3) := by decide +kernel
theorem dX1_commonestPlea_81 : decode cX1_commonestPlea 81 = .ok (.iload 4, 2) := by decide +kernel
theorem dX1_commonestPlea_83 : decode cX1_commonestPlea 83 = .ok (.istore_n 2, 1) := by decide +kernel
theorem dX1_commonestPlea_84 : decode cX1_commonestPlea 84 = .ok (.iload_n 3, 1) := by decide +kernel
theorem dX1_commonestPlea_85 : decode cX1_commonestPlea 85 = .ok (.istore_n 1, 1) := by decide +kernel
theorem dX1_commonestPlea_86 : decode cX1_commonestPlea 86 = .ok (.iinc 3 1, 3) := by decide +kernel
theorem dX1_commonestPlea_89 : decode cX1_commonestPlea 89 = .ok (.goto (-83), 3) := by decide +kernel
theorem dX1_commonestPlea_92 : decode cX1_commonestPlea 92 = .ok (.iload_n 1, 1) := by decide +kernel
theorem dX1_commonestPlea_93 : decode cX1_commonestPlea 93 = .ok (.ireturn, 1) := by decide +kernel
theorem wd_1197 : (Cond.code ⟨"WebCourt$Counsel", "commonestPlea", "()I"⟩ prog_3_method_15_code (6 : Nat) (Option.some FieldType.int)) ∈ gtb := gtb_c5 128 (by decide +kernel) rfl
set_option maxHeartbeats 4000000 in
set_option maxRecDepth 100000 in
theorem T_X1_commonestPlea (l : Launch) (D : va_G) (cy : Nat → ClassId) (a : Nat → Nat) (u : St) (hI_3_11 : fI u 3 11 = 0) (hR_0 : fR u 0 = a 3)   : Mi l D cy (cW cy a) yX1_commonestPlea (.code yX1_commonestPlea cX1_commonestPlea 6 (some .int)) (rmo 0 0) [.ref (a 36)] u (fun (r : Int32) (u' : St) => r = (-1) ∧ u' = u) := by
  refine Mi.of (own := RX1) rfl (by decide) (Nat.le_of_ble_eq_true rfl) ?_
  intro p e s m below meth c A Q ls C hret hO hl
  obtain ⟨hx, hb, hml, hown, ht, hK, hA⟩ := id C
  have hl : lv_has ls 6 [(0, .ref (a 36))] := hl
  refine lv_iconst (v := (-1)) hx hb dX1_commonestPlea_0 (by decide) ?_
  refine lv_istore_n (lv' := [(1, .int (-1)), (0, .ref (a 36))]) hx hb dX1_commonestPlea_1 rfl hl (by decide) rfl (fun ls hl => ?_)
  refine lv_iconst (v := (-1)) hx hb dX1_commonestPlea_2 (by decide) ?_
  refine lv_istore_n (lv' := [(2, .int (-1)), (1, .int (-1)), (0, .ref (a 36))]) hx hb dX1_commonestPlea_3 rfl hl (by decide) rfl (fun ls hl => ?_)
  refine lv_iconst (v := 0) hx hb dX1_commonestPlea_4 (by decide) ?_
  refine lv_istore_n (lv' := [(3, .int 0), (2, .int (-1)), (1, .int (-1)), (0, .ref (a 36))]) hx hb dX1_commonestPlea_5 rfl hl (by decide) rfl (fun ls hl => ?_)
  refine lv_iload_n hx hb dX1_commonestPlea_6 rfl (lv_at hl 0 rfl) ?_
  refine lv_aload_n hx hb dX1_commonestPlea_7 rfl (lv_at hl 3 rfl) ?_
  refine gf_RX1_18 (v := .ref (a 28)) C hO 36 cW_36 rfl dX1_commonestPlea_8 ?_
  refine gf_RX1_34 (v := .ref (a 3)) C hO 28 cW_28 (congrArg (fun z : Nat => some (Value.ref z)) hR_0) dX1_commonestPlea_11 ?_
  refine gf_RX1_38 (v := .int 0) C hO 3 cW_3 (congrArg (fun z : Int32 => some (Value.int z)) hI_3_11) dX1_commonestPlea_14 ?_
  refine ct_ge (tgt := 92) (X := 0) (Y := 0) hx hb dX1_commonestPlea_17 (by decide) rfl rfl (by omega) ?_
  refine lv_iload_n hx hb dX1_commonestPlea_92 rfl (lv_at hl 2 rfl) ?_
  refine hret _ _ _ _ _ _ dX1_commonestPlea_93 rfl ?_ hO
  exact ⟨rfl, rfl⟩
theorem dX10_fashion_0 : decode cX10_fashion 0 = .ok (.aload_n 0, 1) := by decide +kernel
theorem dX10_fashion_1 : decode cX10_fashion 1 = .ok (.getfield 69, 3) := by decide +kernel
theorem dX10_fashion_4 : decode cX10_fashion 4 = .ok (.invokevirtual 282, 3) := by decide +kernel
theorem dX10_fashion_7 : decode cX10_fashion 7 = .ok (.ireturn, 1) := by decide +kernel
theorem wd_1193 : (Cond.code ⟨"WebCourt", "fashion", "()I"⟩ prog_1_method_36_code (1 : Nat) (Option.some FieldType.int)) ∈ gtb := gtb_c5 124 (by decide +kernel) rfl
theorem wd_1194 : (Cond.methodLink "WebCourt" (282 : Nat) ⟨"WebCourt$Counsel", "commonestPlea", "()I"⟩) ∈ gtb := gtb_c5 125 (by decide +kernel) rfl
theorem wd_1195 : (Cond.instanceMethod ⟨"WebCourt$Counsel", "commonestPlea", "()I"⟩) ∈ gtb := gtb_c5 126 (by decide +kernel) rfl
theorem wd_1196 : (Cond.selects "WebCourt$Counsel" ⟨"WebCourt$Counsel", "commonestPlea", "()I"⟩ ⟨"WebCourt$Counsel", "commonestPlea", "()I"⟩) ∈ gtb := gtb_c5 127 (by decide +kernel) rfl
theorem hd_yX1_commonestPlea : yX1_commonestPlea.cls = RX1 ∧ yX1_commonestPlea.cls ≠ "java/lang/invoke/MethodHandle" ∧ yX1_commonestPlea.cls ≠ "java/lang/invoke/VarHandle" ∧ (parseMethodDescriptor yX1_commonestPlea.desc).map (fun d => d.parameters.length) = some 0 := by decide +kernel
set_option maxHeartbeats 4000000 in
set_option maxRecDepth 100000 in
theorem T_X10_fashion (l : Launch) (D : va_G) (cy : Nat → ClassId) (a : Nat → Nat) (u : St) (hI_3_11 : fI u 3 11 = 0) (hR_0 : fR u 0 = a 3)   : Mi l D cy (cW cy a) yX10_fashion (.code yX10_fashion cX10_fashion 1 (some .int)) (rmo 1 25) [.ref (a 0)] u (fun (r : Int32) (u' : St) => r = (-1) ∧ u' = u) := by
  refine Mi.of (own := RX10) rfl (by decide) (Nat.le_of_ble_eq_true rfl) ?_
  intro p e s m below meth c A Q ls C hret hO hl
  obtain ⟨hx, hb, hml, hown, ht, hK, hA⟩ := id C
  have hl : lv_has ls 1 [(0, .ref (a 0))] := hl
  refine lv_aload_n hx hb dX10_fashion_0 rfl (lv_at hl 0 rfl) ?_
  refine gf_RX10_69 (v := .ref (a 36)) C hO 0 cW_0 rfl dX10_fashion_1 ?_
  refine cVi (w := cW cy a) (As := []) (rest := []) C hO (T_X1_commonestPlea l D cy a _ (by exact hI_3_11) (by exact hR_0)) (cwV 0 ht (gV wd_1194 wd_1195 wd_1196 wd_119 wd_1197) rfl rfl rfl hd_yX1_commonestPlea ⟨Nat.le_of_ble_eq_true rfl, Nat.le_of_ble_eq_true rfl⟩) 36 rfl cW_36 rfl rfl hl.1 (Nat.le_of_ble_eq_true rfl) dX10_fashion_4 rfl ⟨Nat.zero_le _, Nat.zero_le _⟩ (fun r1 u2 H locs hp3 hO => ?_)
  obtain ⟨hr1, hu2⟩ := hp3
  subst hr1
  rw [hu2] at hO
  refine hret _ _ _ _ _ _ dX10_fashion_7 rfl ?_ hO
  exact ⟨rfl, rfl⟩
theorem dX1_greatestVerdict_0 : decode cX1_greatestVerdict 0 = .ok (.iconst (-1), 1) := by decide +kernel
theorem dX1_greatestVerdict_1 : decode cX1_greatestVerdict 1 = .ok (.istore_n 1, 1) := by decide +kernel
theorem dX1_greatestVerdict_2 : decode cX1_greatestVerdict 2 = .ok (.iconst 0, 1) := by decide +kernel
theorem dX1_greatestVerdict_3 : decode cX1_greatestVerdict 3 = .ok (.istore_n 2, 1) := by decide +kernel
theorem dX1_greatestVerdict_4 : decode cX1_greatestVerdict 4 = .ok (.iconst 0, 1) := by decide +kernel
theorem dX1_greatestVerdict_5 : decode cX1_greatestVerdict 5 = .ok (.istore_n 3, 1) := by decide +kernel
theorem dX1_greatestVerdict_6 : decode cX1_greatestVerdict 6 = .ok (.iload_n 3, 1) := by decide +kernel
theorem dX1_greatestVerdict_7 : decode cX1_greatestVerdict 7 = .ok (.aload_n 0, 1) := by decide +kernel
theorem dX1_greatestVerdict_8 : decode cX1_greatestVerdict 8 = .ok (.getfield 18, 3) := by decide +kernel
theorem dX1_greatestVerdict_11 : decode cX1_greatestVerdict 11 = .ok (.getfield 34, 3) := by decide +kernel
theorem dX1_greatestVerdict_14 : decode cX1_greatestVerdict 14 = .ok (.getfield 44, 3) := by decide +kernel
theorem dX1_greatestVerdict_17 : decode cX1_greatestVerdict 17 = .ok (.if_icmp .ge 49, 3) := by decide +kernel
theorem dX1_greatestVerdict_20 : decode cX1_greatestVerdict 20 = .ok (.aload_n 0, 1) := by decide +kernel
theorem dX1_greatestVerdict_21 : decode cX1_greatestVerdict 21 = .ok (.getfield 18, 3) := by decide +kernel
theorem dX1_greatestVerdict_24 : decode cX1_greatestVerdict 24 = .ok (.iload_n 3, 1) := by decide +kernel
theorem dX1_greatestVerdict_25 : decode cX1_greatestVerdict 25 = .ok (.invokevirtual 47, 3) := by decide +kernel
theorem dX1_greatestVerdict_28 : decode cX1_greatestVerdict 28 = .ok (.ifCond .ne 6, 3) := by decide +kernel
theorem dX1_greatestVerdict_31 : decode cX1_greatestVerdict 31 = .ok (.goto 29, 3) := by decide +kernel
theorem dX1_greatestVerdict_34 : decode cX1_greatestVerdict 34 = .ok (.aload_n 0, 1) := by decide +kernel
theorem dX1_greatestVerdict_35 : decode cX1_greatestVerdict 35 = .ok (.getfield 18, 3) := by decide +kernel
theorem dX1_greatestVerdict_38 : decode cX1_greatestVerdict 38 = .ok (.iload_n 3, 1) := by decide +kernel
theorem dX1_greatestVerdict_39 : decode cX1_greatestVerdict 39 = .ok (.invokevirtual 69, 3) := by decide +kernel
theorem dX1_greatestVerdict_42 : decode cX1_greatestVerdict 42 = .ok (.istore 4, 2) := by decide +kernel
theorem dX1_greatestVerdict_44 : decode cX1_greatestVerdict 44 = .ok (.iload_n 1, 1) := by decide +kernel
theorem dX1_greatestVerdict_45 : decode cX1_greatestVerdict 45 = .ok (.iconst (-1), 1) := by decide +kernel
theorem dX1_greatestVerdict_46 : decode cX1_greatestVerdict 46 = .ok (.if_icmp .eq 9, 3) := by decide +kernel
theorem dX1_greatestVerdict_49 : decode cX1_greatestVerdict 49 = .ok (.iload 4, 2) := by decide +kernel
theorem dX1_greatestVerdict_51 : decode cX1_greatestVerdict 51 = .ok (.iload_n 2, 1) := by decide +kernel
theorem dX1_greatestVerdict_52 : decode cX1_greatestVerdict 52 = .ok (.if_icmp .le 8, 3) := by decide +kernel
theorem dX1_greatestVerdict_55 : decode cX1_greatestVerdict 55 = .ok (.iload 4, 2) := by decide +kernel
theorem dX1_greatestVerdict_57 : decode cX1_greatestVerdict 57 = .ok (.istore_n 2, 1) := by decide +kernel
theorem dX1_greatestVerdict_58 : decode cX1_greatestVerdict 58 = .ok (.iload_n 3, 1) := by decide +kernel
theorem dX1_greatestVerdict_59 : decode cX1_greatestVerdict 59 = .ok (.istore_n 1, 1) := by decide +kernel
theorem dX1_greatestVerdict_60 : decode cX1_greatestVerdict 60 = .ok (.iinc 3 1, 3) := by decide +kernel
theorem dX1_greatestVerdict_63 : decode cX1_greatestVerdict 63 = .ok (.goto (-57), 3) := by decide +kernel
theorem dX1_greatestVerdict_66 : decode cX1_greatestVerdict 66 = .ok (.iload_n 1, 1) := by decide +kernel
theorem dX1_greatestVerdict_67 : decode cX1_greatestVerdict 67 = .ok (.ireturn, 1) := by decide +kernel
theorem wd_1206 : (Cond.code ⟨"WebCourt$Counsel", "greatestVerdict", "()I"⟩ prog_3_method_16_code (5 : Nat) (Option.some FieldType.int)) ∈ gtb := gtb_c5 137 (by decide +kernel) rfl
set_option maxHeartbeats 4000000 in
set_option maxRecDepth 100000 in
theorem T_X1_greatestVerdict (l : Launch) (D : va_G) (cy : Nat → ClassId) (a : Nat → Nat) (u : St) (hI_3_12 : fI u 3 12 = 0) (hR_0 : fR u 0 = a 3)   : Mi l D cy (cW cy a) yX1_greatestVerdict (.code yX1_greatestVerdict cX1_greatestVerdict 5 (some .int)) (rmo 0 0) [.ref (a 36)] u (fun (r : Int32) (u' : St) => r = (-1) ∧ u' = u) := by
  refine Mi.of (own := RX1) rfl (by decide) (Nat.le_of_ble_eq_true rfl) ?_
  intro p e s m below meth c A Q ls C hret hO hl
  obtain ⟨hx, hb, hml, hown, ht, hK, hA⟩ := id C
  have hl : lv_has ls 5 [(0, .ref (a 36))] := hl
  refine lv_iconst (v := (-1)) hx hb dX1_greatestVerdict_0 (by decide) ?_
  refine lv_istore_n (lv' := [(1, .int (-1)), (0, .ref (a 36))]) hx hb dX1_greatestVerdict_1 rfl hl (by decide) rfl (fun ls hl => ?_)
  refine lv_iconst (v := 0) hx hb dX1_greatestVerdict_2 (by decide) ?_
  refine lv_istore_n (lv' := [(2, .int 0), (1, .int (-1)), (0, .ref (a 36))]) hx hb dX1_greatestVerdict_3 rfl hl (by decide) rfl (fun ls hl => ?_)
  refine lv_iconst (v := 0) hx hb dX1_greatestVerdict_4 (by decide) ?_
  refine lv_istore_n (lv' := [(3, .int 0), (2, .int 0), (1, .int (-1)), (0, .ref (a 36))]) hx hb dX1_greatestVerdict_5 rfl hl (by decide) rfl (fun ls hl => ?_)
  refine lv_iload_n hx hb dX1_greatestVerdict_6 rfl (lv_at hl 0 rfl) ?_
  refine lv_aload_n hx hb dX1_greatestVerdict_7 rfl (lv_at hl 3 rfl) ?_
  refine gf_RX1_18 (v := .ref (a 28)) C hO 36 cW_36 rfl dX1_greatestVerdict_8 ?_
  refine gf_RX1_34 (v := .ref (a 3)) C hO 28 cW_28 (congrArg (fun z : Nat => some (Value.ref z)) hR_0) dX1_greatestVerdict_11 ?_
  refine gf_RX1_44 (v := .int 0) C hO 3 cW_3 (congrArg (fun z : Int32 => some (Value.int z)) hI_3_12) dX1_greatestVerdict_14 ?_
  refine ct_ge (tgt := 66) (X := 0) (Y := 0) hx hb dX1_greatestVerdict_17 (by decide) rfl rfl (by omega) ?_
  refine lv_iload_n hx hb dX1_greatestVerdict_66 rfl (lv_at hl 2 rfl) ?_
  refine hret _ _ _ _ _ _ dX1_greatestVerdict_67 rfl ?_ hO
  exact ⟨rfl, rfl⟩
theorem dX10_likeliest_0 : decode cX10_likeliest 0 = .ok (.aload_n 0, 1) := by decide +kernel
theorem dX10_likeliest_1 : decode cX10_likeliest 1 = .ok (.getfield 69, 3) := by decide +kernel
theorem dX10_likeliest_4 : decode cX10_likeliest 4 = .ok (.invokevirtual 285, 3) := by decide +kernel
theorem dX10_likeliest_7 : decode cX10_likeliest 7 = .ok (.ireturn, 1) := by decide +kernel
theorem wd_1202 : (Cond.code ⟨"WebCourt", "likeliest", "()I"⟩ prog_1_method_37_code (1 : Nat) (Option.some FieldType.int)) ∈ gtb := gtb_c5 133 (by decide +kernel) rfl
theorem wd_1203 : (Cond.methodLink "WebCourt" (285 : Nat) ⟨"WebCourt$Counsel", "greatestVerdict", "()I"⟩) ∈ gtb := gtb_c5 134 (by decide +kernel) rfl
theorem wd_1204 : (Cond.instanceMethod ⟨"WebCourt$Counsel", "greatestVerdict", "()I"⟩) ∈ gtb := gtb_c5 135 (by decide +kernel) rfl
theorem wd_1205 : (Cond.selects "WebCourt$Counsel" ⟨"WebCourt$Counsel", "greatestVerdict", "()I"⟩ ⟨"WebCourt$Counsel", "greatestVerdict", "()I"⟩) ∈ gtb := gtb_c5 136 (by decide +kernel) rfl
theorem hd_yX1_greatestVerdict : yX1_greatestVerdict.cls = RX1 ∧ yX1_greatestVerdict.cls ≠ "java/lang/invoke/MethodHandle" ∧ yX1_greatestVerdict.cls ≠ "java/lang/invoke/VarHandle" ∧ (parseMethodDescriptor yX1_greatestVerdict.desc).map (fun d => d.parameters.length) = some 0 := by decide +kernel
set_option maxHeartbeats 4000000 in
set_option maxRecDepth 100000 in
theorem T_X10_likeliest (l : Launch) (D : va_G) (cy : Nat → ClassId) (a : Nat → Nat) (u : St) (hI_3_12 : fI u 3 12 = 0) (hR_0 : fR u 0 = a 3)   : Mi l D cy (cW cy a) yX10_likeliest (.code yX10_likeliest cX10_likeliest 1 (some .int)) (rmo 1 24) [.ref (a 0)] u (fun (r : Int32) (u' : St) => r = (-1) ∧ u' = u) := by
  refine Mi.of (own := RX10) rfl (by decide) (Nat.le_of_ble_eq_true rfl) ?_
  intro p e s m below meth c A Q ls C hret hO hl
  obtain ⟨hx, hb, hml, hown, ht, hK, hA⟩ := id C
  have hl : lv_has ls 1 [(0, .ref (a 0))] := hl
  refine lv_aload_n hx hb dX10_likeliest_0 rfl (lv_at hl 0 rfl) ?_
  refine gf_RX10_69 (v := .ref (a 36)) C hO 0 cW_0 rfl dX10_likeliest_1 ?_
  refine cVi (w := cW cy a) (As := []) (rest := []) C hO (T_X1_greatestVerdict l D cy a _ (by exact hI_3_12) (by exact hR_0)) (cwV 0 ht (gV wd_1203 wd_1204 wd_1205 wd_119 wd_1206) rfl rfl rfl hd_yX1_greatestVerdict ⟨Nat.le_of_ble_eq_true rfl, Nat.le_of_ble_eq_true rfl⟩) 36 rfl cW_36 rfl rfl hl.1 (Nat.le_of_ble_eq_true rfl) dX10_likeliest_4 rfl ⟨Nat.zero_le _, Nat.zero_le _⟩ (fun r1 u2 H locs hp3 hO => ?_)
  obtain ⟨hr1, hu2⟩ := hp3
  subst hr1
  rw [hu2] at hO
  refine hret _ _ _ _ _ _ dX10_likeliest_7 rfl ?_ hO
  exact ⟨rfl, rfl⟩
theorem dX10_loophole_0 : decode cX10_loophole 0 = .ok (.aload_n 0, 1) := by decide +kernel
theorem dX10_loophole_1 : decode cX10_loophole 1 = .ok (.getfield 37, 3) := by decide +kernel
theorem dX10_loophole_4 : decode cX10_loophole 4 = .ok (.iload_n 1, 1) := by decide +kernel
theorem dX10_loophole_5 : decode cX10_loophole 5 = .ok (.invokevirtual 189, 3) := by decide +kernel
theorem dX10_loophole_8 : decode cX10_loophole 8 = .ok (.ifCond .eq 14, 3) := by decide +kernel
theorem dX10_loophole_11 : decode cX10_loophole 11 = .ok (.aload_n 0, 1) := by decide +kernel
theorem dX10_loophole_12 : decode cX10_loophole 12 = .ok (.getfield 69, 3) := by decide +kernel
theorem dX10_loophole_15 : decode cX10_loophole 15 = .ok (.iload_n 1, 1) := by decide +kernel
theorem dX10_loophole_16 : decode cX10_loophole 16 = .ok (.invokevirtual 288, 3) := by decide +kernel
theorem dX10_loophole_19 : decode cX10_loophole 19 = .ok (.goto 4, 3) := by decide +kernel
theorem dX10_loophole_22 : decode cX10_loophole 22 = .ok (.iconst (-1), 1) := by decide +kernel
theorem dX10_loophole_23 : decode cX10_loophole 23 = .ok (.ireturn, 1) := by decide +kernel
theorem wd_1210 : (Cond.code ⟨"WebCourt", "loophole", "(I)I"⟩ prog_1_method_38_code (2 : Nat) (Option.some FieldType.int)) ∈ gtb := gtb_c5 141 (by decide +kernel) rfl
set_option maxHeartbeats 4000000 in
set_option maxRecDepth 100000 in
theorem T_X10_loophole (l : Launch) (D : va_G) (cy : Nat → ClassId) (a : Nat → Nat) (u : St) (hI_3_12 : fI u 3 12 = 0) (hR_0 : fR u 0 = a 3) (x1 : Int32)  : Mi l D cy (cW cy a) yX10_loophole (.code yX10_loophole cX10_loophole 2 (some .int)) (rmo 2 42) [.ref (a 0), .int x1] u (fun (r : Int32) (u' : St) => r = (-1) ∧ u' = u) := by
  refine Mi.of (own := RX10) rfl (by decide) (Nat.le_of_ble_eq_true rfl) ?_
  intro p e s m below meth c A Q ls C hret hO hl
  obtain ⟨hx, hb, hml, hown, ht, hK, hA⟩ := id C
  have hl : lv_has ls 2 [(0, .ref (a 0)), (1, .int x1)] := hl
  refine lv_aload_n hx hb dX10_loophole_0 rfl (lv_at hl 0 rfl) ?_
  refine gf_RX10_37 (v := .ref (a 28)) C hO 0 cW_0 rfl dX10_loophole_1 ?_
  refine lv_iload_n hx hb dX10_loophole_4 rfl (lv_at hl 1 rfl) ?_
  refine cVi (w := cW cy a) (As := [.int x1]) (rest := []) C hO (T_X2_isHeld l D cy a _ (by exact hI_3_12) (by exact hR_0) (x1)) (cwV 1 ht (gV wd_961 wd_930 wd_931 wd_115 wd_932) rfl rfl rfl hd_yX2_isHeld ⟨Nat.le_of_ble_eq_true rfl, Nat.le_of_ble_eq_true rfl⟩) 28 rfl cW_28 rfl rfl hl.1 (Nat.le_of_ble_eq_true rfl) dX10_loophole_5 rfl ⟨Nat.zero_le _, Nat.zero_le _⟩ (fun r1 u2 H locs hp3 hO => ?_)
  obtain ⟨hr1, hu2⟩ := hp3
  subst hr1
  rw [hu2] at hO
  refine bt_eq (tgt := 22) (X := 0) hx hb dX10_loophole_8 (by decide) rfl (by omega) ?_
  refine lv_iconst (v := (-1)) hx hb dX10_loophole_22 (by decide) ?_
  refine hret _ _ _ _ _ _ dX10_loophole_23 rfl ?_ hO
  exact ⟨rfl, rfl⟩
theorem dX1_freeAfter_0 : decode cX1_freeAfter 0 = .ok (.aload_n 0, 1) := by decide +kernel
theorem dX1_freeAfter_1 : decode cX1_freeAfter 1 = .ok (.getfield 18, 3) := by decide +kernel
theorem dX1_freeAfter_4 : decode cX1_freeAfter 4 = .ok (.getfield 54, 3) := by decide +kernel
theorem dX1_freeAfter_7 : decode cX1_freeAfter 7 = .ok (.astore_n 2, 1) := by decide +kernel
theorem dX1_freeAfter_8 : decode cX1_freeAfter 8 = .ok (.iconst 0, 1) := by decide +kernel
theorem dX1_freeAfter_9 : decode cX1_freeAfter 9 = .ok (.istore_n 3, 1) := by decide +kernel
theorem dX1_freeAfter_10 : decode cX1_freeAfter 10 = .ok (.iconst 0, 1) := by decide +kernel
theorem dX1_freeAfter_11 : decode cX1_freeAfter 11 = .ok (.istore 4, 2) := by decide +kernel
theorem dX1_freeAfter_13 : decode cX1_freeAfter 13 = .ok (.iload 4, 2) := by decide +kernel
theorem dX1_freeAfter_15 : decode cX1_freeAfter 15 = .ok (.aload_n 0, 1) := by decide +kernel
theorem dX1_freeAfter_16 : decode cX1_freeAfter 16 = .ok (.getfield 18, 3) := by decide +kernel
theorem dX1_freeAfter_19 : decode cX1_freeAfter 19 = .ok (.getfield 34, 3) := by decide +kernel
theorem dX1_freeAfter_22 : decode cX1_freeAfter 22 = .ok (.getfield 44, 3) := by decide +kernel
theorem dX1_freeAfter_25 : decode cX1_freeAfter 25 = .ok (.if_icmp .ge 54, 3) := by decide +kernel
theorem dX1_freeAfter_28 : decode cX1_freeAfter 28 = .ok (.aload_n 0, 1) := by decide +kernel
theorem dX1_freeAfter_29 : decode cX1_freeAfter 29 = .ok (.getfield 18, 3) := by decide +kernel
theorem dX1_freeAfter_32 : decode cX1_freeAfter 32 = .ok (.iload 4, 2) := by decide +kernel
theorem dX1_freeAfter_34 : decode cX1_freeAfter 34 = .ok (.invokevirtual 47, 3) := by decide +kernel
theorem dX1_freeAfter_37 : decode cX1_freeAfter 37 = .ok (.ifCond .eq 36, 3) := by decide +kernel
theorem dX1_freeAfter_40 : decode cX1_freeAfter 40 = .ok (.aload_n 0, 1) := by decide +kernel
theorem dX1_freeAfter_41 : decode cX1_freeAfter 41 = .ok (.getfield 18, 3) := by decide +kernel
theorem dX1_freeAfter_44 : decode cX1_freeAfter 44 = .ok (.iload 4, 2) := by decide +kernel
theorem dX1_freeAfter_46 : decode cX1_freeAfter 46 = .ok (.aload_n 2, 1) := by decide +kernel
theorem dX1_freeAfter_47 : decode cX1_freeAfter 47 = .ok (.bipush 11, 2) := by decide +kernel
theorem dX1_freeAfter_49 : decode cX1_freeAfter 49 = .ok (.iload 4, 2) := by decide +kernel
theorem dX1_freeAfter_51 : decode cX1_freeAfter 51 = .ok (.iadd, 1) := by decide +kernel
theorem dX1_freeAfter_52 : decode cX1_freeAfter 52 = .ok (.iaload, 1) := by decide +kernel
theorem dX1_freeAfter_53 : decode cX1_freeAfter 53 = .ok (.iload_n 1, 1) := by decide +kernel
theorem dX1_freeAfter_54 : decode cX1_freeAfter 54 = .ok (.aload_n 2, 1) := by decide +kernel
theorem dX1_freeAfter_55 : decode cX1_freeAfter 55 = .ok (.bipush 23, 2) := by decide +kernel
theorem dX1_freeAfter_57 : decode cX1_freeAfter 57 = .ok (.iload 4, 2) := by decide +kernel
theorem dX1_freeAfter_59 : decode cX1_freeAfter 59 = .ok (.iadd, 1) := by decide +kernel
theorem dX1_freeAfter_60 : decode cX1_freeAfter 60 = .ok (.iaload, 1) := by decide +kernel
theorem dX1_freeAfter_61 : decode cX1_freeAfter 61 = .ok (.aload_n 2, 1) := by decide +kernel
theorem dX1_freeAfter_62 : decode cX1_freeAfter 62 = .ok (.iconst 1, 1) := by decide +kernel
theorem dX1_freeAfter_63 : decode cX1_freeAfter 63 = .ok (.iaload, 1) := by decide +kernel
theorem dX1_freeAfter_64 : decode cX1_freeAfter 64 = .ok (.invokevirtual 62, 3) := by decide +kernel
theorem dX1_freeAfter_67 : decode cX1_freeAfter 67 = .ok (.ifCond .le 6, 3) := by decide +kernel
theorem dX1_freeAfter_70 : decode cX1_freeAfter 70 = .ok (.iinc 3 1, 3) := by decide +kernel
theorem dX1_freeAfter_73 : decode cX1_freeAfter 73 = .ok (.iinc 4 1, 3) := by decide +kernel
theorem dX1_freeAfter_76 : decode cX1_freeAfter 76 = .ok (.goto (-63), 3) := by decide +kernel
theorem dX1_freeAfter_79 : decode cX1_freeAfter 79 = .ok (.iload_n 3, 1) := by decide +kernel
theorem dX1_freeAfter_80 : decode cX1_freeAfter 80 = .ok (.ireturn, 1) := by decide +kernel
theorem wd_1222 : (Cond.code ⟨"WebCourt$Counsel", "freeAfter", "(I)I"⟩ prog_3_method_18_code (5 : Nat) (Option.some FieldType.int)) ∈ gtb := gtb_c5 153 (by decide +kernel) rfl
theorem wd_354 : (Cond.fieldLink "WebCourt$Counsel" (54 : Nat) "WebCourt$Court" "row" "[I") ∈ gtb := gtb_c2 5 (by decide +kernel) rfl
theorem gf_RX1_54 {p : Program} {l : Launch} {e : Env} {R : Room} {s : State} {m : MethodId} {args : Array Value} {below : List Frame} {meth : Method} {c : Code} {H : Heap} {locs : List Loc} {cells slots : Nat} {Q : State → Prop} {cc : ByteArray} {pc nL : Nat} {ls : Array Slot} {rest : List Value} {D : va_G} {cy : Nat → ClassId} {A : Nat → Prop} {ws : va_W} {b : Nat} {fs : List Value} {v : Value} (C : Cx p s m args c cc nL RX1 D cy A) (hO : Wo D A ws s.heap H locs) (q0 : Nat) (he : ws[q0]? = some (b, .inr (2, fs))) (hv : fs[0]? = some v) (hdg : decode cc pc = .ok (.getfield 54, 3)) (kk : W p l e R s m args below meth c H locs cells slots Q (F0 m (pc + 3) ls (v :: rest))) : W p l e R s m args below meth c H locs cells slots Q (F0 m pc ls (.ref b :: rest)) := gF (k := 0) C hO q0 he rfl inFX2 (by decide) wd_354 rfl hv hdg kk
set_option maxHeartbeats 4000000 in
set_option maxRecDepth 100000 in
theorem T_X1_freeAfter (l : Launch) (D : va_G) (cy : Nat → ClassId) (a : Nat → Nat) (u : St) (hI_3_12 : fI u 3 12 = 0) (hR_0 : fR u 0 = a 3) (x1 : Int32)  : Mi l D cy (cW cy a) yX1_freeAfter (.code yX1_freeAfter cX1_freeAfter 5 (some .int)) (rmo 0 0) [.ref (a 36), .int x1] u (fun (r : Int32) (u' : St) => r = 0 ∧ u' = u) := by
  refine Mi.of (own := RX1) rfl (by decide) (Nat.le_of_ble_eq_true rfl) ?_
  intro p e s m below meth c A Q ls C hret hO hl
  obtain ⟨hx, hb, hml, hown, ht, hK, hA⟩ := id C
  have hl : lv_has ls 5 [(0, .ref (a 36)), (1, .int x1)] := hl
  refine lv_aload_n hx hb dX1_freeAfter_0 rfl (lv_at hl 0 rfl) ?_
  refine gf_RX1_18 (v := .ref (a 28)) C hO 36 cW_36 rfl dX1_freeAfter_1 ?_
  refine gf_RX1_54 (v := .ref (a 29)) C hO 28 cW_28 rfl dX1_freeAfter_4 ?_
  refine lv_astore_n (lv' := [(2, .ref (a 29)), (0, .ref (a 36)), (1, .int x1)]) hx hb dX1_freeAfter_7 rfl hl (by decide) rfl (fun ls hl => ?_)
  refine lv_iconst (v := 0) hx hb dX1_freeAfter_8 (by decide) ?_
  refine lv_istore_n (lv' := [(3, .int 0), (2, .ref (a 29)), (0, .ref (a 36)), (1, .int x1)]) hx hb dX1_freeAfter_9 rfl hl (by decide) rfl (fun ls hl => ?_)
  refine lv_iconst (v := 0) hx hb dX1_freeAfter_10 (by decide) ?_
  refine lv_istore (lv' := [(4, .int 0), (3, .int 0), (2, .ref (a 29)), (0, .ref (a 36)), (1, .int x1)]) hx hb dX1_freeAfter_11 hl (by decide) rfl (fun ls hl => ?_)
  refine lv_iload hx hb dX1_freeAfter_13 (lv_at hl 0 rfl) ?_
  refine lv_aload_n hx hb dX1_freeAfter_15 rfl (lv_at hl 3 rfl) ?_
  refine gf_RX1_18 (v := .ref (a 28)) C hO 36 cW_36 rfl dX1_freeAfter_16 ?_
  refine gf_RX1_34 (v := .ref (a 3)) C hO 28 cW_28 (congrArg (fun z : Nat => some (Value.ref z)) hR_0) dX1_freeAfter_19 ?_
  refine gf_RX1_44 (v := .int 0) C hO 3 cW_3 (congrArg (fun z : Int32 => some (Value.int z)) hI_3_12) dX1_freeAfter_22 ?_
  refine ct_ge (tgt := 79) (X := 0) (Y := 0) hx hb dX1_freeAfter_25 (by decide) rfl rfl (by omega) ?_
  refine lv_iload_n hx hb dX1_freeAfter_79 rfl (lv_at hl 1 rfl) ?_
  refine hret _ _ _ _ _ _ dX1_freeAfter_80 rfl ?_ hO
  exact ⟨rfl, rfl⟩
theorem dX10_precedent_0 : decode cX10_precedent 0 = .ok (.iload_n 1, 1) := by decide +kernel
theorem dX10_precedent_1 : decode cX10_precedent 1 = .ok (.ifCond .lt 9, 3) := by decide +kernel
theorem dX10_precedent_4 : decode cX10_precedent 4 = .ok (.iload_n 1, 1) := by decide +kernel
theorem dX10_precedent_5 : decode cX10_precedent 5 = .ok (.bipush 99, 2) := by decide +kernel
theorem dX10_precedent_7 : decode cX10_precedent 7 = .ok (.if_icmp .le 7, 3) := by decide +kernel
theorem dX10_precedent_10 : decode cX10_precedent 10 = .ok (.iconst (-1), 1) := by decide +kernel
theorem dX10_precedent_11 : decode cX10_precedent 11 = .ok (.goto 11, 3) := by decide +kernel
theorem dX10_precedent_14 : decode cX10_precedent 14 = .ok (.aload_n 0, 1) := by decide +kernel
theorem dX10_precedent_15 : decode cX10_precedent 15 = .ok (.getfield 69, 3) := by decide +kernel
theorem dX10_precedent_18 : decode cX10_precedent 18 = .ok (.iload_n 1, 1) := by decide +kernel
theorem dX10_precedent_19 : decode cX10_precedent 19 = .ok (.invokevirtual 291, 3) := by decide +kernel
theorem dX10_precedent_22 : decode cX10_precedent 22 = .ok (.ireturn, 1) := by decide +kernel
theorem wd_1218 : (Cond.code ⟨"WebCourt", "precedent", "(I)I"⟩ prog_1_method_39_code (2 : Nat) (Option.some FieldType.int)) ∈ gtb := gtb_c5 149 (by decide +kernel) rfl
theorem wd_1219 : (Cond.methodLink "WebCourt" (291 : Nat) ⟨"WebCourt$Counsel", "freeAfter", "(I)I"⟩) ∈ gtb := gtb_c5 150 (by decide +kernel) rfl
theorem wd_1220 : (Cond.instanceMethod ⟨"WebCourt$Counsel", "freeAfter", "(I)I"⟩) ∈ gtb := gtb_c5 151 (by decide +kernel) rfl
theorem wd_1221 : (Cond.selects "WebCourt$Counsel" ⟨"WebCourt$Counsel", "freeAfter", "(I)I"⟩ ⟨"WebCourt$Counsel", "freeAfter", "(I)I"⟩) ∈ gtb := gtb_c5 152 (by decide +kernel) rfl
theorem hd_yX1_freeAfter : yX1_freeAfter.cls = RX1 ∧ yX1_freeAfter.cls ≠ "java/lang/invoke/MethodHandle" ∧ yX1_freeAfter.cls ≠ "java/lang/invoke/VarHandle" ∧ (parseMethodDescriptor yX1_freeAfter.desc).map (fun d => d.parameters.length) = some 1 := by decide +kernel
set_option maxHeartbeats 4000000 in
set_option maxRecDepth 100000 in
theorem T_X10_precedent (l : Launch) (D : va_G) (cy : Nat → ClassId) (a : Nat → Nat) (u : St) (hI_3_12 : fI u 3 12 = 0) (hR_0 : fR u 0 = a 3) (x1 : Int32)  : Mi l D cy (cW cy a) yX10_precedent (.code yX10_precedent cX10_precedent 2 (some .int)) (rmo 1 24) [.ref (a 0), .int x1] u (fun (r : Int32) (u' : St) => r = q_prec x1 ∧ u' = u) := by
  refine Mi.of (own := RX10) rfl (by decide) (Nat.le_of_ble_eq_true rfl) ?_
  intro p e s m below meth c A Q ls C hret hO hl
  obtain ⟨hx, hb, hml, hown, ht, hK, hA⟩ := id C
  have hl : lv_has ls 2 [(0, .ref (a 0)), (1, .int x1)] := hl
  refine lv_iload_n hx hb dX10_precedent_0 rfl (lv_at hl 1 rfl) ?_
  refine bs_lt (tgt := 10) (X := (x1).toInt) hx hb dX10_precedent_1 (by decide) rfl (fun c1 => ?_) (fun c1 => ?_)
  · refine lv_iconst (v := (-1)) hx hb dX10_precedent_10 (by decide) ?_
    refine lv_goto (tgt := 22) hx hb dX10_precedent_11 (by decide) ?_
    refine hret _ _ _ _ _ _ dX10_precedent_22 rfl ?_ hO
    exact ⟨(by unfold q_prec; have z0 : (0 : Int32).toInt = 0 := rfl; have z1 : (-1 : Int32).toInt = -1 := rfl; split <;> first | rfl | (exact i32_eq.mpr (by omega)) | (exfalso; omega)), rfl⟩
  · refine lv_iload_n hx hb dX10_precedent_4 rfl (lv_at hl 1 rfl) ?_
    refine lv_bipush (v := 99) hx hb dX10_precedent_5 (by decide) ?_
    refine cs_le (tgt := 14) (X := (x1).toInt) (Y := 99) hx hb dX10_precedent_7 (by decide) rfl rfl (fun c2 => ?_) (fun c2 => ?_)
    · refine lv_aload_n hx hb dX10_precedent_14 rfl (lv_at hl 0 rfl) ?_
      refine gf_RX10_69 (v := .ref (a 36)) C hO 0 cW_0 rfl dX10_precedent_15 ?_
      refine lv_iload_n hx hb dX10_precedent_18 rfl (lv_at hl 1 rfl) ?_
      refine cVi (w := cW cy a) (As := [.int x1]) (rest := []) C hO (T_X1_freeAfter l D cy a _ (by exact hI_3_12) (by exact hR_0) (x1)) (cwV 1 ht (gV wd_1219 wd_1220 wd_1221 wd_119 wd_1222) rfl rfl rfl hd_yX1_freeAfter ⟨Nat.le_of_ble_eq_true rfl, Nat.le_of_ble_eq_true rfl⟩) 36 rfl cW_36 rfl rfl hl.1 (Nat.le_of_ble_eq_true rfl) dX10_precedent_19 rfl ⟨Nat.zero_le _, Nat.zero_le _⟩ (fun r3 u4 H locs hp5 hO => ?_)
      obtain ⟨hr3, hu4⟩ := hp5
      subst hr3
      rw [hu4] at hO
      refine hret _ _ _ _ _ _ dX10_precedent_22 rfl ?_ hO
      exact ⟨(by unfold q_prec; have z0 : (0 : Int32).toInt = 0 := rfl; have z1 : (-1 : Int32).toInt = -1 := rfl; split <;> first | rfl | (exact i32_eq.mpr (by omega)) | (exfalso; omega)), rfl⟩
    · refine lv_iconst (v := (-1)) hx hb dX10_precedent_10 (by decide) ?_
      refine lv_goto (tgt := 22) hx hb dX10_precedent_11 (by decide) ?_
      refine hret _ _ _ _ _ _ dX10_precedent_22 rfl ?_ hO
      exact ⟨(by unfold q_prec; have z0 : (0 : Int32).toInt = 0 := rfl; have z1 : (-1 : Int32).toInt = -1 := rfl; split <;> first | rfl | (exact i32_eq.mpr (by omega)) | (exfalso; omega)), rfl⟩
end
section
theorem dX10_commonDivisor_0 : decode cX10_commonDivisor 0 = .ok (.iload_n 0, 1) := by decide +kernel
theorem dX10_commonDivisor_1 : decode cX10_commonDivisor 1 = .ok (.istore_n 2, 1) := by decide +kernel
theorem dX10_commonDivisor_2 : decode cX10_commonDivisor 2 = .ok (.iload_n 1, 1) := by decide +kernel
theorem dX10_commonDivisor_3 : decode cX10_commonDivisor 3 = .ok (.istore_n 3, 1) := by decide +kernel
theorem dX10_commonDivisor_4 : decode cX10_commonDivisor 4 = .ok (.iconst 0, 1) := by decide +kernel
theorem dX10_commonDivisor_5 : decode cX10_commonDivisor 5 = .ok (.istore 4, 2) := by decide +kernel
theorem dX10_commonDivisor_7 : decode cX10_commonDivisor 7 = .ok (.iload 4, 2) := by decide +kernel
theorem dX10_commonDivisor_9 : decode cX10_commonDivisor 9 = .ok (.bipush 64, 2) := by decide +kernel
theorem dX10_commonDivisor_11 : decode cX10_commonDivisor 11 = .ok (.if_icmp .ge 23, 3) := by decide +kernel
theorem dX10_commonDivisor_14 : decode cX10_commonDivisor 14 = .ok (.iload_n 3, 1) := by decide +kernel
theorem dX10_commonDivisor_15 : decode cX10_commonDivisor 15 = .ok (.ifCond .le 19, 3) := by decide +kernel
theorem dX10_commonDivisor_18 : decode cX10_commonDivisor 18 = .ok (.iload_n 2, 1) := by decide +kernel
theorem dX10_commonDivisor_19 : decode cX10_commonDivisor 19 = .ok (.iload_n 3, 1) := by decide +kernel
theorem dX10_commonDivisor_20 : decode cX10_commonDivisor 20 = .ok (.irem, 1) := by decide +kernel
theorem dX10_commonDivisor_21 : decode cX10_commonDivisor 21 = .ok (.istore 5, 2) := by decide +kernel
theorem dX10_commonDivisor_23 : decode cX10_commonDivisor 23 = .ok (.iload_n 3, 1) := by decide +kernel
theorem dX10_commonDivisor_24 : decode cX10_commonDivisor 24 = .ok (.istore_n 2, 1) := by decide +kernel
theorem dX10_commonDivisor_25 : decode cX10_commonDivisor 25 = .ok (.iload 5, 2) := by decide +kernel
theorem dX10_commonDivisor_27 : decode cX10_commonDivisor 27 = .ok (.istore_n 3, 1) := by decide +kernel
theorem dX10_commonDivisor_28 : decode cX10_commonDivisor 28 = .ok (.iinc 4 1, 3) := by decide +kernel
theorem dX10_commonDivisor_31 : decode cX10_commonDivisor 31 = .ok (.goto (-24), 3) := by decide +kernel
theorem dX10_commonDivisor_34 : decode cX10_commonDivisor 34 = .ok (.iload_n 2, 1) := by decide +kernel
theorem dX10_commonDivisor_35 : decode cX10_commonDivisor 35 = .ok (.ireturn, 1) := by decide +kernel
theorem wd_1229 : (Cond.code ⟨"WebCourt", "commonDivisor", "(II)I"⟩ prog_1_method_41_code (6 : Nat) (Option.some FieldType.int)) ∈ gtb := gtb_c5 160 (by decide +kernel) rfl
set_option maxHeartbeats 4000000 in
set_option maxRecDepth 100000 in
theorem T_X10_commonDivisor_100 (l : Launch) (D : va_G) (cy : Nat → ClassId) (a : Nat → Nat) (u : St)    : Mi l D cy (cW cy a) yX10_commonDivisor (.code yX10_commonDivisor cX10_commonDivisor 6 (some .int)) (rmo 0 0) [.int 100, .int 100] u (fun (r : Int32) (u' : St) => r = 100 ∧ u' = u) := by
  refine Mi.of (own := RX10) rfl (by decide) (Nat.le_of_ble_eq_true rfl) ?_
  intro p e s m below meth c A Q ls C hret hO hl
  obtain ⟨hx, hb, hml, hown, ht, hK, hA⟩ := id C
  have hl : lv_has ls 6 [(0, .int 100), (1, .int 100)] := hl
  refine lv_iload_n hx hb dX10_commonDivisor_0 rfl (lv_at hl 0 rfl) ?_
  refine lv_istore_n (lv' := [(2, .int 100), (0, .int 100), (1, .int 100)]) hx hb dX10_commonDivisor_1 rfl hl (by decide) rfl (fun ls hl => ?_)
  refine lv_iload_n hx hb dX10_commonDivisor_2 rfl (lv_at hl 2 rfl) ?_
  refine lv_istore_n (lv' := [(3, .int 100), (2, .int 100), (0, .int 100), (1, .int 100)]) hx hb dX10_commonDivisor_3 rfl hl (by decide) rfl (fun ls hl => ?_)
  refine lv_iconst (v := 0) hx hb dX10_commonDivisor_4 (by decide) ?_
  refine lv_istore (lv' := [(4, .int 0), (3, .int 100), (2, .int 100), (0, .int 100), (1, .int 100)]) hx hb dX10_commonDivisor_5 hl (by decide) rfl (fun ls hl => ?_)
  refine lv_iload hx hb dX10_commonDivisor_7 (lv_at hl 0 rfl) ?_
  refine lv_bipush (v := 64) hx hb dX10_commonDivisor_9 (by decide) ?_
  refine cn_ge (X := 0) (Y := 64) hx hb dX10_commonDivisor_11 rfl rfl (by omega) ?_ (tgt := 34) (by decide)
  refine lv_iload_n hx hb dX10_commonDivisor_14 rfl (lv_at hl 1 rfl) ?_
  refine bn_le (X := 100) hx hb dX10_commonDivisor_15 rfl (by omega) ?_ (tgt := 34) (by decide)
  refine lv_iload_n hx hb dX10_commonDivisor_18 rfl (lv_at hl 2 rfl) ?_
  refine lv_iload_n hx hb dX10_commonDivisor_19 rfl (lv_at hl 1 rfl) ?_
  refine lv_irem hx hb dX10_commonDivisor_20 (i_ne0 (X := 100) rfl (by omega)) ?_
  refine tE (y := 0) (by decide) ?_
  refine lv_istore (lv' := [(5, .int 0), (4, .int 0), (3, .int 100), (2, .int 100), (0, .int 100), (1, .int 100)]) hx hb dX10_commonDivisor_21 hl (by decide) rfl (fun ls hl => ?_)
  refine lv_iload_n hx hb dX10_commonDivisor_23 rfl (lv_at hl 2 rfl) ?_
  refine lv_istore_n (lv' := [(2, .int 100), (5, .int 0), (4, .int 0), (3, .int 100), (0, .int 100), (1, .int 100)]) hx hb dX10_commonDivisor_24 rfl hl (by decide) rfl (fun ls hl => ?_)
  refine lv_iload hx hb dX10_commonDivisor_25 (lv_at hl 1 rfl) ?_
  refine lv_istore_n (lv' := [(3, .int 0), (2, .int 100), (5, .int 0), (4, .int 0), (0, .int 100), (1, .int 100)]) hx hb dX10_commonDivisor_27 rfl hl (by decide) rfl (fun ls hl => ?_)
  refine lv_iinc (v := 1) (lv' := [(4, .int 1), (3, .int 0), (2, .int 100), (5, .int 0), (0, .int 100), (1, .int 100)]) hx hb dX10_commonDivisor_28 hl (k := 3) rfl rfl (by decide) rfl (fun ls hl => ?_)
  refine lv_goto (tgt := 7) hx hb dX10_commonDivisor_31 (by decide) ?_
  refine lv_iload hx hb dX10_commonDivisor_7 (lv_at hl 0 rfl) ?_
  refine lv_bipush (v := 64) hx hb dX10_commonDivisor_9 (by decide) ?_
  refine cn_ge (X := 1) (Y := 64) hx hb dX10_commonDivisor_11 rfl rfl (by omega) ?_ (tgt := 34) (by decide)
  refine lv_iload_n hx hb dX10_commonDivisor_14 rfl (lv_at hl 1 rfl) ?_
  refine bt_le (tgt := 34) (X := 0) hx hb dX10_commonDivisor_15 (by decide) rfl (by omega) ?_
  refine lv_iload_n hx hb dX10_commonDivisor_34 rfl (lv_at hl 2 rfl) ?_
  refine hret _ _ _ _ _ _ dX10_commonDivisor_35 rfl ?_ hO
  exact ⟨rfl, rfl⟩
theorem dX10_power_0 : decode cX10_power 0 = .ok (.iconst 1, 1) := by decide +kernel
theorem dX10_power_1 : decode cX10_power 1 = .ok (.istore_n 2, 1) := by decide +kernel
theorem dX10_power_2 : decode cX10_power 2 = .ok (.iconst 0, 1) := by decide +kernel
theorem dX10_power_3 : decode cX10_power 3 = .ok (.istore_n 3, 1) := by decide +kernel
theorem dX10_power_4 : decode cX10_power 4 = .ok (.iload_n 3, 1) := by decide +kernel
theorem dX10_power_5 : decode cX10_power 5 = .ok (.iload_n 1, 1) := by decide +kernel
theorem dX10_power_6 : decode cX10_power 6 = .ok (.if_icmp .ge 13, 3) := by decide +kernel
theorem dX10_power_9 : decode cX10_power 9 = .ok (.iload_n 2, 1) := by decide +kernel
theorem dX10_power_10 : decode cX10_power 10 = .ok (.iload_n 0, 1) := by decide +kernel
theorem dX10_power_11 : decode cX10_power 11 = .ok (.imul, 1) := by decide +kernel
theorem dX10_power_12 : decode cX10_power 12 = .ok (.istore_n 2, 1) := by decide +kernel
theorem dX10_power_13 : decode cX10_power 13 = .ok (.iinc 3 1, 3) := by decide +kernel
theorem dX10_power_16 : decode cX10_power 16 = .ok (.goto (-12), 3) := by decide +kernel
theorem dX10_power_19 : decode cX10_power 19 = .ok (.iload_n 2, 1) := by decide +kernel
theorem dX10_power_20 : decode cX10_power 20 = .ok (.ireturn, 1) := by decide +kernel
theorem wd_1233 : (Cond.code ⟨"WebCourt", "power", "(II)I"⟩ prog_1_method_42_code (4 : Nat) (Option.some FieldType.int)) ∈ gtb := gtb_c5 164 (by decide +kernel) rfl
set_option maxHeartbeats 4000000 in
set_option maxRecDepth 100000 in
theorem T_X10_power_1_0 (l : Launch) (D : va_G) (cy : Nat → ClassId) (a : Nat → Nat) (u : St)    : Mi l D cy (cW cy a) yX10_power (.code yX10_power cX10_power 4 (some .int)) (rmo 0 0) [.int 1, .int 0] u (fun (r : Int32) (u' : St) => r = 1 ∧ u' = u) := by
  refine Mi.of (own := RX10) rfl (by decide) (Nat.le_of_ble_eq_true rfl) ?_
  intro p e s m below meth c A Q ls C hret hO hl
  obtain ⟨hx, hb, hml, hown, ht, hK, hA⟩ := id C
  have hl : lv_has ls 4 [(0, .int 1), (1, .int 0)] := hl
  refine lv_iconst (v := 1) hx hb dX10_power_0 (by decide) ?_
  refine lv_istore_n (lv' := [(2, .int 1), (0, .int 1), (1, .int 0)]) hx hb dX10_power_1 rfl hl (by decide) rfl (fun ls hl => ?_)
  refine lv_iconst (v := 0) hx hb dX10_power_2 (by decide) ?_
  refine lv_istore_n (lv' := [(3, .int 0), (2, .int 1), (0, .int 1), (1, .int 0)]) hx hb dX10_power_3 rfl hl (by decide) rfl (fun ls hl => ?_)
  refine lv_iload_n hx hb dX10_power_4 rfl (lv_at hl 0 rfl) ?_
  refine lv_iload_n hx hb dX10_power_5 rfl (lv_at hl 3 rfl) ?_
  refine ct_ge (tgt := 19) (X := 0) (Y := 0) hx hb dX10_power_6 (by decide) rfl rfl (by omega) ?_
  refine lv_iload_n hx hb dX10_power_19 rfl (lv_at hl 1 rfl) ?_
  refine hret _ _ _ _ _ _ dX10_power_20 rfl ?_ hO
  exact ⟨rfl, rfl⟩
set_option maxHeartbeats 4000000 in
set_option maxRecDepth 100000 in
theorem T_X10_power_1_1 (l : Launch) (D : va_G) (cy : Nat → ClassId) (a : Nat → Nat) (u : St)    : Mi l D cy (cW cy a) yX10_power (.code yX10_power cX10_power 4 (some .int)) (rmo 0 0) [.int 1, .int 1] u (fun (r : Int32) (u' : St) => r = 1 ∧ u' = u) := by
  refine Mi.of (own := RX10) rfl (by decide) (Nat.le_of_ble_eq_true rfl) ?_
  intro p e s m below meth c A Q ls C hret hO hl
  obtain ⟨hx, hb, hml, hown, ht, hK, hA⟩ := id C
  have hl : lv_has ls 4 [(0, .int 1), (1, .int 1)] := hl
  refine lv_iconst (v := 1) hx hb dX10_power_0 (by decide) ?_
  refine lv_istore_n (lv' := [(2, .int 1), (0, .int 1), (1, .int 1)]) hx hb dX10_power_1 rfl hl (by decide) rfl (fun ls hl => ?_)
  refine lv_iconst (v := 0) hx hb dX10_power_2 (by decide) ?_
  refine lv_istore_n (lv' := [(3, .int 0), (2, .int 1), (0, .int 1), (1, .int 1)]) hx hb dX10_power_3 rfl hl (by decide) rfl (fun ls hl => ?_)
  refine lv_iload_n hx hb dX10_power_4 rfl (lv_at hl 0 rfl) ?_
  refine lv_iload_n hx hb dX10_power_5 rfl (lv_at hl 3 rfl) ?_
  refine cn_ge (X := 0) (Y := 1) hx hb dX10_power_6 rfl rfl (by omega) ?_ (tgt := 19) (by decide)
  refine lv_iload_n hx hb dX10_power_9 rfl (lv_at hl 1 rfl) ?_
  refine lv_iload_n hx hb dX10_power_10 rfl (lv_at hl 2 rfl) ?_
  refine lv_imul hx hb dX10_power_11 ?_
  refine tE (y := 1) rfl ?_
  refine lv_istore_n (lv' := [(2, .int 1), (3, .int 0), (0, .int 1), (1, .int 1)]) hx hb dX10_power_12 rfl hl (by decide) rfl (fun ls hl => ?_)
  refine lv_iinc (v := 1) (lv' := [(3, .int 1), (2, .int 1), (0, .int 1), (1, .int 1)]) hx hb dX10_power_13 hl (k := 1) rfl rfl (by decide) rfl (fun ls hl => ?_)
  refine lv_goto (tgt := 4) hx hb dX10_power_16 (by decide) ?_
  refine lv_iload_n hx hb dX10_power_4 rfl (lv_at hl 0 rfl) ?_
  refine lv_iload_n hx hb dX10_power_5 rfl (lv_at hl 3 rfl) ?_
  refine ct_ge (tgt := 19) (X := 1) (Y := 1) hx hb dX10_power_6 (by decide) rfl rfl (by omega) ?_
  refine lv_iload_n hx hb dX10_power_19 rfl (lv_at hl 1 rfl) ?_
  refine hret _ _ _ _ _ _ dX10_power_20 rfl ?_ hO
  exact ⟨rfl, rfl⟩
set_option maxHeartbeats 4000000 in
set_option maxRecDepth 100000 in
theorem T_X10_power_1_2 (l : Launch) (D : va_G) (cy : Nat → ClassId) (a : Nat → Nat) (u : St)    : Mi l D cy (cW cy a) yX10_power (.code yX10_power cX10_power 4 (some .int)) (rmo 0 0) [.int 1, .int 2] u (fun (r : Int32) (u' : St) => r = 1 ∧ u' = u) := by
  refine Mi.of (own := RX10) rfl (by decide) (Nat.le_of_ble_eq_true rfl) ?_
  intro p e s m below meth c A Q ls C hret hO hl
  obtain ⟨hx, hb, hml, hown, ht, hK, hA⟩ := id C
  have hl : lv_has ls 4 [(0, .int 1), (1, .int 2)] := hl
  refine lv_iconst (v := 1) hx hb dX10_power_0 (by decide) ?_
  refine lv_istore_n (lv' := [(2, .int 1), (0, .int 1), (1, .int 2)]) hx hb dX10_power_1 rfl hl (by decide) rfl (fun ls hl => ?_)
  refine lv_iconst (v := 0) hx hb dX10_power_2 (by decide) ?_
  refine lv_istore_n (lv' := [(3, .int 0), (2, .int 1), (0, .int 1), (1, .int 2)]) hx hb dX10_power_3 rfl hl (by decide) rfl (fun ls hl => ?_)
  refine lv_iload_n hx hb dX10_power_4 rfl (lv_at hl 0 rfl) ?_
  refine lv_iload_n hx hb dX10_power_5 rfl (lv_at hl 3 rfl) ?_
  refine cn_ge (X := 0) (Y := 2) hx hb dX10_power_6 rfl rfl (by omega) ?_ (tgt := 19) (by decide)
  refine lv_iload_n hx hb dX10_power_9 rfl (lv_at hl 1 rfl) ?_
  refine lv_iload_n hx hb dX10_power_10 rfl (lv_at hl 2 rfl) ?_
  refine lv_imul hx hb dX10_power_11 ?_
  refine tE (y := 1) rfl ?_
  refine lv_istore_n (lv' := [(2, .int 1), (3, .int 0), (0, .int 1), (1, .int 2)]) hx hb dX10_power_12 rfl hl (by decide) rfl (fun ls hl => ?_)
  refine lv_iinc (v := 1) (lv' := [(3, .int 1), (2, .int 1), (0, .int 1), (1, .int 2)]) hx hb dX10_power_13 hl (k := 1) rfl rfl (by decide) rfl (fun ls hl => ?_)
  refine lv_goto (tgt := 4) hx hb dX10_power_16 (by decide) ?_
  refine lv_iload_n hx hb dX10_power_4 rfl (lv_at hl 0 rfl) ?_
  refine lv_iload_n hx hb dX10_power_5 rfl (lv_at hl 3 rfl) ?_
  refine cn_ge (X := 1) (Y := 2) hx hb dX10_power_6 rfl rfl (by omega) ?_ (tgt := 19) (by decide)
  refine lv_iload_n hx hb dX10_power_9 rfl (lv_at hl 1 rfl) ?_
  refine lv_iload_n hx hb dX10_power_10 rfl (lv_at hl 2 rfl) ?_
  refine lv_imul hx hb dX10_power_11 ?_
  refine tE (y := 1) rfl ?_
  refine lv_istore_n (lv' := [(2, .int 1), (3, .int 1), (0, .int 1), (1, .int 2)]) hx hb dX10_power_12 rfl hl (by decide) rfl (fun ls hl => ?_)
  refine lv_iinc (v := 2) (lv' := [(3, .int 2), (2, .int 1), (0, .int 1), (1, .int 2)]) hx hb dX10_power_13 hl (k := 1) rfl rfl (by decide) rfl (fun ls hl => ?_)
  refine lv_goto (tgt := 4) hx hb dX10_power_16 (by decide) ?_
  refine lv_iload_n hx hb dX10_power_4 rfl (lv_at hl 0 rfl) ?_
  refine lv_iload_n hx hb dX10_power_5 rfl (lv_at hl 3 rfl) ?_
  refine ct_ge (tgt := 19) (X := 2) (Y := 2) hx hb dX10_power_6 (by decide) rfl rfl (by omega) ?_
  refine lv_iload_n hx hb dX10_power_19 rfl (lv_at hl 1 rfl) ?_
  refine hret _ _ _ _ _ _ dX10_power_20 rfl ?_ hO
  exact ⟨rfl, rfl⟩
set_option maxHeartbeats 4000000 in
set_option maxRecDepth 100000 in
theorem T_X10_power_1_3 (l : Launch) (D : va_G) (cy : Nat → ClassId) (a : Nat → Nat) (u : St)    : Mi l D cy (cW cy a) yX10_power (.code yX10_power cX10_power 4 (some .int)) (rmo 0 0) [.int 1, .int 3] u (fun (r : Int32) (u' : St) => r = 1 ∧ u' = u) := by
  refine Mi.of (own := RX10) rfl (by decide) (Nat.le_of_ble_eq_true rfl) ?_
  intro p e s m below meth c A Q ls C hret hO hl
  obtain ⟨hx, hb, hml, hown, ht, hK, hA⟩ := id C
  have hl : lv_has ls 4 [(0, .int 1), (1, .int 3)] := hl
  refine lv_iconst (v := 1) hx hb dX10_power_0 (by decide) ?_
  refine lv_istore_n (lv' := [(2, .int 1), (0, .int 1), (1, .int 3)]) hx hb dX10_power_1 rfl hl (by decide) rfl (fun ls hl => ?_)
  refine lv_iconst (v := 0) hx hb dX10_power_2 (by decide) ?_
  refine lv_istore_n (lv' := [(3, .int 0), (2, .int 1), (0, .int 1), (1, .int 3)]) hx hb dX10_power_3 rfl hl (by decide) rfl (fun ls hl => ?_)
  refine lv_iload_n hx hb dX10_power_4 rfl (lv_at hl 0 rfl) ?_
  refine lv_iload_n hx hb dX10_power_5 rfl (lv_at hl 3 rfl) ?_
  refine cn_ge (X := 0) (Y := 3) hx hb dX10_power_6 rfl rfl (by omega) ?_ (tgt := 19) (by decide)
  refine lv_iload_n hx hb dX10_power_9 rfl (lv_at hl 1 rfl) ?_
  refine lv_iload_n hx hb dX10_power_10 rfl (lv_at hl 2 rfl) ?_
  refine lv_imul hx hb dX10_power_11 ?_
  refine tE (y := 1) rfl ?_
  refine lv_istore_n (lv' := [(2, .int 1), (3, .int 0), (0, .int 1), (1, .int 3)]) hx hb dX10_power_12 rfl hl (by decide) rfl (fun ls hl => ?_)
  refine lv_iinc (v := 1) (lv' := [(3, .int 1), (2, .int 1), (0, .int 1), (1, .int 3)]) hx hb dX10_power_13 hl (k := 1) rfl rfl (by decide) rfl (fun ls hl => ?_)
  refine lv_goto (tgt := 4) hx hb dX10_power_16 (by decide) ?_
  refine lv_iload_n hx hb dX10_power_4 rfl (lv_at hl 0 rfl) ?_
  refine lv_iload_n hx hb dX10_power_5 rfl (lv_at hl 3 rfl) ?_
  refine cn_ge (X := 1) (Y := 3) hx hb dX10_power_6 rfl rfl (by omega) ?_ (tgt := 19) (by decide)
  refine lv_iload_n hx hb dX10_power_9 rfl (lv_at hl 1 rfl) ?_
  refine lv_iload_n hx hb dX10_power_10 rfl (lv_at hl 2 rfl) ?_
  refine lv_imul hx hb dX10_power_11 ?_
  refine tE (y := 1) rfl ?_
  refine lv_istore_n (lv' := [(2, .int 1), (3, .int 1), (0, .int 1), (1, .int 3)]) hx hb dX10_power_12 rfl hl (by decide) rfl (fun ls hl => ?_)
  refine lv_iinc (v := 2) (lv' := [(3, .int 2), (2, .int 1), (0, .int 1), (1, .int 3)]) hx hb dX10_power_13 hl (k := 1) rfl rfl (by decide) rfl (fun ls hl => ?_)
  refine lv_goto (tgt := 4) hx hb dX10_power_16 (by decide) ?_
  refine lv_iload_n hx hb dX10_power_4 rfl (lv_at hl 0 rfl) ?_
  refine lv_iload_n hx hb dX10_power_5 rfl (lv_at hl 3 rfl) ?_
  refine cn_ge (X := 2) (Y := 3) hx hb dX10_power_6 rfl rfl (by omega) ?_ (tgt := 19) (by decide)
  refine lv_iload_n hx hb dX10_power_9 rfl (lv_at hl 1 rfl) ?_
  refine lv_iload_n hx hb dX10_power_10 rfl (lv_at hl 2 rfl) ?_
  refine lv_imul hx hb dX10_power_11 ?_
  refine tE (y := 1) rfl ?_
  refine lv_istore_n (lv' := [(2, .int 1), (3, .int 2), (0, .int 1), (1, .int 3)]) hx hb dX10_power_12 rfl hl (by decide) rfl (fun ls hl => ?_)
  refine lv_iinc (v := 3) (lv' := [(3, .int 3), (2, .int 1), (0, .int 1), (1, .int 3)]) hx hb dX10_power_13 hl (k := 1) rfl rfl (by decide) rfl (fun ls hl => ?_)
  refine lv_goto (tgt := 4) hx hb dX10_power_16 (by decide) ?_
  refine lv_iload_n hx hb dX10_power_4 rfl (lv_at hl 0 rfl) ?_
  refine lv_iload_n hx hb dX10_power_5 rfl (lv_at hl 3 rfl) ?_
  refine ct_ge (tgt := 19) (X := 3) (Y := 3) hx hb dX10_power_6 (by decide) rfl rfl (by omega) ?_
  refine lv_iload_n hx hb dX10_power_19 rfl (lv_at hl 1 rfl) ?_
  refine hret _ _ _ _ _ _ dX10_power_20 rfl ?_ hO
  exact ⟨rfl, rfl⟩
set_option maxHeartbeats 4000000 in
set_option maxRecDepth 100000 in
theorem T_X10_power_1_4 (l : Launch) (D : va_G) (cy : Nat → ClassId) (a : Nat → Nat) (u : St)    : Mi l D cy (cW cy a) yX10_power (.code yX10_power cX10_power 4 (some .int)) (rmo 0 0) [.int 1, .int 4] u (fun (r : Int32) (u' : St) => r = 1 ∧ u' = u) := by
  refine Mi.of (own := RX10) rfl (by decide) (Nat.le_of_ble_eq_true rfl) ?_
  intro p e s m below meth c A Q ls C hret hO hl
  obtain ⟨hx, hb, hml, hown, ht, hK, hA⟩ := id C
  have hl : lv_has ls 4 [(0, .int 1), (1, .int 4)] := hl
  refine lv_iconst (v := 1) hx hb dX10_power_0 (by decide) ?_
  refine lv_istore_n (lv' := [(2, .int 1), (0, .int 1), (1, .int 4)]) hx hb dX10_power_1 rfl hl (by decide) rfl (fun ls hl => ?_)
  refine lv_iconst (v := 0) hx hb dX10_power_2 (by decide) ?_
  refine lv_istore_n (lv' := [(3, .int 0), (2, .int 1), (0, .int 1), (1, .int 4)]) hx hb dX10_power_3 rfl hl (by decide) rfl (fun ls hl => ?_)
  refine lv_iload_n hx hb dX10_power_4 rfl (lv_at hl 0 rfl) ?_
  refine lv_iload_n hx hb dX10_power_5 rfl (lv_at hl 3 rfl) ?_
  refine cn_ge (X := 0) (Y := 4) hx hb dX10_power_6 rfl rfl (by omega) ?_ (tgt := 19) (by decide)
  refine lv_iload_n hx hb dX10_power_9 rfl (lv_at hl 1 rfl) ?_
  refine lv_iload_n hx hb dX10_power_10 rfl (lv_at hl 2 rfl) ?_
  refine lv_imul hx hb dX10_power_11 ?_
  refine tE (y := 1) rfl ?_
  refine lv_istore_n (lv' := [(2, .int 1), (3, .int 0), (0, .int 1), (1, .int 4)]) hx hb dX10_power_12 rfl hl (by decide) rfl (fun ls hl => ?_)
  refine lv_iinc (v := 1) (lv' := [(3, .int 1), (2, .int 1), (0, .int 1), (1, .int 4)]) hx hb dX10_power_13 hl (k := 1) rfl rfl (by decide) rfl (fun ls hl => ?_)
  refine lv_goto (tgt := 4) hx hb dX10_power_16 (by decide) ?_
  refine lv_iload_n hx hb dX10_power_4 rfl (lv_at hl 0 rfl) ?_
  refine lv_iload_n hx hb dX10_power_5 rfl (lv_at hl 3 rfl) ?_
  refine cn_ge (X := 1) (Y := 4) hx hb dX10_power_6 rfl rfl (by omega) ?_ (tgt := 19) (by decide)
  refine lv_iload_n hx hb dX10_power_9 rfl (lv_at hl 1 rfl) ?_
  refine lv_iload_n hx hb dX10_power_10 rfl (lv_at hl 2 rfl) ?_
  refine lv_imul hx hb dX10_power_11 ?_
  refine tE (y := 1) rfl ?_
  refine lv_istore_n (lv' := [(2, .int 1), (3, .int 1), (0, .int 1), (1, .int 4)]) hx hb dX10_power_12 rfl hl (by decide) rfl (fun ls hl => ?_)
  refine lv_iinc (v := 2) (lv' := [(3, .int 2), (2, .int 1), (0, .int 1), (1, .int 4)]) hx hb dX10_power_13 hl (k := 1) rfl rfl (by decide) rfl (fun ls hl => ?_)
  refine lv_goto (tgt := 4) hx hb dX10_power_16 (by decide) ?_
  refine lv_iload_n hx hb dX10_power_4 rfl (lv_at hl 0 rfl) ?_
  refine lv_iload_n hx hb dX10_power_5 rfl (lv_at hl 3 rfl) ?_
  refine cn_ge (X := 2) (Y := 4) hx hb dX10_power_6 rfl rfl (by omega) ?_ (tgt := 19) (by decide)
  refine lv_iload_n hx hb dX10_power_9 rfl (lv_at hl 1 rfl) ?_
  refine lv_iload_n hx hb dX10_power_10 rfl (lv_at hl 2 rfl) ?_
  refine lv_imul hx hb dX10_power_11 ?_
  refine tE (y := 1) rfl ?_
  refine lv_istore_n (lv' := [(2, .int 1), (3, .int 2), (0, .int 1), (1, .int 4)]) hx hb dX10_power_12 rfl hl (by decide) rfl (fun ls hl => ?_)
  refine lv_iinc (v := 3) (lv' := [(3, .int 3), (2, .int 1), (0, .int 1), (1, .int 4)]) hx hb dX10_power_13 hl (k := 1) rfl rfl (by decide) rfl (fun ls hl => ?_)
  refine lv_goto (tgt := 4) hx hb dX10_power_16 (by decide) ?_
  refine lv_iload_n hx hb dX10_power_4 rfl (lv_at hl 0 rfl) ?_
  refine lv_iload_n hx hb dX10_power_5 rfl (lv_at hl 3 rfl) ?_
  refine cn_ge (X := 3) (Y := 4) hx hb dX10_power_6 rfl rfl (by omega) ?_ (tgt := 19) (by decide)
  refine lv_iload_n hx hb dX10_power_9 rfl (lv_at hl 1 rfl) ?_
  refine lv_iload_n hx hb dX10_power_10 rfl (lv_at hl 2 rfl) ?_
  refine lv_imul hx hb dX10_power_11 ?_
  refine tE (y := 1) rfl ?_
  refine lv_istore_n (lv' := [(2, .int 1), (3, .int 3), (0, .int 1), (1, .int 4)]) hx hb dX10_power_12 rfl hl (by decide) rfl (fun ls hl => ?_)
  refine lv_iinc (v := 4) (lv' := [(3, .int 4), (2, .int 1), (0, .int 1), (1, .int 4)]) hx hb dX10_power_13 hl (k := 1) rfl rfl (by decide) rfl (fun ls hl => ?_)
  refine lv_goto (tgt := 4) hx hb dX10_power_16 (by decide) ?_
  refine lv_iload_n hx hb dX10_power_4 rfl (lv_at hl 0 rfl) ?_
  refine lv_iload_n hx hb dX10_power_5 rfl (lv_at hl 3 rfl) ?_
  refine ct_ge (tgt := 19) (X := 4) (Y := 4) hx hb dX10_power_6 (by decide) rfl rfl (by omega) ?_
  refine lv_iload_n hx hb dX10_power_19 rfl (lv_at hl 1 rfl) ?_
  refine hret _ _ _ _ _ _ dX10_power_20 rfl ?_ hO
  exact ⟨rfl, rfl⟩
theorem dX10_odds_0 : decode cX10_odds 0 = .ok (.iload_n 1, 1) := by decide +kernel
theorem dX10_odds_1 : decode cX10_odds 1 = .ok (.ifCond .lt 17, 3) := by decide +kernel
theorem dX10_odds_4 : decode cX10_odds 4 = .ok (.iload_n 1, 1) := by decide +kernel
theorem dX10_odds_5 : decode cX10_odds 5 = .ok (.iconst 4, 1) := by decide +kernel
theorem dX10_odds_6 : decode cX10_odds 6 = .ok (.if_icmp .gt 12, 3) := by decide +kernel
theorem dX10_odds_9 : decode cX10_odds 9 = .ok (.iload_n 2, 1) := by decide +kernel
theorem dX10_odds_10 : decode cX10_odds 10 = .ok (.ifCond .lt 8, 3) := by decide +kernel
theorem dX10_odds_13 : decode cX10_odds 13 = .ok (.iload_n 2, 1) := by decide +kernel
theorem dX10_odds_14 : decode cX10_odds 14 = .ok (.iconst 1, 1) := by decide +kernel
theorem dX10_odds_15 : decode cX10_odds 15 = .ok (.if_icmp .le 5, 3) := by decide +kernel
theorem dX10_odds_18 : decode cX10_odds 18 = .ok (.iconst (-1), 1) := by decide +kernel
theorem dX10_odds_19 : decode cX10_odds 19 = .ok (.ireturn, 1) := by decide +kernel
theorem dX10_odds_20 : decode cX10_odds 20 = .ok (.bipush 100, 2) := by decide +kernel
theorem dX10_odds_22 : decode cX10_odds 22 = .ok (.aload_n 0, 1) := by decide +kernel
theorem dX10_odds_23 : decode cX10_odds 23 = .ok (.getfield 37, 3) := by decide +kernel
theorem dX10_odds_26 : decode cX10_odds 26 = .ok (.getfield 101, 3) := by decide +kernel
theorem dX10_odds_29 : decode cX10_odds 29 = .ok (.getfield 294, 3) := by decide +kernel
theorem dX10_odds_32 : decode cX10_odds 32 = .ok (.isub, 1) := by decide +kernel
theorem dX10_odds_33 : decode cX10_odds 33 = .ok (.istore_n 3, 1) := by decide +kernel
theorem dX10_odds_34 : decode cX10_odds 34 = .ok (.bipush 100, 2) := by decide +kernel
theorem dX10_odds_36 : decode cX10_odds 36 = .ok (.iload_n 3, 1) := by decide +kernel
theorem dX10_odds_37 : decode cX10_odds 37 = .ok (.invokestatic 297, 3) := by decide +kernel
theorem dX10_odds_40 : decode cX10_odds 40 = .ok (.istore 4, 2) := by decide +kernel
theorem dX10_odds_42 : decode cX10_odds 42 = .ok (.iload_n 2, 1) := by decide +kernel
theorem dX10_odds_43 : decode cX10_odds 43 = .ok (.ifCond .ne 7, 3) := by decide +kernel
theorem dX10_odds_46 : decode cX10_odds 46 = .ok (.iload_n 3, 1) := by decide +kernel
theorem dX10_odds_47 : decode cX10_odds 47 = .ok (.goto 5, 3) := by decide +kernel
theorem dX10_odds_50 : decode cX10_odds 50 = .ok (.bipush 100, 2) := by decide +kernel
theorem dX10_odds_52 : decode cX10_odds 52 = .ok (.iload 4, 2) := by decide +kernel
theorem dX10_odds_54 : decode cX10_odds 54 = .ok (.iconst 1, 1) := by decide +kernel
theorem dX10_odds_55 : decode cX10_odds 55 = .ok (.invokestatic 300, 3) := by decide +kernel
theorem dX10_odds_58 : decode cX10_odds 58 = .ok (.idiv, 1) := by decide +kernel
theorem dX10_odds_59 : decode cX10_odds 59 = .ok (.iload_n 1, 1) := by decide +kernel
theorem dX10_odds_60 : decode cX10_odds 60 = .ok (.invokestatic 305, 3) := by decide +kernel
theorem dX10_odds_63 : decode cX10_odds 63 = .ok (.ireturn, 1) := by decide +kernel
theorem wd_1226 : (Cond.code ⟨"WebCourt", "odds", "(II)I"⟩ prog_1_method_40_code (5 : Nat) (Option.some FieldType.int)) ∈ gtb := gtb_c5 157 (by decide +kernel) rfl
theorem wd_283 : (Cond.fieldLink "WebCourt" (294 : Nat) "WebCourt$Web" "back" "I") ∈ gtb := gtb_c1 174 (by decide +kernel) rfl
theorem gf_RX10_294 {p : Program} {l : Launch} {e : Env} {R : Room} {s : State} {m : MethodId} {args : Array Value} {below : List Frame} {meth : Method} {c : Code} {H : Heap} {locs : List Loc} {cells slots : Nat} {Q : State → Prop} {cc : ByteArray} {pc nL : Nat} {ls : Array Slot} {rest : List Value} {D : va_G} {cy : Nat → ClassId} {A : Nat → Prop} {ws : va_W} {b : Nat} {fs : List Value} {v : Value} (C : Cx p s m args c cc nL RX10 D cy A) (hO : Wo D A ws s.heap H locs) (q0 : Nat) (he : ws[q0]? = some (b, .inr (9, fs))) (hv : fs[15]? = some v) (hdg : decode cc pc = .ok (.getfield 294, 3)) (kk : W p l e R s m args below meth c H locs cells slots Q (F0 m (pc + 3) ls (v :: rest))) : W p l e R s m args below meth c H locs cells slots Q (F0 m pc ls (.ref b :: rest)) := gF (k := 15) C hO q0 he rfl inFX9 (by decide) wd_283 rfl hv hdg kk
theorem wd_1227 : (Cond.methodLink "WebCourt" (297 : Nat) ⟨"WebCourt", "commonDivisor", "(II)I"⟩) ∈ gtb := gtb_c5 158 (by decide +kernel) rfl
theorem wd_1228 : (Cond.static ⟨"WebCourt", "commonDivisor", "(II)I"⟩) ∈ gtb := gtb_c5 159 (by decide +kernel) rfl
theorem hd_yX10_commonDivisor : yX10_commonDivisor.cls ≠ "java/lang/invoke/MethodHandle" ∧ yX10_commonDivisor.cls ≠ "java/lang/invoke/VarHandle" ∧ (parseMethodDescriptor yX10_commonDivisor.desc).map (fun d => d.parameters.length) = some 2 := by decide +kernel
theorem wd_1230 : (Cond.methodLink "WebCourt" (300 : Nat) ⟨"java/lang/Math", "max", "(II)I"⟩) ∈ gtb := gtb_c5 161 (by decide +kernel) rfl
theorem wd_636 : (Cond.static ⟨"java/lang/Math", "max", "(II)I"⟩) ∈ gtb := gtb_c3 47 (by decide +kernel) rfl
theorem wd_126 : (Cond.initialized "java/lang/Math") ∈ gtb := gtb_c1 17 (by decide +kernel) rfl
theorem wd_637 : (Cond.code ⟨"java/lang/Math", "max", "(II)I"⟩ prog_16_method_65_code (2 : Nat) (Option.some FieldType.int)) ∈ gtb := gtb_c3 48 (by decide +kernel) rfl
theorem wd_1231 : (Cond.methodLink "WebCourt" (305 : Nat) ⟨"WebCourt", "power", "(II)I"⟩) ∈ gtb := gtb_c5 162 (by decide +kernel) rfl
theorem wd_1232 : (Cond.static ⟨"WebCourt", "power", "(II)I"⟩) ∈ gtb := gtb_c5 163 (by decide +kernel) rfl
theorem hd_yX10_power : yX10_power.cls ≠ "java/lang/invoke/MethodHandle" ∧ yX10_power.cls ≠ "java/lang/invoke/VarHandle" ∧ (parseMethodDescriptor yX10_power.desc).map (fun d => d.parameters.length) = some 2 := by decide +kernel
set_option maxHeartbeats 4000000 in
set_option maxRecDepth 100000 in
theorem T_X10_odds (l : Launch) (D : va_G) (cy : Nat → ClassId) (a : Nat → Nat) (u : St) (hI_3_15 : fI u 3 15 = 0) (hR_0 : fR u 0 = a 3) (x1 : Int32) (x2 : Int32)  : Mi l D cy (cW cy a) yX10_odds (.code yX10_odds cX10_odds 5 (some .int)) (rmo 1 25) [.ref (a 0), .int x1, .int x2] u (fun (r : Int32) (u' : St) => r = q_odds x1 x2 ∧ u' = u) := by
  refine Mi.of (own := RX10) rfl (by decide) (Nat.le_of_ble_eq_true rfl) ?_
  intro p e s m below meth c A Q ls C hret hO hl
  obtain ⟨hx, hb, hml, hown, ht, hK, hA⟩ := id C
  have hl : lv_has ls 5 [(0, .ref (a 0)), (1, .int x1), (2, .int x2)] := hl
  refine lv_iload_n hx hb dX10_odds_0 rfl (lv_at hl 1 rfl) ?_
  refine bs_lt (tgt := 18) (X := (x1).toInt) hx hb dX10_odds_1 (by decide) rfl (fun c1 => ?_) (fun c1 => ?_)
  · refine lv_iconst (v := (-1)) hx hb dX10_odds_18 (by decide) ?_
    refine hret _ _ _ _ _ _ dX10_odds_19 rfl ?_ hO
    exact ⟨(by unfold q_odds; have z0 : (0 : Int32).toInt = 0 := rfl; have z1 : (-1 : Int32).toInt = -1 := rfl; split <;> first | rfl | (exact i32_eq.mpr (by omega)) | (exfalso; omega)), rfl⟩
  · refine lv_iload_n hx hb dX10_odds_4 rfl (lv_at hl 1 rfl) ?_
    refine lv_iconst (v := 4) hx hb dX10_odds_5 (by decide) ?_
    refine cs_gt (tgt := 18) (X := (x1).toInt) (Y := 4) hx hb dX10_odds_6 (by decide) rfl rfl (fun c2 => ?_) (fun c2 => ?_)
    · refine lv_iconst (v := (-1)) hx hb dX10_odds_18 (by decide) ?_
      refine hret _ _ _ _ _ _ dX10_odds_19 rfl ?_ hO
      exact ⟨(by unfold q_odds; have z0 : (0 : Int32).toInt = 0 := rfl; have z1 : (-1 : Int32).toInt = -1 := rfl; split <;> first | rfl | (exact i32_eq.mpr (by omega)) | (exfalso; omega)), rfl⟩
    · refine lv_iload_n hx hb dX10_odds_9 rfl (lv_at hl 2 rfl) ?_
      refine bs_lt (tgt := 18) (X := (x2).toInt) hx hb dX10_odds_10 (by decide) rfl (fun c3 => ?_) (fun c3 => ?_)
      · refine lv_iconst (v := (-1)) hx hb dX10_odds_18 (by decide) ?_
        refine hret _ _ _ _ _ _ dX10_odds_19 rfl ?_ hO
        exact ⟨(by unfold q_odds; have z0 : (0 : Int32).toInt = 0 := rfl; have z1 : (-1 : Int32).toInt = -1 := rfl; split <;> first | rfl | (exact i32_eq.mpr (by omega)) | (exfalso; omega)), rfl⟩
      · refine lv_iload_n hx hb dX10_odds_13 rfl (lv_at hl 2 rfl) ?_
        refine lv_iconst (v := 1) hx hb dX10_odds_14 (by decide) ?_
        refine cs_le (tgt := 20) (X := (x2).toInt) (Y := 1) hx hb dX10_odds_15 (by decide) rfl rfl (fun c4 => ?_) (fun c4 => ?_)
        · have c5 : (x1).toInt = 0 ∨ (x1).toInt = 1 ∨ (x1).toInt = 2 ∨ (x1).toInt = 3 ∨ (x1).toInt = 4 := by omega
          rcases c5 with c5 | c5 | c5 | c5 | c5
          · have ec5 : x1 = 0 := i32_eq.mpr (by rw [c5]; rfl)
            subst ec5
            refine lv_bipush (v := 100) hx hb dX10_odds_20 (by decide) ?_
            refine lv_aload_n hx hb dX10_odds_22 rfl (lv_at hl 0 rfl) ?_
            refine gf_RX10_37 (v := .ref (a 28)) C hO 0 cW_0 rfl dX10_odds_23 ?_
            refine gf_RX10_101 (v := .ref (a 3)) C hO 28 cW_28 (congrArg (fun z : Nat => some (Value.ref z)) hR_0) dX10_odds_26 ?_
            refine gf_RX10_294 (v := .int 0) C hO 3 cW_3 (congrArg (fun z : Int32 => some (Value.int z)) hI_3_15) dX10_odds_29 ?_
            refine lv_isub hx hb dX10_odds_32 ?_
            refine tE (y := 100) rfl ?_
            refine lv_istore_n (lv' := [(3, .int 100), (0, .ref (a 0)), (1, .int 0), (2, .int x2)]) hx hb dX10_odds_33 rfl hl (by decide) rfl (fun ls hl => ?_)
            refine lv_bipush (v := 100) hx hb dX10_odds_34 (by decide) ?_
            refine lv_iload_n hx hb dX10_odds_36 rfl (lv_at hl 0 rfl) ?_
            refine cSi (w := cW cy a) (As := [.int 100, .int 100]) (rest := []) C hO (T_X10_commonDivisor_100 l D cy a _ ) (va_cwS 2 ht (gSS wd_1227 wd_1228 wd_110 wd_1229) rfl rfl rfl hd_yX10_commonDivisor ⟨Nat.le_of_ble_eq_true rfl, Nat.le_of_ble_eq_true rfl⟩)  rfl hl.1 (Nat.le_of_ble_eq_true rfl) dX10_odds_37 rfl ⟨Nat.zero_le _, Nat.zero_le _⟩ (fun r6 u7 H locs hp8 hO => ?_)
            obtain ⟨hr6, hu7⟩ := hp8
            subst hr6
            rw [hu7] at hO
            refine lv_istore (lv' := [(4, .int 100), (3, .int 100), (0, .ref (a 0)), (1, .int 0), (2, .int x2)]) hx hb dX10_odds_40 hl (by decide) rfl (fun ls hl => ?_)
            refine lv_iload_n hx hb dX10_odds_42 rfl (lv_at hl 4 rfl) ?_
            refine bs_ne (tgt := 50) (X := (x2).toInt) hx hb dX10_odds_43 (by decide) rfl (fun c9 => ?_) (fun c9 => ?_)
            · refine lv_bipush (v := 100) hx hb dX10_odds_50 (by decide) ?_
              refine lv_iload hx hb dX10_odds_52 (lv_at hl 0 rfl) ?_
              refine lv_iconst (v := 1) hx hb dX10_odds_54 (by decide) ?_
              refine va_mmax hx hb (by rw [hml]; exact hl.1.symm) hown (ht _ wd_1230) (ht _ wd_636) (ht _ wd_126) (ht _ wd_637) (Nat.le_of_ble_eq_true rfl) (Nat.le_of_ble_eq_true rfl) (Nat.zero_le _) (Nat.zero_le _) dX10_odds_55 ?_
              refine tE (y := 100) (by decide) ?_
              refine lv_idiv hx hb dX10_odds_58 (i_ne0 (X := 100) rfl (by omega)) ?_
              refine tE (y := 1) (by decide) ?_
              refine lv_iload_n hx hb dX10_odds_59 rfl (lv_at hl 3 rfl) ?_
              refine cSi (w := cW cy a) (As := [.int 1, .int 0]) (rest := []) C hO (T_X10_power_1_0 l D cy a _ ) (va_cwS 2 ht (gSS wd_1231 wd_1232 wd_110 wd_1233) rfl rfl rfl hd_yX10_power ⟨Nat.le_of_ble_eq_true rfl, Nat.le_of_ble_eq_true rfl⟩)  rfl hl.1 (Nat.le_of_ble_eq_true rfl) dX10_odds_60 rfl ⟨Nat.zero_le _, Nat.zero_le _⟩ (fun r10 u11 H locs hp12 hO => ?_)
              obtain ⟨hr10, hu11⟩ := hp12
              subst hr10
              rw [hu11] at hO
              refine hret _ _ _ _ _ _ dX10_odds_63 rfl ?_ hO
              exact ⟨(by unfold q_odds; have z0 : (0 : Int32).toInt = 0 := rfl; have z1 : (-1 : Int32).toInt = -1 := rfl; split <;> first | rfl | (exact i32_eq.mpr (by omega)) | (exfalso; omega)), rfl⟩
            · refine lv_iload_n hx hb dX10_odds_46 rfl (lv_at hl 1 rfl) ?_
              refine lv_goto (tgt := 52) hx hb dX10_odds_47 (by decide) ?_
              refine lv_iload hx hb dX10_odds_52 (lv_at hl 0 rfl) ?_
              refine lv_iconst (v := 1) hx hb dX10_odds_54 (by decide) ?_
              refine va_mmax hx hb (by rw [hml]; exact hl.1.symm) hown (ht _ wd_1230) (ht _ wd_636) (ht _ wd_126) (ht _ wd_637) (Nat.le_of_ble_eq_true rfl) (Nat.le_of_ble_eq_true rfl) (Nat.zero_le _) (Nat.zero_le _) dX10_odds_55 ?_
              refine tE (y := 100) (by decide) ?_
              refine lv_idiv hx hb dX10_odds_58 (i_ne0 (X := 100) rfl (by omega)) ?_
              refine tE (y := 1) (by decide) ?_
              refine lv_iload_n hx hb dX10_odds_59 rfl (lv_at hl 3 rfl) ?_
              refine cSi (w := cW cy a) (As := [.int 1, .int 0]) (rest := []) C hO (T_X10_power_1_0 l D cy a _ ) (va_cwS 2 ht (gSS wd_1231 wd_1232 wd_110 wd_1233) rfl rfl rfl hd_yX10_power ⟨Nat.le_of_ble_eq_true rfl, Nat.le_of_ble_eq_true rfl⟩)  rfl hl.1 (Nat.le_of_ble_eq_true rfl) dX10_odds_60 rfl ⟨Nat.zero_le _, Nat.zero_le _⟩ (fun r13 u14 H locs hp15 hO => ?_)
              obtain ⟨hr13, hu14⟩ := hp15
              subst hr13
              rw [hu14] at hO
              refine hret _ _ _ _ _ _ dX10_odds_63 rfl ?_ hO
              exact ⟨(by unfold q_odds; have z0 : (0 : Int32).toInt = 0 := rfl; have z1 : (-1 : Int32).toInt = -1 := rfl; split <;> first | rfl | (exact i32_eq.mpr (by omega)) | (exfalso; omega)), rfl⟩
          · have ec5 : x1 = 1 := i32_eq.mpr (by rw [c5]; rfl)
            subst ec5
            refine lv_bipush (v := 100) hx hb dX10_odds_20 (by decide) ?_
            refine lv_aload_n hx hb dX10_odds_22 rfl (lv_at hl 0 rfl) ?_
            refine gf_RX10_37 (v := .ref (a 28)) C hO 0 cW_0 rfl dX10_odds_23 ?_
            refine gf_RX10_101 (v := .ref (a 3)) C hO 28 cW_28 (congrArg (fun z : Nat => some (Value.ref z)) hR_0) dX10_odds_26 ?_
            refine gf_RX10_294 (v := .int 0) C hO 3 cW_3 (congrArg (fun z : Int32 => some (Value.int z)) hI_3_15) dX10_odds_29 ?_
            refine lv_isub hx hb dX10_odds_32 ?_
            refine tE (y := 100) rfl ?_
            refine lv_istore_n (lv' := [(3, .int 100), (0, .ref (a 0)), (1, .int 1), (2, .int x2)]) hx hb dX10_odds_33 rfl hl (by decide) rfl (fun ls hl => ?_)
            refine lv_bipush (v := 100) hx hb dX10_odds_34 (by decide) ?_
            refine lv_iload_n hx hb dX10_odds_36 rfl (lv_at hl 0 rfl) ?_
            refine cSi (w := cW cy a) (As := [.int 100, .int 100]) (rest := []) C hO (T_X10_commonDivisor_100 l D cy a _ ) (va_cwS 2 ht (gSS wd_1227 wd_1228 wd_110 wd_1229) rfl rfl rfl hd_yX10_commonDivisor ⟨Nat.le_of_ble_eq_true rfl, Nat.le_of_ble_eq_true rfl⟩)  rfl hl.1 (Nat.le_of_ble_eq_true rfl) dX10_odds_37 rfl ⟨Nat.zero_le _, Nat.zero_le _⟩ (fun r16 u17 H locs hp18 hO => ?_)
            obtain ⟨hr16, hu17⟩ := hp18
            subst hr16
            rw [hu17] at hO
            refine lv_istore (lv' := [(4, .int 100), (3, .int 100), (0, .ref (a 0)), (1, .int 1), (2, .int x2)]) hx hb dX10_odds_40 hl (by decide) rfl (fun ls hl => ?_)
            refine lv_iload_n hx hb dX10_odds_42 rfl (lv_at hl 4 rfl) ?_
            refine bs_ne (tgt := 50) (X := (x2).toInt) hx hb dX10_odds_43 (by decide) rfl (fun c19 => ?_) (fun c19 => ?_)
            · refine lv_bipush (v := 100) hx hb dX10_odds_50 (by decide) ?_
              refine lv_iload hx hb dX10_odds_52 (lv_at hl 0 rfl) ?_
              refine lv_iconst (v := 1) hx hb dX10_odds_54 (by decide) ?_
              refine va_mmax hx hb (by rw [hml]; exact hl.1.symm) hown (ht _ wd_1230) (ht _ wd_636) (ht _ wd_126) (ht _ wd_637) (Nat.le_of_ble_eq_true rfl) (Nat.le_of_ble_eq_true rfl) (Nat.zero_le _) (Nat.zero_le _) dX10_odds_55 ?_
              refine tE (y := 100) (by decide) ?_
              refine lv_idiv hx hb dX10_odds_58 (i_ne0 (X := 100) rfl (by omega)) ?_
              refine tE (y := 1) (by decide) ?_
              refine lv_iload_n hx hb dX10_odds_59 rfl (lv_at hl 3 rfl) ?_
              refine cSi (w := cW cy a) (As := [.int 1, .int 1]) (rest := []) C hO (T_X10_power_1_1 l D cy a _ ) (va_cwS 2 ht (gSS wd_1231 wd_1232 wd_110 wd_1233) rfl rfl rfl hd_yX10_power ⟨Nat.le_of_ble_eq_true rfl, Nat.le_of_ble_eq_true rfl⟩)  rfl hl.1 (Nat.le_of_ble_eq_true rfl) dX10_odds_60 rfl ⟨Nat.zero_le _, Nat.zero_le _⟩ (fun r20 u21 H locs hp22 hO => ?_)
              obtain ⟨hr20, hu21⟩ := hp22
              subst hr20
              rw [hu21] at hO
              refine hret _ _ _ _ _ _ dX10_odds_63 rfl ?_ hO
              exact ⟨(by unfold q_odds; have z0 : (0 : Int32).toInt = 0 := rfl; have z1 : (-1 : Int32).toInt = -1 := rfl; split <;> first | rfl | (exact i32_eq.mpr (by omega)) | (exfalso; omega)), rfl⟩
            · refine lv_iload_n hx hb dX10_odds_46 rfl (lv_at hl 1 rfl) ?_
              refine lv_goto (tgt := 52) hx hb dX10_odds_47 (by decide) ?_
              refine lv_iload hx hb dX10_odds_52 (lv_at hl 0 rfl) ?_
              refine lv_iconst (v := 1) hx hb dX10_odds_54 (by decide) ?_
              refine va_mmax hx hb (by rw [hml]; exact hl.1.symm) hown (ht _ wd_1230) (ht _ wd_636) (ht _ wd_126) (ht _ wd_637) (Nat.le_of_ble_eq_true rfl) (Nat.le_of_ble_eq_true rfl) (Nat.zero_le _) (Nat.zero_le _) dX10_odds_55 ?_
              refine tE (y := 100) (by decide) ?_
              refine lv_idiv hx hb dX10_odds_58 (i_ne0 (X := 100) rfl (by omega)) ?_
              refine tE (y := 1) (by decide) ?_
              refine lv_iload_n hx hb dX10_odds_59 rfl (lv_at hl 3 rfl) ?_
              refine cSi (w := cW cy a) (As := [.int 1, .int 1]) (rest := []) C hO (T_X10_power_1_1 l D cy a _ ) (va_cwS 2 ht (gSS wd_1231 wd_1232 wd_110 wd_1233) rfl rfl rfl hd_yX10_power ⟨Nat.le_of_ble_eq_true rfl, Nat.le_of_ble_eq_true rfl⟩)  rfl hl.1 (Nat.le_of_ble_eq_true rfl) dX10_odds_60 rfl ⟨Nat.zero_le _, Nat.zero_le _⟩ (fun r23 u24 H locs hp25 hO => ?_)
              obtain ⟨hr23, hu24⟩ := hp25
              subst hr23
              rw [hu24] at hO
              refine hret _ _ _ _ _ _ dX10_odds_63 rfl ?_ hO
              exact ⟨(by unfold q_odds; have z0 : (0 : Int32).toInt = 0 := rfl; have z1 : (-1 : Int32).toInt = -1 := rfl; split <;> first | rfl | (exact i32_eq.mpr (by omega)) | (exfalso; omega)), rfl⟩
          · have ec5 : x1 = 2 := i32_eq.mpr (by rw [c5]; rfl)
            subst ec5
            refine lv_bipush (v := 100) hx hb dX10_odds_20 (by decide) ?_
            refine lv_aload_n hx hb dX10_odds_22 rfl (lv_at hl 0 rfl) ?_
            refine gf_RX10_37 (v := .ref (a 28)) C hO 0 cW_0 rfl dX10_odds_23 ?_
            refine gf_RX10_101 (v := .ref (a 3)) C hO 28 cW_28 (congrArg (fun z : Nat => some (Value.ref z)) hR_0) dX10_odds_26 ?_
            refine gf_RX10_294 (v := .int 0) C hO 3 cW_3 (congrArg (fun z : Int32 => some (Value.int z)) hI_3_15) dX10_odds_29 ?_
            refine lv_isub hx hb dX10_odds_32 ?_
            refine tE (y := 100) rfl ?_
            refine lv_istore_n (lv' := [(3, .int 100), (0, .ref (a 0)), (1, .int 2), (2, .int x2)]) hx hb dX10_odds_33 rfl hl (by decide) rfl (fun ls hl => ?_)
            refine lv_bipush (v := 100) hx hb dX10_odds_34 (by decide) ?_
            refine lv_iload_n hx hb dX10_odds_36 rfl (lv_at hl 0 rfl) ?_
            refine cSi (w := cW cy a) (As := [.int 100, .int 100]) (rest := []) C hO (T_X10_commonDivisor_100 l D cy a _ ) (va_cwS 2 ht (gSS wd_1227 wd_1228 wd_110 wd_1229) rfl rfl rfl hd_yX10_commonDivisor ⟨Nat.le_of_ble_eq_true rfl, Nat.le_of_ble_eq_true rfl⟩)  rfl hl.1 (Nat.le_of_ble_eq_true rfl) dX10_odds_37 rfl ⟨Nat.zero_le _, Nat.zero_le _⟩ (fun r26 u27 H locs hp28 hO => ?_)
            obtain ⟨hr26, hu27⟩ := hp28
            subst hr26
            rw [hu27] at hO
            refine lv_istore (lv' := [(4, .int 100), (3, .int 100), (0, .ref (a 0)), (1, .int 2), (2, .int x2)]) hx hb dX10_odds_40 hl (by decide) rfl (fun ls hl => ?_)
            refine lv_iload_n hx hb dX10_odds_42 rfl (lv_at hl 4 rfl) ?_
            refine bs_ne (tgt := 50) (X := (x2).toInt) hx hb dX10_odds_43 (by decide) rfl (fun c29 => ?_) (fun c29 => ?_)
            · refine lv_bipush (v := 100) hx hb dX10_odds_50 (by decide) ?_
              refine lv_iload hx hb dX10_odds_52 (lv_at hl 0 rfl) ?_
              refine lv_iconst (v := 1) hx hb dX10_odds_54 (by decide) ?_
              refine va_mmax hx hb (by rw [hml]; exact hl.1.symm) hown (ht _ wd_1230) (ht _ wd_636) (ht _ wd_126) (ht _ wd_637) (Nat.le_of_ble_eq_true rfl) (Nat.le_of_ble_eq_true rfl) (Nat.zero_le _) (Nat.zero_le _) dX10_odds_55 ?_
              refine tE (y := 100) (by decide) ?_
              refine lv_idiv hx hb dX10_odds_58 (i_ne0 (X := 100) rfl (by omega)) ?_
              refine tE (y := 1) (by decide) ?_
              refine lv_iload_n hx hb dX10_odds_59 rfl (lv_at hl 3 rfl) ?_
              refine cSi (w := cW cy a) (As := [.int 1, .int 2]) (rest := []) C hO (T_X10_power_1_2 l D cy a _ ) (va_cwS 2 ht (gSS wd_1231 wd_1232 wd_110 wd_1233) rfl rfl rfl hd_yX10_power ⟨Nat.le_of_ble_eq_true rfl, Nat.le_of_ble_eq_true rfl⟩)  rfl hl.1 (Nat.le_of_ble_eq_true rfl) dX10_odds_60 rfl ⟨Nat.zero_le _, Nat.zero_le _⟩ (fun r30 u31 H locs hp32 hO => ?_)
              obtain ⟨hr30, hu31⟩ := hp32
              subst hr30
              rw [hu31] at hO
              refine hret _ _ _ _ _ _ dX10_odds_63 rfl ?_ hO
              exact ⟨(by unfold q_odds; have z0 : (0 : Int32).toInt = 0 := rfl; have z1 : (-1 : Int32).toInt = -1 := rfl; split <;> first | rfl | (exact i32_eq.mpr (by omega)) | (exfalso; omega)), rfl⟩
            · refine lv_iload_n hx hb dX10_odds_46 rfl (lv_at hl 1 rfl) ?_
              refine lv_goto (tgt := 52) hx hb dX10_odds_47 (by decide) ?_
              refine lv_iload hx hb dX10_odds_52 (lv_at hl 0 rfl) ?_
              refine lv_iconst (v := 1) hx hb dX10_odds_54 (by decide) ?_
              refine va_mmax hx hb (by rw [hml]; exact hl.1.symm) hown (ht _ wd_1230) (ht _ wd_636) (ht _ wd_126) (ht _ wd_637) (Nat.le_of_ble_eq_true rfl) (Nat.le_of_ble_eq_true rfl) (Nat.zero_le _) (Nat.zero_le _) dX10_odds_55 ?_
              refine tE (y := 100) (by decide) ?_
              refine lv_idiv hx hb dX10_odds_58 (i_ne0 (X := 100) rfl (by omega)) ?_
              refine tE (y := 1) (by decide) ?_
              refine lv_iload_n hx hb dX10_odds_59 rfl (lv_at hl 3 rfl) ?_
              refine cSi (w := cW cy a) (As := [.int 1, .int 2]) (rest := []) C hO (T_X10_power_1_2 l D cy a _ ) (va_cwS 2 ht (gSS wd_1231 wd_1232 wd_110 wd_1233) rfl rfl rfl hd_yX10_power ⟨Nat.le_of_ble_eq_true rfl, Nat.le_of_ble_eq_true rfl⟩)  rfl hl.1 (Nat.le_of_ble_eq_true rfl) dX10_odds_60 rfl ⟨Nat.zero_le _, Nat.zero_le _⟩ (fun r33 u34 H locs hp35 hO => ?_)
              obtain ⟨hr33, hu34⟩ := hp35
              subst hr33
              rw [hu34] at hO
              refine hret _ _ _ _ _ _ dX10_odds_63 rfl ?_ hO
              exact ⟨(by unfold q_odds; have z0 : (0 : Int32).toInt = 0 := rfl; have z1 : (-1 : Int32).toInt = -1 := rfl; split <;> first | rfl | (exact i32_eq.mpr (by omega)) | (exfalso; omega)), rfl⟩
          · have ec5 : x1 = 3 := i32_eq.mpr (by rw [c5]; rfl)
            subst ec5
            refine lv_bipush (v := 100) hx hb dX10_odds_20 (by decide) ?_
            refine lv_aload_n hx hb dX10_odds_22 rfl (lv_at hl 0 rfl) ?_
            refine gf_RX10_37 (v := .ref (a 28)) C hO 0 cW_0 rfl dX10_odds_23 ?_
            refine gf_RX10_101 (v := .ref (a 3)) C hO 28 cW_28 (congrArg (fun z : Nat => some (Value.ref z)) hR_0) dX10_odds_26 ?_
            refine gf_RX10_294 (v := .int 0) C hO 3 cW_3 (congrArg (fun z : Int32 => some (Value.int z)) hI_3_15) dX10_odds_29 ?_
            refine lv_isub hx hb dX10_odds_32 ?_
            refine tE (y := 100) rfl ?_
            refine lv_istore_n (lv' := [(3, .int 100), (0, .ref (a 0)), (1, .int 3), (2, .int x2)]) hx hb dX10_odds_33 rfl hl (by decide) rfl (fun ls hl => ?_)
            refine lv_bipush (v := 100) hx hb dX10_odds_34 (by decide) ?_
            refine lv_iload_n hx hb dX10_odds_36 rfl (lv_at hl 0 rfl) ?_
            refine cSi (w := cW cy a) (As := [.int 100, .int 100]) (rest := []) C hO (T_X10_commonDivisor_100 l D cy a _ ) (va_cwS 2 ht (gSS wd_1227 wd_1228 wd_110 wd_1229) rfl rfl rfl hd_yX10_commonDivisor ⟨Nat.le_of_ble_eq_true rfl, Nat.le_of_ble_eq_true rfl⟩)  rfl hl.1 (Nat.le_of_ble_eq_true rfl) dX10_odds_37 rfl ⟨Nat.zero_le _, Nat.zero_le _⟩ (fun r36 u37 H locs hp38 hO => ?_)
            obtain ⟨hr36, hu37⟩ := hp38
            subst hr36
            rw [hu37] at hO
            refine lv_istore (lv' := [(4, .int 100), (3, .int 100), (0, .ref (a 0)), (1, .int 3), (2, .int x2)]) hx hb dX10_odds_40 hl (by decide) rfl (fun ls hl => ?_)
            refine lv_iload_n hx hb dX10_odds_42 rfl (lv_at hl 4 rfl) ?_
            refine bs_ne (tgt := 50) (X := (x2).toInt) hx hb dX10_odds_43 (by decide) rfl (fun c39 => ?_) (fun c39 => ?_)
            · refine lv_bipush (v := 100) hx hb dX10_odds_50 (by decide) ?_
              refine lv_iload hx hb dX10_odds_52 (lv_at hl 0 rfl) ?_
              refine lv_iconst (v := 1) hx hb dX10_odds_54 (by decide) ?_
              refine va_mmax hx hb (by rw [hml]; exact hl.1.symm) hown (ht _ wd_1230) (ht _ wd_636) (ht _ wd_126) (ht _ wd_637) (Nat.le_of_ble_eq_true rfl) (Nat.le_of_ble_eq_true rfl) (Nat.zero_le _) (Nat.zero_le _) dX10_odds_55 ?_
              refine tE (y := 100) (by decide) ?_
              refine lv_idiv hx hb dX10_odds_58 (i_ne0 (X := 100) rfl (by omega)) ?_
              refine tE (y := 1) (by decide) ?_
              refine lv_iload_n hx hb dX10_odds_59 rfl (lv_at hl 3 rfl) ?_
              refine cSi (w := cW cy a) (As := [.int 1, .int 3]) (rest := []) C hO (T_X10_power_1_3 l D cy a _ ) (va_cwS 2 ht (gSS wd_1231 wd_1232 wd_110 wd_1233) rfl rfl rfl hd_yX10_power ⟨Nat.le_of_ble_eq_true rfl, Nat.le_of_ble_eq_true rfl⟩)  rfl hl.1 (Nat.le_of_ble_eq_true rfl) dX10_odds_60 rfl ⟨Nat.zero_le _, Nat.zero_le _⟩ (fun r40 u41 H locs hp42 hO => ?_)
              obtain ⟨hr40, hu41⟩ := hp42
              subst hr40
              rw [hu41] at hO
              refine hret _ _ _ _ _ _ dX10_odds_63 rfl ?_ hO
              exact ⟨(by unfold q_odds; have z0 : (0 : Int32).toInt = 0 := rfl; have z1 : (-1 : Int32).toInt = -1 := rfl; split <;> first | rfl | (exact i32_eq.mpr (by omega)) | (exfalso; omega)), rfl⟩
            · refine lv_iload_n hx hb dX10_odds_46 rfl (lv_at hl 1 rfl) ?_
              refine lv_goto (tgt := 52) hx hb dX10_odds_47 (by decide) ?_
              refine lv_iload hx hb dX10_odds_52 (lv_at hl 0 rfl) ?_
              refine lv_iconst (v := 1) hx hb dX10_odds_54 (by decide) ?_
              refine va_mmax hx hb (by rw [hml]; exact hl.1.symm) hown (ht _ wd_1230) (ht _ wd_636) (ht _ wd_126) (ht _ wd_637) (Nat.le_of_ble_eq_true rfl) (Nat.le_of_ble_eq_true rfl) (Nat.zero_le _) (Nat.zero_le _) dX10_odds_55 ?_
              refine tE (y := 100) (by decide) ?_
              refine lv_idiv hx hb dX10_odds_58 (i_ne0 (X := 100) rfl (by omega)) ?_
              refine tE (y := 1) (by decide) ?_
              refine lv_iload_n hx hb dX10_odds_59 rfl (lv_at hl 3 rfl) ?_
              refine cSi (w := cW cy a) (As := [.int 1, .int 3]) (rest := []) C hO (T_X10_power_1_3 l D cy a _ ) (va_cwS 2 ht (gSS wd_1231 wd_1232 wd_110 wd_1233) rfl rfl rfl hd_yX10_power ⟨Nat.le_of_ble_eq_true rfl, Nat.le_of_ble_eq_true rfl⟩)  rfl hl.1 (Nat.le_of_ble_eq_true rfl) dX10_odds_60 rfl ⟨Nat.zero_le _, Nat.zero_le _⟩ (fun r43 u44 H locs hp45 hO => ?_)
              obtain ⟨hr43, hu44⟩ := hp45
              subst hr43
              rw [hu44] at hO
              refine hret _ _ _ _ _ _ dX10_odds_63 rfl ?_ hO
              exact ⟨(by unfold q_odds; have z0 : (0 : Int32).toInt = 0 := rfl; have z1 : (-1 : Int32).toInt = -1 := rfl; split <;> first | rfl | (exact i32_eq.mpr (by omega)) | (exfalso; omega)), rfl⟩
          · have ec5 : x1 = 4 := i32_eq.mpr (by rw [c5]; rfl)
            subst ec5
            refine lv_bipush (v := 100) hx hb dX10_odds_20 (by decide) ?_
            refine lv_aload_n hx hb dX10_odds_22 rfl (lv_at hl 0 rfl) ?_
            refine gf_RX10_37 (v := .ref (a 28)) C hO 0 cW_0 rfl dX10_odds_23 ?_
            refine gf_RX10_101 (v := .ref (a 3)) C hO 28 cW_28 (congrArg (fun z : Nat => some (Value.ref z)) hR_0) dX10_odds_26 ?_
            refine gf_RX10_294 (v := .int 0) C hO 3 cW_3 (congrArg (fun z : Int32 => some (Value.int z)) hI_3_15) dX10_odds_29 ?_
            refine lv_isub hx hb dX10_odds_32 ?_
            refine tE (y := 100) rfl ?_
            refine lv_istore_n (lv' := [(3, .int 100), (0, .ref (a 0)), (1, .int 4), (2, .int x2)]) hx hb dX10_odds_33 rfl hl (by decide) rfl (fun ls hl => ?_)
            refine lv_bipush (v := 100) hx hb dX10_odds_34 (by decide) ?_
            refine lv_iload_n hx hb dX10_odds_36 rfl (lv_at hl 0 rfl) ?_
            refine cSi (w := cW cy a) (As := [.int 100, .int 100]) (rest := []) C hO (T_X10_commonDivisor_100 l D cy a _ ) (va_cwS 2 ht (gSS wd_1227 wd_1228 wd_110 wd_1229) rfl rfl rfl hd_yX10_commonDivisor ⟨Nat.le_of_ble_eq_true rfl, Nat.le_of_ble_eq_true rfl⟩)  rfl hl.1 (Nat.le_of_ble_eq_true rfl) dX10_odds_37 rfl ⟨Nat.zero_le _, Nat.zero_le _⟩ (fun r46 u47 H locs hp48 hO => ?_)
            obtain ⟨hr46, hu47⟩ := hp48
            subst hr46
            rw [hu47] at hO
            refine lv_istore (lv' := [(4, .int 100), (3, .int 100), (0, .ref (a 0)), (1, .int 4), (2, .int x2)]) hx hb dX10_odds_40 hl (by decide) rfl (fun ls hl => ?_)
            refine lv_iload_n hx hb dX10_odds_42 rfl (lv_at hl 4 rfl) ?_
            refine bs_ne (tgt := 50) (X := (x2).toInt) hx hb dX10_odds_43 (by decide) rfl (fun c49 => ?_) (fun c49 => ?_)
            · refine lv_bipush (v := 100) hx hb dX10_odds_50 (by decide) ?_
              refine lv_iload hx hb dX10_odds_52 (lv_at hl 0 rfl) ?_
              refine lv_iconst (v := 1) hx hb dX10_odds_54 (by decide) ?_
              refine va_mmax hx hb (by rw [hml]; exact hl.1.symm) hown (ht _ wd_1230) (ht _ wd_636) (ht _ wd_126) (ht _ wd_637) (Nat.le_of_ble_eq_true rfl) (Nat.le_of_ble_eq_true rfl) (Nat.zero_le _) (Nat.zero_le _) dX10_odds_55 ?_
              refine tE (y := 100) (by decide) ?_
              refine lv_idiv hx hb dX10_odds_58 (i_ne0 (X := 100) rfl (by omega)) ?_
              refine tE (y := 1) (by decide) ?_
              refine lv_iload_n hx hb dX10_odds_59 rfl (lv_at hl 3 rfl) ?_
              refine cSi (w := cW cy a) (As := [.int 1, .int 4]) (rest := []) C hO (T_X10_power_1_4 l D cy a _ ) (va_cwS 2 ht (gSS wd_1231 wd_1232 wd_110 wd_1233) rfl rfl rfl hd_yX10_power ⟨Nat.le_of_ble_eq_true rfl, Nat.le_of_ble_eq_true rfl⟩)  rfl hl.1 (Nat.le_of_ble_eq_true rfl) dX10_odds_60 rfl ⟨Nat.zero_le _, Nat.zero_le _⟩ (fun r50 u51 H locs hp52 hO => ?_)
              obtain ⟨hr50, hu51⟩ := hp52
              subst hr50
              rw [hu51] at hO
              refine hret _ _ _ _ _ _ dX10_odds_63 rfl ?_ hO
              exact ⟨(by unfold q_odds; have z0 : (0 : Int32).toInt = 0 := rfl; have z1 : (-1 : Int32).toInt = -1 := rfl; split <;> first | rfl | (exact i32_eq.mpr (by omega)) | (exfalso; omega)), rfl⟩
            · refine lv_iload_n hx hb dX10_odds_46 rfl (lv_at hl 1 rfl) ?_
              refine lv_goto (tgt := 52) hx hb dX10_odds_47 (by decide) ?_
              refine lv_iload hx hb dX10_odds_52 (lv_at hl 0 rfl) ?_
              refine lv_iconst (v := 1) hx hb dX10_odds_54 (by decide) ?_
              refine va_mmax hx hb (by rw [hml]; exact hl.1.symm) hown (ht _ wd_1230) (ht _ wd_636) (ht _ wd_126) (ht _ wd_637) (Nat.le_of_ble_eq_true rfl) (Nat.le_of_ble_eq_true rfl) (Nat.zero_le _) (Nat.zero_le _) dX10_odds_55 ?_
              refine tE (y := 100) (by decide) ?_
              refine lv_idiv hx hb dX10_odds_58 (i_ne0 (X := 100) rfl (by omega)) ?_
              refine tE (y := 1) (by decide) ?_
              refine lv_iload_n hx hb dX10_odds_59 rfl (lv_at hl 3 rfl) ?_
              refine cSi (w := cW cy a) (As := [.int 1, .int 4]) (rest := []) C hO (T_X10_power_1_4 l D cy a _ ) (va_cwS 2 ht (gSS wd_1231 wd_1232 wd_110 wd_1233) rfl rfl rfl hd_yX10_power ⟨Nat.le_of_ble_eq_true rfl, Nat.le_of_ble_eq_true rfl⟩)  rfl hl.1 (Nat.le_of_ble_eq_true rfl) dX10_odds_60 rfl ⟨Nat.zero_le _, Nat.zero_le _⟩ (fun r53 u54 H locs hp55 hO => ?_)
              obtain ⟨hr53, hu54⟩ := hp55
              subst hr53
              rw [hu54] at hO
              refine hret _ _ _ _ _ _ dX10_odds_63 rfl ?_ hO
              exact ⟨(by unfold q_odds; have z0 : (0 : Int32).toInt = 0 := rfl; have z1 : (-1 : Int32).toInt = -1 := rfl; split <;> first | rfl | (exact i32_eq.mpr (by omega)) | (exfalso; omega)), rfl⟩
        · refine lv_iconst (v := (-1)) hx hb dX10_odds_18 (by decide) ?_
          refine hret _ _ _ _ _ _ dX10_odds_19 rfl ?_ hO
          exact ⟨(by unfold q_odds; have z0 : (0 : Int32).toInt = 0 := rfl; have z1 : (-1 : Int32).toInt = -1 := rfl; split <;> first | rfl | (exact i32_eq.mpr (by omega)) | (exfalso; omega)), rfl⟩
theorem dX10_lies_0 : decode cX10_lies 0 = .ok (.iload_n 1, 1) := by decide +kernel
theorem dX10_lies_1 : decode cX10_lies 1 = .ok (.ifCond .lt 11, 3) := by decide +kernel
theorem dX10_lies_4 : decode cX10_lies 4 = .ok (.iload_n 1, 1) := by decide +kernel
theorem dX10_lies_5 : decode cX10_lies 5 = .ok (.aload_n 0, 1) := by decide +kernel
theorem dX10_lies_6 : decode cX10_lies 6 = .ok (.getfield 111, 3) := by decide +kernel
theorem dX10_lies_9 : decode cX10_lies 9 = .ok (.if_icmp .lt 7, 3) := by decide +kernel
theorem dX10_lies_12 : decode cX10_lies 12 = .ok (.iconst (-1), 1) := by decide +kernel
theorem dX10_lies_13 : decode cX10_lies 13 = .ok (.goto 9, 3) := by decide +kernel
theorem dX10_lies_16 : decode cX10_lies 16 = .ok (.aload_n 0, 1) := by decide +kernel
theorem dX10_lies_17 : decode cX10_lies 17 = .ok (.getfield 85, 3) := by decide +kernel
theorem dX10_lies_20 : decode cX10_lies 20 = .ok (.iload_n 1, 1) := by decide +kernel
theorem dX10_lies_21 : decode cX10_lies 21 = .ok (.iaload, 1) := by decide +kernel
theorem dX10_lies_22 : decode cX10_lies 22 = .ok (.ireturn, 1) := by decide +kernel
theorem wd_1237 : (Cond.code ⟨"WebCourt", "lies", "(I)I"⟩ prog_1_method_43_code (2 : Nat) (Option.some FieldType.int)) ∈ gtb := gtb_c5 168 (by decide +kernel) rfl
theorem gf_RX10_111 {p : Program} {l : Launch} {e : Env} {R : Room} {s : State} {m : MethodId} {args : Array Value} {below : List Frame} {meth : Method} {c : Code} {H : Heap} {locs : List Loc} {cells slots : Nat} {Q : State → Prop} {cc : ByteArray} {pc nL : Nat} {ls : Array Slot} {rest : List Value} {D : va_G} {cy : Nat → ClassId} {A : Nat → Prop} {ws : va_W} {b : Nat} {fs : List Value} {v : Value} (C : Cx p s m args c cc nL RX10 D cy A) (hO : Wo D A ws s.heap H locs) (q0 : Nat) (he : ws[q0]? = some (b, .inr (10, fs))) (hv : fs[10]? = some v) (hdg : decode cc pc = .ok (.getfield 111, 3)) (kk : W p l e R s m args below meth c H locs cells slots Q (F0 m (pc + 3) ls (v :: rest))) : W p l e R s m args below meth c H locs cells slots Q (F0 m pc ls (.ref b :: rest)) := gF (k := 10) C hO q0 he rfl inFX10 (by decide) wd_478 rfl hv hdg kk
set_option maxHeartbeats 4000000 in
set_option maxRecDepth 100000 in
theorem T_X10_lies (l : Launch) (D : va_G) (cy : Nat → ClassId) (a : Nat → Nat) (u : St) (hI_0_10 : fI u 0 10 = 0) (x1 : Int32)  : Mi l D cy (cW cy a) yX10_lies (.code yX10_lies cX10_lies 2 (some .int)) (rmo 0 0) [.ref (a 0), .int x1] u (fun (r : Int32) (u' : St) => r = (-1) ∧ u' = u) := by
  refine Mi.of (own := RX10) rfl (by decide) (Nat.le_of_ble_eq_true rfl) ?_
  intro p e s m below meth c A Q ls C hret hO hl
  obtain ⟨hx, hb, hml, hown, ht, hK, hA⟩ := id C
  have hl : lv_has ls 2 [(0, .ref (a 0)), (1, .int x1)] := hl
  refine lv_iload_n hx hb dX10_lies_0 rfl (lv_at hl 1 rfl) ?_
  refine bs_lt (tgt := 12) (X := (x1).toInt) hx hb dX10_lies_1 (by decide) rfl (fun c1 => ?_) (fun c1 => ?_)
  · refine lv_iconst (v := (-1)) hx hb dX10_lies_12 (by decide) ?_
    refine lv_goto (tgt := 22) hx hb dX10_lies_13 (by decide) ?_
    refine hret _ _ _ _ _ _ dX10_lies_22 rfl ?_ hO
    exact ⟨rfl, rfl⟩
  · refine lv_iload_n hx hb dX10_lies_4 rfl (lv_at hl 1 rfl) ?_
    refine lv_aload_n hx hb dX10_lies_5 rfl (lv_at hl 0 rfl) ?_
    refine gf_RX10_111 (v := .int 0) C hO 0 cW_0 (congrArg (fun z : Int32 => some (Value.int z)) hI_0_10) dX10_lies_6 ?_
    refine cn_lt (X := (x1).toInt) (Y := 0) hx hb dX10_lies_9 rfl rfl (by omega) ?_ (tgt := 16) (by decide)
    refine lv_iconst (v := (-1)) hx hb dX10_lies_12 (by decide) ?_
    refine lv_goto (tgt := 22) hx hb dX10_lies_13 (by decide) ?_
    refine hret _ _ _ _ _ _ dX10_lies_22 rfl ?_ hO
    exact ⟨rfl, rfl⟩
theorem dX10_heard_0 : decode cX10_heard 0 = .ok (.aload_n 0, 1) := by decide +kernel
theorem dX10_heard_1 : decode cX10_heard 1 = .ok (.getfield 37, 3) := by decide +kernel
theorem dX10_heard_4 : decode cX10_heard 4 = .ok (.iload_n 1, 1) := by decide +kernel
theorem dX10_heard_5 : decode cX10_heard 5 = .ok (.invokevirtual 144, 3) := by decide +kernel
theorem dX10_heard_8 : decode cX10_heard 8 = .ok (.ifCond .eq 30, 3) := by decide +kernel
theorem dX10_heard_11 : decode cX10_heard 11 = .ok (.iload_n 2, 1) := by decide +kernel
theorem dX10_heard_12 : decode cX10_heard 12 = .ok (.sipush (-9999), 3) := by decide +kernel
theorem dX10_heard_15 : decode cX10_heard 15 = .ok (.if_icmp .lt 23, 3) := by decide +kernel
theorem dX10_heard_18 : decode cX10_heard 18 = .ok (.iload_n 2, 1) := by decide +kernel
theorem dX10_heard_19 : decode cX10_heard 19 = .ok (.sipush 9999, 3) := by decide +kernel
theorem dX10_heard_22 : decode cX10_heard 22 = .ok (.if_icmp .gt 16, 3) := by decide +kernel
theorem dX10_heard_25 : decode cX10_heard 25 = .ok (.aload_n 0, 1) := by decide +kernel
theorem dX10_heard_26 : decode cX10_heard 26 = .ok (.getfield 37, 3) := by decide +kernel
theorem dX10_heard_29 : decode cX10_heard 29 = .ok (.getfield 101, 3) := by decide +kernel
theorem dX10_heard_32 : decode cX10_heard 32 = .ok (.getfield 206, 3) := by decide +kernel
theorem dX10_heard_35 : decode cX10_heard 35 = .ok (.ifCond .ne 5, 3) := by decide +kernel
theorem dX10_heard_38 : decode cX10_heard 38 = .ok (.iconst (-1), 1) := by decide +kernel
theorem dX10_heard_39 : decode cX10_heard 39 = .ok (.ireturn, 1) := by decide +kernel
theorem dX10_heard_40 : decode cX10_heard 40 = .ok (.aload_n 0, 1) := by decide +kernel
theorem dX10_heard_41 : decode cX10_heard 41 = .ok (.getfield 76, 3) := by decide +kernel
theorem dX10_heard_44 : decode cX10_heard 44 = .ok (.iload_n 1, 1) := by decide +kernel
theorem dX10_heard_45 : decode cX10_heard 45 = .ok (.iload_n 2, 1) := by decide +kernel
theorem dX10_heard_46 : decode cX10_heard 46 = .ok (.iload_n 3, 1) := by decide +kernel
theorem dX10_heard_47 : decode cX10_heard 47 = .ok (.invokevirtual 308, 3) := by decide +kernel
theorem dX10_heard_50 : decode cX10_heard 50 = .ok (.ireturn, 1) := by decide +kernel
theorem wd_1241 : (Cond.code ⟨"WebCourt", "heard", "(IIZ)I"⟩ prog_1_method_44_code (4 : Nat) (Option.some FieldType.int)) ∈ gtb := gtb_c5 172 (by decide +kernel) rfl
set_option maxHeartbeats 4000000 in
set_option maxRecDepth 100000 in
theorem T_X10_heard (l : Launch) (D : va_G) (cy : Nat → ClassId) (a : Nat → Nat) (u : St) (hI_3_12 : fI u 3 12 = 0) (hR_0 : fR u 0 = a 3) (x1 : Int32) (x2 : Int32) (x3 : Int32)  : Mi l D cy (cW cy a) yX10_heard (.code yX10_heard cX10_heard 4 (some .int)) (rmo 1 21) [.ref (a 0), .int x1, .int x2, .int x3] u (fun (r : Int32) (u' : St) => r = (-1) ∧ u' = u) := by
  refine Mi.of (own := RX10) rfl (by decide) (Nat.le_of_ble_eq_true rfl) ?_
  intro p e s m below meth c A Q ls C hret hO hl
  obtain ⟨hx, hb, hml, hown, ht, hK, hA⟩ := id C
  have hl : lv_has ls 4 [(0, .ref (a 0)), (1, .int x1), (2, .int x2), (3, .int x3)] := hl
  refine lv_aload_n hx hb dX10_heard_0 rfl (lv_at hl 0 rfl) ?_
  refine gf_RX10_37 (v := .ref (a 28)) C hO 0 cW_0 rfl dX10_heard_1 ?_
  refine lv_iload_n hx hb dX10_heard_4 rfl (lv_at hl 1 rfl) ?_
  refine cVi (w := cW cy a) (As := [.int x1]) (rest := []) C hO (T_X2_hasCase l D cy a _ (by exact hI_3_12) (by exact hR_0) (x1)) (cwV 1 ht (gV wd_841 wd_842 wd_843 wd_115 wd_844) rfl rfl rfl hd_yX2_hasCase ⟨Nat.le_of_ble_eq_true rfl, Nat.le_of_ble_eq_true rfl⟩) 28 rfl cW_28 rfl rfl hl.1 (Nat.le_of_ble_eq_true rfl) dX10_heard_5 rfl ⟨Nat.zero_le _, Nat.zero_le _⟩ (fun r1 u2 H locs hp3 hO => ?_)
  obtain ⟨hr1, hu2⟩ := hp3
  subst hr1
  rw [hu2] at hO
  refine bt_eq (tgt := 38) (X := 0) hx hb dX10_heard_8 (by decide) rfl (by omega) ?_
  refine lv_iconst (v := (-1)) hx hb dX10_heard_38 (by decide) ?_
  refine hret _ _ _ _ _ _ dX10_heard_39 rfl ?_ hO
  exact ⟨rfl, rfl⟩
theorem dX3_takeBack_0 : decode cX3_takeBack 0 = .ok (.iload_n 1, 1) := by decide +kernel
theorem dX3_takeBack_1 : decode cX3_takeBack 1 = .ok (.ifCond .lt 21, 3) := by decide +kernel
theorem dX3_takeBack_4 : decode cX3_takeBack 4 = .ok (.iload_n 1, 1) := by decide +kernel
theorem dX3_takeBack_5 : decode cX3_takeBack 5 = .ok (.aload_n 0, 1) := by decide +kernel
theorem dX3_takeBack_6 : decode cX3_takeBack 6 = .ok (.getfield 28, 3) := by decide +kernel
theorem dX3_takeBack_9 : decode cX3_takeBack 9 = .ok (.if_icmp .ge 13, 3) := by decide +kernel
theorem dX3_takeBack_12 : decode cX3_takeBack 12 = .ok (.aload_n 0, 1) := by decide +kernel
theorem dX3_takeBack_13 : decode cX3_takeBack 13 = .ok (.getfield 25, 3) := by decide +kernel
theorem dX3_takeBack_16 : decode cX3_takeBack 16 = .ok (.iload_n 1, 1) := by decide +kernel
theorem dX3_takeBack_17 : decode cX3_takeBack 17 = .ok (.iaload, 1) := by decide +kernel
theorem dX3_takeBack_18 : decode cX3_takeBack 18 = .ok (.iconst (-1), 1) := by decide +kernel
theorem dX3_takeBack_19 : decode cX3_takeBack 19 = .ok (.if_icmp .eq 5, 3) := by decide +kernel
theorem dX3_takeBack_22 : decode cX3_takeBack 22 = .ok (.iconst 0, 1) := by decide +kernel
theorem dX3_takeBack_23 : decode cX3_takeBack 23 = .ok (.ireturn, 1) := by decide +kernel
theorem dX3_takeBack_24 : decode cX3_takeBack 24 = .ok (.aload_n 0, 1) := by decide +kernel
theorem dX3_takeBack_25 : decode cX3_takeBack 25 = .ok (.getfield 25, 3) := by decide +kernel
theorem dX3_takeBack_28 : decode cX3_takeBack 28 = .ok (.iload_n 1, 1) := by decide +kernel
theorem dX3_takeBack_29 : decode cX3_takeBack 29 = .ok (.aload_n 0, 1) := by decide +kernel
theorem dX3_takeBack_30 : decode cX3_takeBack 30 = .ok (.getfield 32, 3) := by decide +kernel
theorem dX3_takeBack_33 : decode cX3_takeBack 33 = .ok (.iastore, 1) := by decide +kernel
theorem dX3_takeBack_34 : decode cX3_takeBack 34 = .ok (.iconst 1, 1) := by decide +kernel
theorem dX3_takeBack_35 : decode cX3_takeBack 35 = .ok (.ireturn, 1) := by decide +kernel
theorem wd_1253 : (Cond.code ⟨"WebCourt$Hearsay", "takeBack", "(I)Z"⟩ prog_5_method_4_code (2 : Nat) (Option.some FieldType.boolean)) ∈ gtb := gtb_c5 184 (by decide +kernel) rfl
theorem wd_447 : (Cond.fieldLink "WebCourt$Hearsay" (28 : Nat) "WebCourt$Hearsay" "count" "I") ∈ gtb := gtb_c2 98 (by decide +kernel) rfl
theorem wd_451 : (Cond.laysFinal "WebCourt$Hearsay" "WebCourt$Hearsay" "items" "[I") ∈ gtb := gtb_c2 102 (by decide +kernel) rfl
theorem wd_453 : (Cond.laysFinal "WebCourt$Hearsay" "WebCourt$Hearsay" "verdicts" "[I") ∈ gtb := gtb_c2 104 (by decide +kernel) rfl
theorem wd_455 : (Cond.laysFinal "WebCourt$Hearsay" "WebCourt$Hearsay" "are" "[Z") ∈ gtb := gtb_c2 106 (by decide +kernel) rfl
theorem wd_457 : (Cond.laysFinal "WebCourt$Hearsay" "WebCourt$Hearsay" "told" "[I") ∈ gtb := gtb_c2 108 (by decide +kernel) rfl
theorem wd_459 : (Cond.laysFinal "WebCourt$Hearsay" "WebCourt$Hearsay" "untold" "[I") ∈ gtb := gtb_c2 110 (by decide +kernel) rfl
theorem wd_461 : (Cond.lays "WebCourt$Hearsay" "WebCourt$Hearsay" "count" "I") ∈ gtb := gtb_c2 112 (by decide +kernel) rfl
theorem wd_463 : (Cond.lays "WebCourt$Hearsay" "WebCourt$Hearsay" "time" "I") ∈ gtb := gtb_c2 114 (by decide +kernel) rfl
theorem inFX3 : ∀ w ∈ u_ws RX3 TX3 7, w ∈ gtb := by
  show ∀ w ∈ [u_lay RX3 TX3 0, u_lay RX3 TX3 1, u_lay RX3 TX3 2, u_lay RX3 TX3 3, u_lay RX3 TX3 4, u_lay RX3 TX3 5, u_lay RX3 TX3 6], w ∈ gtb
  exact List.forall_mem_cons.mpr ⟨wd_451, List.forall_mem_cons.mpr ⟨wd_453, List.forall_mem_cons.mpr ⟨wd_455, List.forall_mem_cons.mpr ⟨wd_457, List.forall_mem_cons.mpr ⟨wd_459, List.forall_mem_cons.mpr ⟨wd_461, List.forall_mem_cons.mpr ⟨wd_463, fun _ h => absurd h List.not_mem_nil⟩⟩⟩⟩⟩⟩⟩
theorem gf_RX3_28 {p : Program} {l : Launch} {e : Env} {R : Room} {s : State} {m : MethodId} {args : Array Value} {below : List Frame} {meth : Method} {c : Code} {H : Heap} {locs : List Loc} {cells slots : Nat} {Q : State → Prop} {cc : ByteArray} {pc nL : Nat} {ls : Array Slot} {rest : List Value} {D : va_G} {cy : Nat → ClassId} {A : Nat → Prop} {ws : va_W} {b : Nat} {fs : List Value} {v : Value} (C : Cx p s m args c cc nL RX3 D cy A) (hO : Wo D A ws s.heap H locs) (q0 : Nat) (he : ws[q0]? = some (b, .inr (3, fs))) (hv : fs[5]? = some v) (hdg : decode cc pc = .ok (.getfield 28, 3)) (kk : W p l e R s m args below meth c H locs cells slots Q (F0 m (pc + 3) ls (v :: rest))) : W p l e R s m args below meth c H locs cells slots Q (F0 m pc ls (.ref b :: rest)) := gF (k := 5) C hO q0 he rfl inFX3 (by decide) wd_447 rfl hv hdg kk
set_option maxHeartbeats 4000000 in
set_option maxRecDepth 100000 in
theorem T_X3_takeBack (l : Launch) (D : va_G) (cy : Nat → ClassId) (a : Nat → Nat) (u : St) (hI_39_5 : fI u 39 5 = 0) (x1 : Int32)  : Mi l D cy (cW cy a) yX3_takeBack (.code yX3_takeBack cX3_takeBack 2 (some .boolean)) (rmo 0 0) [.ref (a 39), .int x1] u (fun (r : Int32) (u' : St) => r = 0 ∧ u' = u) := by
  refine Mi.of (own := RX3) rfl (by decide) (Nat.le_of_ble_eq_true rfl) ?_
  intro p e s m below meth c A Q ls C hret hO hl
  obtain ⟨hx, hb, hml, hown, ht, hK, hA⟩ := id C
  have hl : lv_has ls 2 [(0, .ref (a 39)), (1, .int x1)] := hl
  refine lv_iload_n hx hb dX3_takeBack_0 rfl (lv_at hl 1 rfl) ?_
  refine bs_lt (tgt := 22) (X := (x1).toInt) hx hb dX3_takeBack_1 (by decide) rfl (fun c1 => ?_) (fun c1 => ?_)
  · refine lv_iconst (v := 0) hx hb dX3_takeBack_22 (by decide) ?_
    refine hret _ _ _ _ _ _ dX3_takeBack_23 rfl ?_ hO
    exact ⟨rfl, rfl⟩
  · refine lv_iload_n hx hb dX3_takeBack_4 rfl (lv_at hl 1 rfl) ?_
    refine lv_aload_n hx hb dX3_takeBack_5 rfl (lv_at hl 0 rfl) ?_
    refine gf_RX3_28 (v := .int 0) C hO 39 cW_39 (congrArg (fun z : Int32 => some (Value.int z)) hI_39_5) dX3_takeBack_6 ?_
    refine ct_ge (tgt := 22) (X := (x1).toInt) (Y := 0) hx hb dX3_takeBack_9 (by decide) rfl rfl (by omega) ?_
    refine lv_iconst (v := 0) hx hb dX3_takeBack_22 (by decide) ?_
    refine hret _ _ _ _ _ _ dX3_takeBack_23 rfl ?_ hO
    exact ⟨rfl, rfl⟩
theorem dX10_untell_0 : decode cX10_untell 0 = .ok (.aload_n 0, 1) := by decide +kernel
theorem dX10_untell_1 : decode cX10_untell 1 = .ok (.getfield 76, 3) := by decide +kernel
theorem dX10_untell_4 : decode cX10_untell 4 = .ok (.iload_n 1, 1) := by decide +kernel
theorem dX10_untell_5 : decode cX10_untell 5 = .ok (.invokevirtual 312, 3) := by decide +kernel
theorem dX10_untell_8 : decode cX10_untell 8 = .ok (.ireturn, 1) := by decide +kernel
theorem wd_1249 : (Cond.code ⟨"WebCourt", "untell", "(I)Z"⟩ prog_1_method_45_code (2 : Nat) (Option.some FieldType.boolean)) ∈ gtb := gtb_c5 180 (by decide +kernel) rfl
theorem wd_475 : (Cond.fieldLink "WebCourt" (76 : Nat) "WebCourt" "hearsay" "LWebCourt$Hearsay;") ∈ gtb := gtb_c2 126 (by decide +kernel) rfl
theorem gf_RX10_76 {p : Program} {l : Launch} {e : Env} {R : Room} {s : State} {m : MethodId} {args : Array Value} {below : List Frame} {meth : Method} {c : Code} {H : Heap} {locs : List Loc} {cells slots : Nat} {Q : State → Prop} {cc : ByteArray} {pc nL : Nat} {ls : Array Slot} {rest : List Value} {D : va_G} {cy : Nat → ClassId} {A : Nat → Prop} {ws : va_W} {b : Nat} {fs : List Value} {v : Value} (C : Cx p s m args c cc nL RX10 D cy A) (hO : Wo D A ws s.heap H locs) (q0 : Nat) (he : ws[q0]? = some (b, .inr (10, fs))) (hv : fs[7]? = some v) (hdg : decode cc pc = .ok (.getfield 76, 3)) (kk : W p l e R s m args below meth c H locs cells slots Q (F0 m (pc + 3) ls (v :: rest))) : W p l e R s m args below meth c H locs cells slots Q (F0 m pc ls (.ref b :: rest)) := gF (k := 7) C hO q0 he rfl inFX10 (by decide) wd_475 rfl hv hdg kk
theorem wd_1250 : (Cond.methodLink "WebCourt" (312 : Nat) ⟨"WebCourt$Hearsay", "takeBack", "(I)Z"⟩) ∈ gtb := gtb_c5 181 (by decide +kernel) rfl
theorem wd_1251 : (Cond.instanceMethod ⟨"WebCourt$Hearsay", "takeBack", "(I)Z"⟩) ∈ gtb := gtb_c5 182 (by decide +kernel) rfl
theorem wd_1252 : (Cond.selects "WebCourt$Hearsay" ⟨"WebCourt$Hearsay", "takeBack", "(I)Z"⟩ ⟨"WebCourt$Hearsay", "takeBack", "(I)Z"⟩) ∈ gtb := gtb_c5 183 (by decide +kernel) rfl
theorem wd_120 : (Cond.initialized "WebCourt$Hearsay") ∈ gtb := gtb_c1 11 (by decide +kernel) rfl
theorem hd_yX3_takeBack : yX3_takeBack.cls = RX3 ∧ yX3_takeBack.cls ≠ "java/lang/invoke/MethodHandle" ∧ yX3_takeBack.cls ≠ "java/lang/invoke/VarHandle" ∧ (parseMethodDescriptor yX3_takeBack.desc).map (fun d => d.parameters.length) = some 1 := by decide +kernel
set_option maxHeartbeats 4000000 in
set_option maxRecDepth 100000 in
theorem T_X10_untell (l : Launch) (D : va_G) (cy : Nat → ClassId) (a : Nat → Nat) (u : St) (hI_39_5 : fI u 39 5 = 0) (x1 : Int32)  : Mi l D cy (cW cy a) yX10_untell (.code yX10_untell cX10_untell 2 (some .boolean)) (rmo 1 21) [.ref (a 0), .int x1] u (fun (r : Int32) (u' : St) => r = 0 ∧ u' = u) := by
  refine Mi.of (own := RX10) rfl (by decide) (Nat.le_of_ble_eq_true rfl) ?_
  intro p e s m below meth c A Q ls C hret hO hl
  obtain ⟨hx, hb, hml, hown, ht, hK, hA⟩ := id C
  have hl : lv_has ls 2 [(0, .ref (a 0)), (1, .int x1)] := hl
  refine lv_aload_n hx hb dX10_untell_0 rfl (lv_at hl 0 rfl) ?_
  refine gf_RX10_76 (v := .ref (a 39)) C hO 0 cW_0 rfl dX10_untell_1 ?_
  refine lv_iload_n hx hb dX10_untell_4 rfl (lv_at hl 1 rfl) ?_
  refine cVi (w := cW cy a) (As := [.int x1]) (rest := []) C hO (T_X3_takeBack l D cy a _ (by exact hI_39_5) (x1)) (cwV 1 ht (gV wd_1250 wd_1251 wd_1252 wd_120 wd_1253) rfl rfl rfl hd_yX3_takeBack ⟨Nat.le_of_ble_eq_true rfl, Nat.le_of_ble_eq_true rfl⟩) 39 rfl cW_39 rfl rfl hl.1 (Nat.le_of_ble_eq_true rfl) dX10_untell_5 rfl ⟨Nat.zero_le _, Nat.zero_le _⟩ (fun r1 u2 H locs hp3 hO => ?_)
  obtain ⟨hr1, hu2⟩ := hp3
  subst hr1
  rw [hu2] at hO
  refine hret _ _ _ _ _ _ dX10_untell_8 rfl ?_ hO
  exact ⟨rfl, rfl⟩
theorem dX3_goOn_0 : decode cX3_goOn 0 = .ok (.iload_n 1, 1) := by decide +kernel
theorem dX3_goOn_1 : decode cX3_goOn 1 = .ok (.ifCond .lt 21, 3) := by decide +kernel
theorem dX3_goOn_4 : decode cX3_goOn 4 = .ok (.iload_n 1, 1) := by decide +kernel
theorem dX3_goOn_5 : decode cX3_goOn 5 = .ok (.sipush 1000, 3) := by decide +kernel
theorem dX3_goOn_8 : decode cX3_goOn 8 = .ok (.if_icmp .gt 14, 3) := by decide +kernel
theorem dX3_goOn_11 : decode cX3_goOn 11 = .ok (.aload_n 0, 1) := by decide +kernel
theorem dX3_goOn_12 : decode cX3_goOn 12 = .ok (.getfield 32, 3) := by decide +kernel
theorem dX3_goOn_15 : decode cX3_goOn 15 = .ok (.iload_n 1, 1) := by decide +kernel
theorem dX3_goOn_16 : decode cX3_goOn 16 = .ok (.iadd, 1) := by decide +kernel
theorem dX3_goOn_17 : decode cX3_goOn 17 = .ok (.ldc 35, 2) := by decide +kernel
theorem dX3_goOn_19 : decode cX3_goOn 19 = .ok (.if_icmp .le 5, 3) := by decide +kernel
theorem dX3_goOn_22 : decode cX3_goOn 22 = .ok (.iconst (-1), 1) := by decide +kernel
theorem dX3_goOn_23 : decode cX3_goOn 23 = .ok (.ireturn, 1) := by decide +kernel
theorem dX3_goOn_24 : decode cX3_goOn 24 = .ok (.aload_n 0, 1) := by decide +kernel
theorem dX3_goOn_25 : decode cX3_goOn 25 = .ok (.dup, 1) := by decide +kernel
theorem dX3_goOn_26 : decode cX3_goOn 26 = .ok (.getfield 32, 3) := by decide +kernel
theorem dX3_goOn_29 : decode cX3_goOn 29 = .ok (.iload_n 1, 1) := by decide +kernel
theorem dX3_goOn_30 : decode cX3_goOn 30 = .ok (.iadd, 1) := by decide +kernel
theorem dX3_goOn_31 : decode cX3_goOn 31 = .ok (.putfield 32, 3) := by decide +kernel
theorem dX3_goOn_34 : decode cX3_goOn 34 = .ok (.aload_n 0, 1) := by decide +kernel
theorem dX3_goOn_35 : decode cX3_goOn 35 = .ok (.getfield 32, 3) := by decide +kernel
theorem dX3_goOn_38 : decode cX3_goOn 38 = .ok (.ireturn, 1) := by decide +kernel
theorem wd_1261 : (Cond.code ⟨"WebCourt$Hearsay", "goOn", "(I)I"⟩ prog_5_method_5_code (2 : Nat) (Option.some FieldType.int)) ∈ gtb := gtb_c5 192 (by decide +kernel) rfl
theorem wd_449 : (Cond.fieldLink "WebCourt$Hearsay" (32 : Nat) "WebCourt$Hearsay" "time" "I") ∈ gtb := gtb_c2 100 (by decide +kernel) rfl
theorem gf_RX3_32 {p : Program} {l : Launch} {e : Env} {R : Room} {s : State} {m : MethodId} {args : Array Value} {below : List Frame} {meth : Method} {c : Code} {H : Heap} {locs : List Loc} {cells slots : Nat} {Q : State → Prop} {cc : ByteArray} {pc nL : Nat} {ls : Array Slot} {rest : List Value} {D : va_G} {cy : Nat → ClassId} {A : Nat → Prop} {ws : va_W} {b : Nat} {fs : List Value} {v : Value} (C : Cx p s m args c cc nL RX3 D cy A) (hO : Wo D A ws s.heap H locs) (q0 : Nat) (he : ws[q0]? = some (b, .inr (3, fs))) (hv : fs[6]? = some v) (hdg : decode cc pc = .ok (.getfield 32, 3)) (kk : W p l e R s m args below meth c H locs cells slots Q (F0 m (pc + 3) ls (v :: rest))) : W p l e R s m args below meth c H locs cells slots Q (F0 m pc ls (.ref b :: rest)) := gF (k := 6) C hO q0 he rfl inFX3 (by decide) wd_449 rfl hv hdg kk
theorem wd_1262 : (Cond.constant "WebCourt$Hearsay" (35 : Nat) (100000 : Int32)) ∈ gtb := gtb_c5 193 (by decide +kernel) rfl
theorem pf_RX3_32 {p : Program} {l : Launch} {e : Env} {R : Room} {s : State} {m : MethodId} {args : Array Value} {below : List Frame} {meth : Method} {c : Code} {H : Heap} {locs : List Loc} {cells slots : Nat} {Q : State → Prop} {cc : ByteArray} {pc nL : Nat} {ls : Array Slot} {rest : List Value} {D : va_G} {cy : Nat → ClassId} {A : Nat → Prop} {ws : va_W} {b : Nat} {fs : List Value} {v : Int32} {ws' : va_W} (C : Cx p s m args c cc nL RX3 D cy A) (hO : Wo D A ws s.heap H locs) (q0 : Nat) (he : ws[q0]? = some (b, .inr (3, fs))) (hlen : 6 < fs.length) (hw : ws.set q0 (b, .inr (3, fs.set 6 (.int v))) = ws') (hdg : decode cc pc = .ok (.putfield 32, 3)) (kk : ∀ (H : Heap) (locs : List Loc), Wo D A ws' s.heap H locs → W p l e R s m args below meth c H locs cells slots Q (F0 m (pc + 3) ls rest)) : W p l e R s m args below meth c H locs cells slots Q (F0 m pc ls (.int v :: .ref b :: rest)) := pF (k := 6) (ty := .int) C hO q0 he rfl inFX3 (by decide) wd_449 rfl tyX3 tyX3_ok nmX3 rfl (by decide +kernel) rfl rfl hlen hw hdg kk
set_option maxHeartbeats 4000000 in
set_option maxRecDepth 100000 in
theorem T_X3_goOn (l : Launch) (D : va_G) (cy : Nat → ClassId) (a : Nat → Nat) (u : St) (hI_39_6 : fI u 39 6 = 0) (x1 : Int32)  : Mi l D cy (cW cy a) yX3_goOn (.code yX3_goOn cX3_goOn 2 (some .int)) (rmo 0 0) [.ref (a 39), .int x1] u (fun (r : Int32) (u' : St) => r = q_later x1) := by
  refine Mi.of (own := RX3) rfl (by decide) (Nat.le_of_ble_eq_true rfl) ?_
  intro p e s m below meth c A Q ls C hret hO hl
  obtain ⟨hx, hb, hml, hown, ht, hK, hA⟩ := id C
  have hl : lv_has ls 2 [(0, .ref (a 39)), (1, .int x1)] := hl
  refine lv_iload_n hx hb dX3_goOn_0 rfl (lv_at hl 1 rfl) ?_
  refine bs_lt (tgt := 22) (X := (x1).toInt) hx hb dX3_goOn_1 (by decide) rfl (fun c1 => ?_) (fun c1 => ?_)
  · refine lv_iconst (v := (-1)) hx hb dX3_goOn_22 (by decide) ?_
    refine hret _ _ _ _ _ _ dX3_goOn_23 rfl ?_ hO
    exact (by unfold q_later; have z0 : (0 : Int32).toInt = 0 := rfl; have z1 : (-1 : Int32).toInt = -1 := rfl; split <;> first | rfl | (exact i32_eq.mpr (by omega)) | (exfalso; omega))
  · refine lv_iload_n hx hb dX3_goOn_4 rfl (lv_at hl 1 rfl) ?_
    refine lv_sipush (v := 1000) hx hb dX3_goOn_5 (by decide) ?_
    refine cs_gt (tgt := 22) (X := (x1).toInt) (Y := 1000) hx hb dX3_goOn_8 (by decide) rfl rfl (fun c2 => ?_) (fun c2 => ?_)
    · refine lv_iconst (v := (-1)) hx hb dX3_goOn_22 (by decide) ?_
      refine hret _ _ _ _ _ _ dX3_goOn_23 rfl ?_ hO
      exact (by unfold q_later; have z0 : (0 : Int32).toInt = 0 := rfl; have z1 : (-1 : Int32).toInt = -1 := rfl; split <;> first | rfl | (exact i32_eq.mpr (by omega)) | (exfalso; omega))
    · refine lv_aload_n hx hb dX3_goOn_11 rfl (lv_at hl 0 rfl) ?_
      refine gf_RX3_32 (v := .int 0) C hO 39 cW_39 (congrArg (fun z : Int32 => some (Value.int z)) hI_39_6) dX3_goOn_12 ?_
      refine lv_iload_n hx hb dX3_goOn_15 rfl (lv_at hl 1 rfl) ?_
      have e3 : ((0 + x1)).toInt = 0 + (x1).toInt := i_add rfl rfl (by omega)
      refine lv_iadd hx hb dX3_goOn_16 ?_
      refine lv_ldc (v := 100000) hx hb hown (ht _ wd_1262) dX3_goOn_17 ?_
      refine ct_le (tgt := 24) (X := (0 + (x1).toInt)) (Y := 100000) hx hb dX3_goOn_19 (by decide) e3 rfl (by omega) ?_
      refine lv_aload_n hx hb dX3_goOn_24 rfl (lv_at hl 0 rfl) ?_
      refine lv_dup hx hb dX3_goOn_25 rfl ?_
      refine gf_RX3_32 (v := .int 0) C hO 39 cW_39 (congrArg (fun z : Int32 => some (Value.int z)) hI_39_6) dX3_goOn_26 ?_
      refine lv_iload_n hx hb dX3_goOn_29 rfl (lv_at hl 1 rfl) ?_
      have e4 : ((0 + x1)).toInt = 0 + (x1).toInt := i_add rfl rfl (by omega)
      refine lv_iadd hx hb dX3_goOn_30 ?_
      refine pf_RX3_32 C hO 39 cW_39 (Nat.le_of_ble_eq_true rfl) cW_s39_6 dX3_goOn_31 (fun H locs hO => ?_)
      refine lv_aload_n hx hb dX3_goOn_34 rfl (lv_at hl 0 rfl) ?_
      refine gf_RX3_32 (v := .int (0 + x1)) C hO 39 cW_39 rfl dX3_goOn_35 ?_
      refine hret _ _ _ _ _ _ dX3_goOn_38 rfl ?_ hO
      exact (by unfold q_later; have z0 : (0 : Int32).toInt = 0 := rfl; have z1 : (-1 : Int32).toInt = -1 := rfl; split <;> first | rfl | (exact i32_eq.mpr (by omega)) | (exfalso; omega))
theorem dX10_later_0 : decode cX10_later 0 = .ok (.aload_n 0, 1) := by decide +kernel
theorem dX10_later_1 : decode cX10_later 1 = .ok (.getfield 76, 3) := by decide +kernel
theorem dX10_later_4 : decode cX10_later 4 = .ok (.iload_n 1, 1) := by decide +kernel
theorem dX10_later_5 : decode cX10_later 5 = .ok (.invokevirtual 314, 3) := by decide +kernel
theorem dX10_later_8 : decode cX10_later 8 = .ok (.ireturn, 1) := by decide +kernel
theorem wd_1257 : (Cond.code ⟨"WebCourt", "later", "(I)I"⟩ prog_1_method_46_code (2 : Nat) (Option.some FieldType.int)) ∈ gtb := gtb_c5 188 (by decide +kernel) rfl
theorem wd_1258 : (Cond.methodLink "WebCourt" (314 : Nat) ⟨"WebCourt$Hearsay", "goOn", "(I)I"⟩) ∈ gtb := gtb_c5 189 (by decide +kernel) rfl
theorem wd_1259 : (Cond.instanceMethod ⟨"WebCourt$Hearsay", "goOn", "(I)I"⟩) ∈ gtb := gtb_c5 190 (by decide +kernel) rfl
theorem wd_1260 : (Cond.selects "WebCourt$Hearsay" ⟨"WebCourt$Hearsay", "goOn", "(I)I"⟩ ⟨"WebCourt$Hearsay", "goOn", "(I)I"⟩) ∈ gtb := gtb_c5 191 (by decide +kernel) rfl
theorem hd_yX3_goOn : yX3_goOn.cls = RX3 ∧ yX3_goOn.cls ≠ "java/lang/invoke/MethodHandle" ∧ yX3_goOn.cls ≠ "java/lang/invoke/VarHandle" ∧ (parseMethodDescriptor yX3_goOn.desc).map (fun d => d.parameters.length) = some 1 := by decide +kernel
set_option maxHeartbeats 4000000 in
set_option maxRecDepth 100000 in
theorem T_X10_later (l : Launch) (D : va_G) (cy : Nat → ClassId) (a : Nat → Nat) (u : St) (hI_39_6 : fI u 39 6 = 0) (x1 : Int32)  : Mi l D cy (cW cy a) yX10_later (.code yX10_later cX10_later 2 (some .int)) (rmo 1 21) [.ref (a 0), .int x1] u (fun (r : Int32) (u' : St) => r = q_later x1) := by
  refine Mi.of (own := RX10) rfl (by decide) (Nat.le_of_ble_eq_true rfl) ?_
  intro p e s m below meth c A Q ls C hret hO hl
  obtain ⟨hx, hb, hml, hown, ht, hK, hA⟩ := id C
  have hl : lv_has ls 2 [(0, .ref (a 0)), (1, .int x1)] := hl
  refine lv_aload_n hx hb dX10_later_0 rfl (lv_at hl 0 rfl) ?_
  refine gf_RX10_76 (v := .ref (a 39)) C hO 0 cW_0 rfl dX10_later_1 ?_
  refine lv_iload_n hx hb dX10_later_4 rfl (lv_at hl 1 rfl) ?_
  refine cVi (w := cW cy a) (As := [.int x1]) (rest := []) C hO (T_X3_goOn l D cy a _ (by exact hI_39_6) (x1)) (cwV 1 ht (gV wd_1258 wd_1259 wd_1260 wd_120 wd_1261) rfl rfl rfl hd_yX3_goOn ⟨Nat.le_of_ble_eq_true rfl, Nat.le_of_ble_eq_true rfl⟩) 39 rfl cW_39 rfl rfl hl.1 (Nat.le_of_ble_eq_true rfl) dX10_later_5 rfl ⟨Nat.zero_le _, Nat.zero_le _⟩ (fun r1 u2 H locs hp3 hO => ?_)
  have hr1 := hp3
  refine hret _ _ _ _ _ _ dX10_later_8 rfl ?_ hO
  exact hr1
theorem dX3_fitting_0 : decode cX3_fitting 0 = .ok (.iconst 0, 1) := by decide +kernel
theorem dX3_fitting_1 : decode cX3_fitting 1 = .ok (.istore_n 3, 1) := by decide +kernel
theorem dX3_fitting_2 : decode cX3_fitting 2 = .ok (.iconst 0, 1) := by decide +kernel
theorem dX3_fitting_3 : decode cX3_fitting 3 = .ok (.istore 4, 2) := by decide +kernel
theorem dX3_fitting_5 : decode cX3_fitting 5 = .ok (.iload 4, 2) := by decide +kernel
theorem dX3_fitting_7 : decode cX3_fitting 7 = .ok (.bipush 30, 2) := by decide +kernel
theorem dX3_fitting_9 : decode cX3_fitting 9 = .ok (.if_icmp .gt 34, 3) := by decide +kernel
theorem dX3_fitting_12 : decode cX3_fitting 12 = .ok (.aload_n 1, 1) := by decide +kernel
theorem dX3_fitting_13 : decode cX3_fitting 13 = .ok (.getfield 36, 3) := by decide +kernel
theorem dX3_fitting_16 : decode cX3_fitting 16 = .ok (.ifCond .le 27, 3) := by decide +kernel
theorem dX3_fitting_19 : decode cX3_fitting 19 = .ok (.aload_n 0, 1) := by decide +kernel
theorem dX3_fitting_20 : decode cX3_fitting 20 = .ok (.aload_n 1, 1) := by decide +kernel
theorem dX3_fitting_21 : decode cX3_fitting 21 = .ok (.iload 4, 2) := by decide +kernel
theorem dX3_fitting_23 : decode cX3_fitting 23 = .ok (.iload_n 2, 1) := by decide +kernel
theorem dX3_fitting_24 : decode cX3_fitting 24 = .ok (.invokevirtual 41, 3) := by decide +kernel
theorem dX3_fitting_27 : decode cX3_fitting 27 = .ok (.ifCond .eq 10, 3) := by decide +kernel
theorem dX3_fitting_30 : decode cX3_fitting 30 = .ok (.iload_n 3, 1) := by decide +kernel
theorem dX3_fitting_31 : decode cX3_fitting 31 = .ok (.iconst 1, 1) := by decide +kernel
theorem dX3_fitting_32 : decode cX3_fitting 32 = .ok (.iload 4, 2) := by decide +kernel
theorem dX3_fitting_34 : decode cX3_fitting 34 = .ok (.ishl, 1) := by decide +kernel
theorem dX3_fitting_35 : decode cX3_fitting 35 = .ok (.ior, 1) := by decide +kernel
theorem dX3_fitting_36 : decode cX3_fitting 36 = .ok (.istore_n 3, 1) := by decide +kernel
theorem dX3_fitting_37 : decode cX3_fitting 37 = .ok (.iinc 4 1, 3) := by decide +kernel
theorem dX3_fitting_40 : decode cX3_fitting 40 = .ok (.goto (-35), 3) := by decide +kernel
theorem dX3_fitting_43 : decode cX3_fitting 43 = .ok (.iload_n 3, 1) := by decide +kernel
theorem dX3_fitting_44 : decode cX3_fitting 44 = .ok (.ireturn, 1) := by decide +kernel
theorem wd_1270 : (Cond.code ⟨"WebCourt$Hearsay", "fitting", "(LWebCourt$Web;I)I"⟩ prog_5_method_7_code (5 : Nat) (Option.some FieldType.int)) ∈ gtb := gtb_c5 201 (by decide +kernel) rfl
theorem wd_264 : (Cond.fieldLink "WebCourt$Hearsay" (36 : Nat) "WebCourt$Web" "pleas" "I") ∈ gtb := gtb_c1 155 (by decide +kernel) rfl
theorem gf_RX3_36 {p : Program} {l : Launch} {e : Env} {R : Room} {s : State} {m : MethodId} {args : Array Value} {below : List Frame} {meth : Method} {c : Code} {H : Heap} {locs : List Loc} {cells slots : Nat} {Q : State → Prop} {cc : ByteArray} {pc nL : Nat} {ls : Array Slot} {rest : List Value} {D : va_G} {cy : Nat → ClassId} {A : Nat → Prop} {ws : va_W} {b : Nat} {fs : List Value} {v : Value} (C : Cx p s m args c cc nL RX3 D cy A) (hO : Wo D A ws s.heap H locs) (q0 : Nat) (he : ws[q0]? = some (b, .inr (9, fs))) (hv : fs[11]? = some v) (hdg : decode cc pc = .ok (.getfield 36, 3)) (kk : W p l e R s m args below meth c H locs cells slots Q (F0 m (pc + 3) ls (v :: rest))) : W p l e R s m args below meth c H locs cells slots Q (F0 m pc ls (.ref b :: rest)) := gF (k := 11) C hO q0 he rfl inFX9 (by decide) wd_264 rfl hv hdg kk
set_option maxHeartbeats 4000000 in
set_option maxRecDepth 100000 in
theorem T_X3_fitting (l : Launch) (D : va_G) (cy : Nat → ClassId) (a : Nat → Nat) (u : St) (hI_3_11 : fI u 3 11 = 0) (x2 : Int32)  : Mi l D cy (cW cy a) yX3_fitting (.code yX3_fitting cX3_fitting 5 (some .int)) (rmo 0 0) [.ref (a 39), .ref (a 3), .int x2] u (fun (r : Int32) (u' : St) => r = 0 ∧ u' = u) := by
  refine Mi.of (own := RX3) rfl (by decide) (Nat.le_of_ble_eq_true rfl) ?_
  intro p e s m below meth c A Q ls C hret hO hl
  obtain ⟨hx, hb, hml, hown, ht, hK, hA⟩ := id C
  have hl : lv_has ls 5 [(0, .ref (a 39)), (1, .ref (a 3)), (2, .int x2)] := hl
  refine lv_iconst (v := 0) hx hb dX3_fitting_0 (by decide) ?_
  refine lv_istore_n (lv' := [(3, .int 0), (0, .ref (a 39)), (1, .ref (a 3)), (2, .int x2)]) hx hb dX3_fitting_1 rfl hl (by decide) rfl (fun ls hl => ?_)
  refine lv_iconst (v := 0) hx hb dX3_fitting_2 (by decide) ?_
  refine lv_istore (lv' := [(4, .int 0), (3, .int 0), (0, .ref (a 39)), (1, .ref (a 3)), (2, .int x2)]) hx hb dX3_fitting_3 hl (by decide) rfl (fun ls hl => ?_)
  refine lv_iload hx hb dX3_fitting_5 (lv_at hl 0 rfl) ?_
  refine lv_bipush (v := 30) hx hb dX3_fitting_7 (by decide) ?_
  refine cn_gt (X := 0) (Y := 30) hx hb dX3_fitting_9 rfl rfl (by omega) ?_ (tgt := 43) (by decide)
  refine lv_aload_n hx hb dX3_fitting_12 rfl (lv_at hl 3 rfl) ?_
  refine gf_RX3_36 (v := .int 0) C hO 3 cW_3 (congrArg (fun z : Int32 => some (Value.int z)) hI_3_11) dX3_fitting_13 ?_
  refine bt_le (tgt := 43) (X := 0) hx hb dX3_fitting_16 (by decide) rfl (by omega) ?_
  refine lv_iload_n hx hb dX3_fitting_43 rfl (lv_at hl 1 rfl) ?_
  refine hret _ _ _ _ _ _ dX3_fitting_44 rfl ?_ hO
  exact ⟨rfl, rfl⟩
theorem dX10_fits_0 : decode cX10_fits 0 = .ok (.aload_n 0, 1) := by decide +kernel
theorem dX10_fits_1 : decode cX10_fits 1 = .ok (.getfield 76, 3) := by decide +kernel
theorem dX10_fits_4 : decode cX10_fits 4 = .ok (.aload_n 0, 1) := by decide +kernel
theorem dX10_fits_5 : decode cX10_fits 5 = .ok (.getfield 37, 3) := by decide +kernel
theorem dX10_fits_8 : decode cX10_fits 8 = .ok (.getfield 101, 3) := by decide +kernel
theorem dX10_fits_11 : decode cX10_fits 11 = .ok (.iload_n 1, 1) := by decide +kernel
theorem dX10_fits_12 : decode cX10_fits 12 = .ok (.invokevirtual 317, 3) := by decide +kernel
theorem dX10_fits_15 : decode cX10_fits 15 = .ok (.invokestatic 180, 3) := by decide +kernel
theorem dX10_fits_18 : decode cX10_fits 18 = .ok (.ireturn, 1) := by decide +kernel
theorem wd_1266 : (Cond.code ⟨"WebCourt", "fits", "(I)I"⟩ prog_1_method_47_code (2 : Nat) (Option.some FieldType.int)) ∈ gtb := gtb_c5 197 (by decide +kernel) rfl
theorem wd_1267 : (Cond.methodLink "WebCourt" (317 : Nat) ⟨"WebCourt$Hearsay", "fitting", "(LWebCourt$Web;I)I"⟩) ∈ gtb := gtb_c5 198 (by decide +kernel) rfl
theorem wd_1268 : (Cond.instanceMethod ⟨"WebCourt$Hearsay", "fitting", "(LWebCourt$Web;I)I"⟩) ∈ gtb := gtb_c5 199 (by decide +kernel) rfl
theorem wd_1269 : (Cond.selects "WebCourt$Hearsay" ⟨"WebCourt$Hearsay", "fitting", "(LWebCourt$Web;I)I"⟩ ⟨"WebCourt$Hearsay", "fitting", "(LWebCourt$Web;I)I"⟩) ∈ gtb := gtb_c5 200 (by decide +kernel) rfl
theorem hd_yX3_fitting : yX3_fitting.cls = RX3 ∧ yX3_fitting.cls ≠ "java/lang/invoke/MethodHandle" ∧ yX3_fitting.cls ≠ "java/lang/invoke/VarHandle" ∧ (parseMethodDescriptor yX3_fitting.desc).map (fun d => d.parameters.length) = some 2 := by decide +kernel
theorem wd_948 : (Cond.methodLink "WebCourt" (180 : Nat) ⟨"java/lang/Integer", "bitCount", "(I)I"⟩) ∈ gtb := gtb_c4 119 (by decide +kernel) rfl
theorem wd_870 : (Cond.static ⟨"java/lang/Integer", "bitCount", "(I)I"⟩) ∈ gtb := gtb_c4 41 (by decide +kernel) rfl
theorem wd_128 : (Cond.initialized "java/lang/Integer") ∈ gtb := gtb_c1 19 (by decide +kernel) rfl
theorem hd_yJ6_bitCount_0f7a4 : yJ6_bitCount_0f7a4.cls ≠ "java/lang/invoke/MethodHandle" ∧ yJ6_bitCount_0f7a4.cls ≠ "java/lang/invoke/VarHandle" ∧ (parseMethodDescriptor yJ6_bitCount_0f7a4.desc).map (fun d => d.parameters.length) = some 1 := by decide +kernel
set_option maxHeartbeats 4000000 in
set_option maxRecDepth 100000 in
theorem T_X10_fits (l : Launch) (D : va_G) (cy : Nat → ClassId) (a : Nat → Nat) (u : St) (hI_3_11 : fI u 3 11 = 0) (hR_0 : fR u 0 = a 3) (x1 : Int32)  : Mi l D cy (cW cy a) yX10_fits (.code yX10_fits cX10_fits 2 (some .int)) (rmo 1 24) [.ref (a 0), .int x1] u (fun (r : Int32) (u' : St) => r = 0 ∧ u' = u) := by
  refine Mi.of (own := RX10) rfl (by decide) (Nat.le_of_ble_eq_true rfl) ?_
  intro p e s m below meth c A Q ls C hret hO hl
  obtain ⟨hx, hb, hml, hown, ht, hK, hA⟩ := id C
  have hl : lv_has ls 2 [(0, .ref (a 0)), (1, .int x1)] := hl
  refine lv_aload_n hx hb dX10_fits_0 rfl (lv_at hl 0 rfl) ?_
  refine gf_RX10_76 (v := .ref (a 39)) C hO 0 cW_0 rfl dX10_fits_1 ?_
  refine lv_aload_n hx hb dX10_fits_4 rfl (lv_at hl 0 rfl) ?_
  refine gf_RX10_37 (v := .ref (a 28)) C hO 0 cW_0 rfl dX10_fits_5 ?_
  refine gf_RX10_101 (v := .ref (a 3)) C hO 28 cW_28 (congrArg (fun z : Nat => some (Value.ref z)) hR_0) dX10_fits_8 ?_
  refine lv_iload_n hx hb dX10_fits_11 rfl (lv_at hl 1 rfl) ?_
  refine cVi (w := cW cy a) (As := [.ref (a 3), .int x1]) (rest := []) C hO (T_X3_fitting l D cy a _ (by exact hI_3_11) (x1)) (cwV 2 ht (gV wd_1267 wd_1268 wd_1269 wd_120 wd_1270) rfl rfl rfl hd_yX3_fitting ⟨Nat.le_of_ble_eq_true rfl, Nat.le_of_ble_eq_true rfl⟩) 39 rfl cW_39 rfl rfl hl.1 (Nat.le_of_ble_eq_true rfl) dX10_fits_12 rfl ⟨Nat.zero_le _, Nat.zero_le _⟩ (fun r1 u2 H locs hp3 hO => ?_)
  obtain ⟨hr1, hu2⟩ := hp3
  subst hr1
  rw [hu2] at hO
  refine cSi (w := cW cy a) (As := [.int 0]) (rest := []) C hO (T_J6_bitCount_0f7a4_c0 l D cy a _ ) (va_cwS 1 ht (gSS wd_948 wd_870 wd_128 wd_871) rfl rfl rfl hd_yJ6_bitCount_0f7a4 ⟨Nat.le_of_ble_eq_true rfl, Nat.le_of_ble_eq_true rfl⟩)  rfl hl.1 (Nat.le_of_ble_eq_true rfl) dX10_fits_15 rfl ⟨Nat.zero_le _, Nat.zero_le _⟩ (fun r4 u5 H locs hp6 hO => ?_)
  obtain ⟨hr4, hu5⟩ := hp6
  subst hr4
  rw [hu5] at hO
  refine hret _ _ _ _ _ _ dX10_fits_18 rfl ?_ hO
  exact ⟨rfl, rfl⟩
theorem dX10_sure_0 : decode cX10_sure 0 = .ok (.aload_n 0, 1) := by decide +kernel
theorem dX10_sure_1 : decode cX10_sure 1 = .ok (.getfield 76, 3) := by decide +kernel
theorem dX10_sure_4 : decode cX10_sure 4 = .ok (.aload_n 0, 1) := by decide +kernel
theorem dX10_sure_5 : decode cX10_sure 5 = .ok (.getfield 37, 3) := by decide +kernel
theorem dX10_sure_8 : decode cX10_sure 8 = .ok (.getfield 101, 3) := by decide +kernel
theorem dX10_sure_11 : decode cX10_sure 11 = .ok (.iload_n 2, 1) := by decide +kernel
theorem dX10_sure_12 : decode cX10_sure 12 = .ok (.invokevirtual 317, 3) := by decide +kernel
theorem dX10_sure_15 : decode cX10_sure 15 = .ok (.istore_n 3, 1) := by decide +kernel
theorem dX10_sure_16 : decode cX10_sure 16 = .ok (.iload_n 3, 1) := by decide +kernel
theorem dX10_sure_17 : decode cX10_sure 17 = .ok (.ifCond .eq 12, 3) := by decide +kernel
theorem dX10_sure_20 : decode cX10_sure 20 = .ok (.iload_n 1, 1) := by decide +kernel
theorem dX10_sure_21 : decode cX10_sure 21 = .ok (.ifCond .lt 8, 3) := by decide +kernel
theorem dX10_sure_24 : decode cX10_sure 24 = .ok (.iload_n 1, 1) := by decide +kernel
theorem dX10_sure_25 : decode cX10_sure 25 = .ok (.iconst 1, 1) := by decide +kernel
theorem dX10_sure_26 : decode cX10_sure 26 = .ok (.if_icmp .le 5, 3) := by decide +kernel
theorem dX10_sure_29 : decode cX10_sure 29 = .ok (.iconst (-1), 1) := by decide +kernel
theorem dX10_sure_30 : decode cX10_sure 30 = .ok (.ireturn, 1) := by decide +kernel
theorem dX10_sure_31 : decode cX10_sure 31 = .ok (.iload_n 1, 1) := by decide +kernel
theorem dX10_sure_32 : decode cX10_sure 32 = .ok (.ifCond .ne 14, 3) := by decide +kernel
theorem dX10_sure_35 : decode cX10_sure 35 = .ok (.aload_n 0, 1) := by decide +kernel
theorem dX10_sure_36 : decode cX10_sure 36 = .ok (.getfield 76, 3) := by decide +kernel
theorem dX10_sure_39 : decode cX10_sure 39 = .ok (.iload_n 3, 1) := by decide +kernel
theorem dX10_sure_40 : decode cX10_sure 40 = .ok (.invokevirtual 321, 3) := by decide +kernel
theorem dX10_sure_43 : decode cX10_sure 43 = .ok (.goto 11, 3) := by decide +kernel
theorem dX10_sure_46 : decode cX10_sure 46 = .ok (.aload_n 0, 1) := by decide +kernel
theorem dX10_sure_47 : decode cX10_sure 47 = .ok (.getfield 76, 3) := by decide +kernel
theorem dX10_sure_50 : decode cX10_sure 50 = .ok (.iload_n 3, 1) := by decide +kernel
theorem dX10_sure_51 : decode cX10_sure 51 = .ok (.invokevirtual 324, 3) := by decide +kernel
theorem dX10_sure_54 : decode cX10_sure 54 = .ok (.ireturn, 1) := by decide +kernel
theorem wd_1290 : (Cond.code ⟨"WebCourt", "sure", "(II)I"⟩ prog_1_method_48_code (4 : Nat) (Option.some FieldType.int)) ∈ gtb := gtb_c5 221 (by decide +kernel) rfl
set_option maxHeartbeats 4000000 in
set_option maxRecDepth 100000 in
theorem T_X10_sure (l : Launch) (D : va_G) (cy : Nat → ClassId) (a : Nat → Nat) (u : St) (hI_3_11 : fI u 3 11 = 0) (hR_0 : fR u 0 = a 3) (x1 : Int32) (x2 : Int32)  : Mi l D cy (cW cy a) yX10_sure (.code yX10_sure cX10_sure 4 (some .int)) (rmo 1 24) [.ref (a 0), .int x1, .int x2] u (fun (r : Int32) (u' : St) => r = (-1) ∧ u' = u) := by
  refine Mi.of (own := RX10) rfl (by decide) (Nat.le_of_ble_eq_true rfl) ?_
  intro p e s m below meth c A Q ls C hret hO hl
  obtain ⟨hx, hb, hml, hown, ht, hK, hA⟩ := id C
  have hl : lv_has ls 4 [(0, .ref (a 0)), (1, .int x1), (2, .int x2)] := hl
  refine lv_aload_n hx hb dX10_sure_0 rfl (lv_at hl 0 rfl) ?_
  refine gf_RX10_76 (v := .ref (a 39)) C hO 0 cW_0 rfl dX10_sure_1 ?_
  refine lv_aload_n hx hb dX10_sure_4 rfl (lv_at hl 0 rfl) ?_
  refine gf_RX10_37 (v := .ref (a 28)) C hO 0 cW_0 rfl dX10_sure_5 ?_
  refine gf_RX10_101 (v := .ref (a 3)) C hO 28 cW_28 (congrArg (fun z : Nat => some (Value.ref z)) hR_0) dX10_sure_8 ?_
  refine lv_iload_n hx hb dX10_sure_11 rfl (lv_at hl 2 rfl) ?_
  refine cVi (w := cW cy a) (As := [.ref (a 3), .int x2]) (rest := []) C hO (T_X3_fitting l D cy a _ (by exact hI_3_11) (x2)) (cwV 2 ht (gV wd_1267 wd_1268 wd_1269 wd_120 wd_1270) rfl rfl rfl hd_yX3_fitting ⟨Nat.le_of_ble_eq_true rfl, Nat.le_of_ble_eq_true rfl⟩) 39 rfl cW_39 rfl rfl hl.1 (Nat.le_of_ble_eq_true rfl) dX10_sure_12 rfl ⟨Nat.zero_le _, Nat.zero_le _⟩ (fun r1 u2 H locs hp3 hO => ?_)
  obtain ⟨hr1, hu2⟩ := hp3
  subst hr1
  rw [hu2] at hO
  refine lv_istore_n (lv' := [(3, .int 0), (0, .ref (a 0)), (1, .int x1), (2, .int x2)]) hx hb dX10_sure_15 rfl hl (by decide) rfl (fun ls hl => ?_)
  refine lv_iload_n hx hb dX10_sure_16 rfl (lv_at hl 0 rfl) ?_
  refine bt_eq (tgt := 29) (X := 0) hx hb dX10_sure_17 (by decide) rfl (by omega) ?_
  refine lv_iconst (v := (-1)) hx hb dX10_sure_29 (by decide) ?_
  refine hret _ _ _ _ _ _ dX10_sure_30 rfl ?_ hO
  exact ⟨rfl, rfl⟩
theorem dX10_ask_0 : decode cX10_ask 0 = .ok (.aload_n 0, 1) := by decide +kernel
theorem dX10_ask_1 : decode cX10_ask 1 = .ok (.getfield 76, 3) := by decide +kernel
theorem dX10_ask_4 : decode cX10_ask 4 = .ok (.aload_n 0, 1) := by decide +kernel
theorem dX10_ask_5 : decode cX10_ask 5 = .ok (.getfield 37, 3) := by decide +kernel
theorem dX10_ask_8 : decode cX10_ask 8 = .ok (.getfield 101, 3) := by decide +kernel
theorem dX10_ask_11 : decode cX10_ask 11 = .ok (.iload_n 2, 1) := by decide +kernel
theorem dX10_ask_12 : decode cX10_ask 12 = .ok (.invokevirtual 317, 3) := by decide +kernel
theorem dX10_ask_15 : decode cX10_ask 15 = .ok (.istore_n 3, 1) := by decide +kernel
theorem dX10_ask_16 : decode cX10_ask 16 = .ok (.iload_n 3, 1) := by decide +kernel
theorem dX10_ask_17 : decode cX10_ask 17 = .ok (.ifCond .eq 25, 3) := by decide +kernel
theorem dX10_ask_20 : decode cX10_ask 20 = .ok (.aload_n 0, 1) := by decide +kernel
theorem dX10_ask_21 : decode cX10_ask 21 = .ok (.getfield 37, 3) := by decide +kernel
theorem dX10_ask_24 : decode cX10_ask 24 = .ok (.getfield 101, 3) := by decide +kernel
theorem dX10_ask_27 : decode cX10_ask 27 = .ok (.getfield 117, 3) := by decide +kernel
theorem dX10_ask_30 : decode cX10_ask 30 = .ok (.ifCond .eq 12, 3) := by decide +kernel
theorem dX10_ask_33 : decode cX10_ask 33 = .ok (.iload_n 1, 1) := by decide +kernel
theorem dX10_ask_34 : decode cX10_ask 34 = .ok (.ifCond .lt 8, 3) := by decide +kernel
theorem dX10_ask_37 : decode cX10_ask 37 = .ok (.iload_n 1, 1) := by decide +kernel
theorem dX10_ask_38 : decode cX10_ask 38 = .ok (.iconst 1, 1) := by decide +kernel
theorem dX10_ask_39 : decode cX10_ask 39 = .ok (.if_icmp .le 5, 3) := by decide +kernel
theorem dX10_ask_42 : decode cX10_ask 42 = .ok (.iconst (-1), 1) := by decide +kernel
theorem dX10_ask_43 : decode cX10_ask 43 = .ok (.ireturn, 1) := by decide +kernel
theorem dX10_ask_44 : decode cX10_ask 44 = .ok (.aload_n 0, 1) := by decide +kernel
theorem dX10_ask_45 : decode cX10_ask 45 = .ok (.getfield 76, 3) := by decide +kernel
theorem dX10_ask_48 : decode cX10_ask 48 = .ok (.aload_n 0, 1) := by decide +kernel
theorem dX10_ask_49 : decode cX10_ask 49 = .ok (.getfield 37, 3) := by decide +kernel
theorem dX10_ask_52 : decode cX10_ask 52 = .ok (.getfield 101, 3) := by decide +kernel
theorem dX10_ask_55 : decode cX10_ask 55 = .ok (.iload_n 3, 1) := by decide +kernel
theorem dX10_ask_56 : decode cX10_ask 56 = .ok (.invokevirtual 327, 3) := by decide +kernel
theorem dX10_ask_59 : decode cX10_ask 59 = .ok (.istore 4, 2) := by decide +kernel
theorem dX10_ask_61 : decode cX10_ask 61 = .ok (.iload_n 1, 1) := by decide +kernel
theorem dX10_ask_62 : decode cX10_ask 62 = .ok (.ifCond .ne 8, 3) := by decide +kernel
theorem dX10_ask_65 : decode cX10_ask 65 = .ok (.iload 4, 2) := by decide +kernel
theorem dX10_ask_67 : decode cX10_ask 67 = .ok (.goto 20, 3) := by decide +kernel
theorem dX10_ask_70 : decode cX10_ask 70 = .ok (.aload_n 0, 1) := by decide +kernel
theorem dX10_ask_71 : decode cX10_ask 71 = .ok (.getfield 76, 3) := by decide +kernel
theorem dX10_ask_74 : decode cX10_ask 74 = .ok (.aload_n 0, 1) := by decide +kernel
theorem dX10_ask_75 : decode cX10_ask 75 = .ok (.getfield 37, 3) := by decide +kernel
theorem dX10_ask_78 : decode cX10_ask 78 = .ok (.getfield 101, 3) := by decide +kernel
theorem dX10_ask_81 : decode cX10_ask 81 = .ok (.iload 4, 2) := by decide +kernel
theorem dX10_ask_83 : decode cX10_ask 83 = .ok (.iload_n 3, 1) := by decide +kernel
theorem dX10_ask_84 : decode cX10_ask 84 = .ok (.invokevirtual 330, 3) := by decide +kernel
theorem dX10_ask_87 : decode cX10_ask 87 = .ok (.ireturn, 1) := by decide +kernel
theorem wd_1302 : (Cond.code ⟨"WebCourt", "ask", "(II)I"⟩ prog_1_method_49_code (5 : Nat) (Option.some FieldType.int)) ∈ gtb := gtb_c5 233 (by decide +kernel) rfl
set_option maxHeartbeats 4000000 in
set_option maxRecDepth 100000 in
theorem T_X10_ask (l : Launch) (D : va_G) (cy : Nat → ClassId) (a : Nat → Nat) (u : St) (hI_3_11 : fI u 3 11 = 0) (hR_0 : fR u 0 = a 3) (x1 : Int32) (x2 : Int32)  : Mi l D cy (cW cy a) yX10_ask (.code yX10_ask cX10_ask 5 (some .int)) (rmo 1 24) [.ref (a 0), .int x1, .int x2] u (fun (r : Int32) (u' : St) => r = (-1) ∧ u' = u) := by
  refine Mi.of (own := RX10) rfl (by decide) (Nat.le_of_ble_eq_true rfl) ?_
  intro p e s m below meth c A Q ls C hret hO hl
  obtain ⟨hx, hb, hml, hown, ht, hK, hA⟩ := id C
  have hl : lv_has ls 5 [(0, .ref (a 0)), (1, .int x1), (2, .int x2)] := hl
  refine lv_aload_n hx hb dX10_ask_0 rfl (lv_at hl 0 rfl) ?_
  refine gf_RX10_76 (v := .ref (a 39)) C hO 0 cW_0 rfl dX10_ask_1 ?_
  refine lv_aload_n hx hb dX10_ask_4 rfl (lv_at hl 0 rfl) ?_
  refine gf_RX10_37 (v := .ref (a 28)) C hO 0 cW_0 rfl dX10_ask_5 ?_
  refine gf_RX10_101 (v := .ref (a 3)) C hO 28 cW_28 (congrArg (fun z : Nat => some (Value.ref z)) hR_0) dX10_ask_8 ?_
  refine lv_iload_n hx hb dX10_ask_11 rfl (lv_at hl 2 rfl) ?_
  refine cVi (w := cW cy a) (As := [.ref (a 3), .int x2]) (rest := []) C hO (T_X3_fitting l D cy a _ (by exact hI_3_11) (x2)) (cwV 2 ht (gV wd_1267 wd_1268 wd_1269 wd_120 wd_1270) rfl rfl rfl hd_yX3_fitting ⟨Nat.le_of_ble_eq_true rfl, Nat.le_of_ble_eq_true rfl⟩) 39 rfl cW_39 rfl rfl hl.1 (Nat.le_of_ble_eq_true rfl) dX10_ask_12 rfl ⟨Nat.zero_le _, Nat.zero_le _⟩ (fun r1 u2 H locs hp3 hO => ?_)
  obtain ⟨hr1, hu2⟩ := hp3
  subst hr1
  rw [hu2] at hO
  refine lv_istore_n (lv' := [(3, .int 0), (0, .ref (a 0)), (1, .int x1), (2, .int x2)]) hx hb dX10_ask_15 rfl hl (by decide) rfl (fun ls hl => ?_)
  refine lv_iload_n hx hb dX10_ask_16 rfl (lv_at hl 0 rfl) ?_
  refine bt_eq (tgt := 42) (X := 0) hx hb dX10_ask_17 (by decide) rfl (by omega) ?_
  refine lv_iconst (v := (-1)) hx hb dX10_ask_42 (by decide) ?_
  refine hret _ _ _ _ _ _ dX10_ask_43 rfl ?_ hO
  exact ⟨rfl, rfl⟩
theorem dX10_copyRow_0 : decode cX10_copyRow 0 = .ok (.iconst 0, 1) := by decide +kernel
theorem dX10_copyRow_1 : decode cX10_copyRow 1 = .ok (.istore_n 2, 1) := by decide +kernel
theorem dX10_copyRow_2 : decode cX10_copyRow 2 = .ok (.iload_n 2, 1) := by decide +kernel
theorem dX10_copyRow_3 : decode cX10_copyRow 3 = .ok (.aload_n 0, 1) := by decide +kernel
theorem dX10_copyRow_4 : decode cX10_copyRow 4 = .ok (.arraylength, 1) := by decide +kernel
theorem dX10_copyRow_5 : decode cX10_copyRow 5 = .ok (.if_icmp .ge 21, 3) := by decide +kernel
theorem dX10_copyRow_8 : decode cX10_copyRow 8 = .ok (.iload_n 2, 1) := by decide +kernel
theorem dX10_copyRow_9 : decode cX10_copyRow 9 = .ok (.aload_n 1, 1) := by decide +kernel
theorem dX10_copyRow_10 : decode cX10_copyRow 10 = .ok (.arraylength, 1) := by decide +kernel
theorem dX10_copyRow_11 : decode cX10_copyRow 11 = .ok (.if_icmp .ge 15, 3) := by decide +kernel
theorem dX10_copyRow_14 : decode cX10_copyRow 14 = .ok (.aload_n 1, 1) := by decide +kernel
theorem dX10_copyRow_15 : decode cX10_copyRow 15 = .ok (.iload_n 2, 1) := by decide +kernel
theorem dX10_copyRow_16 : decode cX10_copyRow 16 = .ok (.aload_n 0, 1) := by decide +kernel
theorem dX10_copyRow_17 : decode cX10_copyRow 17 = .ok (.iload_n 2, 1) := by decide +kernel
theorem dX10_copyRow_18 : decode cX10_copyRow 18 = .ok (.iaload, 1) := by decide +kernel
theorem dX10_copyRow_19 : decode cX10_copyRow 19 = .ok (.iastore, 1) := by decide +kernel
theorem dX10_copyRow_20 : decode cX10_copyRow 20 = .ok (.iinc 2 1, 3) := by decide +kernel
theorem dX10_copyRow_23 : decode cX10_copyRow 23 = .ok (.goto (-21), 3) := by decide +kernel
theorem dX10_copyRow_26 : decode cX10_copyRow 26 = .ok (.return_, 1) := by decide +kernel
theorem wd_912 : (Cond.code ⟨"WebCourt", "copyRow", "([I[I)V"⟩ prog_1_method_54_code (3 : Nat) (Option.none : Option FieldType)) ∈ gtb := gtb_c4 83 (by decide +kernel) rfl
set_option maxHeartbeats 4000000 in
set_option maxRecDepth 100000 in
theorem T_X10_copyRow_out (l : Launch) (D : va_G) (cy : Nat → ClassId) (a : Nat → Nat) (u : St) (hA_29_1 : fA u 29 1 = 0) (k1 : Nat) (rk1 : k1 < 44) : Mv l D cy (cW cy a) yX10_copyRow (.code yX10_copyRow cX10_copyRow 3 none) (rmo 0 0) [.ref (a 29), .ref (a (47 + k1))] u (fun (u' : St) => fA u' 29 1 = 0) := by
  refine Mv.of (own := RX10) rfl (by decide) (Nat.le_of_ble_eq_true rfl) ?_
  intro p e s m below meth c A Q ls C hret hO hl
  obtain ⟨hx, hb, hml, hown, ht, hK, hA⟩ := id C
  have hl : lv_has ls 3 [(0, .ref (a 29)), (1, .ref (a (47 + k1)))] := hl
  refine lv_iconst (v := 0) hx hb dX10_copyRow_0 (by decide) ?_
  refine lv_istore_n (lv' := [(2, .int 0), (0, .ref (a 29)), (1, .ref (a (47 + k1)))]) hx hb dX10_copyRow_1 rfl hl (by decide) rfl (fun ls hl => ?_)
  have LP_2_u1 : ∀ (n : Nat) (u1 : St) (H : Heap) (locs : List Loc) (ls : Array Slot) (i_1 : Int32), Wo D A (cW cy a u1) s.heap H locs → lv_has ls 3 [(2, .int i_1), (0, .ref (a 29)), (1, .ref (a (47 + k1)))] → fA u1 29 1 = 0 → 0 ≤ i_1.toInt ∧ i_1.toInt ≤ 29 → 29 - i_1.toInt < (n : Int) → W p l e (rmo 0 0) s m [.ref (a 29), .ref (a (47 + k1))].toArray below meth c H locs 0 0 Q (F0 m 2 ls []) := by
    intro n
    induction n with
    | zero =>
      intro u1 H locs ls i_1 hO hl hA_29_1_u1 iv0_u1 hm_u1
      exact absurd hm_u1 (by omega)
    | succ n ih_u1 =>
      intro u1 H locs ls i_1 hO hl hA_29_1_u1 iv0_u1 hm_u1
      refine lv_iload_n hx hb dX10_copyRow_2 rfl (lv_at hl 0 rfl) ?_
      refine lv_aload_n hx hb dX10_copyRow_3 rfl (lv_at hl 1 rfl) ?_
      refine aLen (v := 29) C hO 29 1 cW_29 rfl rfl dX10_copyRow_4 ?_
      refine cs_ge (tgt := 26) (X := (i_1).toInt) (Y := 29) hx hb dX10_copyRow_5 (by decide) rfl rfl (fun c3 => ?_) (fun c3 => ?_)
      · refine hret _ _ _ _ _ dX10_copyRow_26 ?_ hO
        exact hA_29_1_u1
      · refine lv_iload_n hx hb dX10_copyRow_8 rfl (lv_at hl 0 rfl) ?_
        refine lv_aload_n hx hb dX10_copyRow_9 rfl (lv_at hl 2 rfl) ?_
        refine aLen (v := 29) C hO (47 + k1) 1 (cW_row rk1) rfl rfl dX10_copyRow_10 ?_
        refine cn_ge (X := (i_1).toInt) (Y := 29) hx hb dX10_copyRow_11 rfl rfl (by omega) ?_ (tgt := 26) (by decide)
        refine lv_aload_n hx hb dX10_copyRow_14 rfl (lv_at hl 2 rfl) ?_
        refine lv_iload_n hx hb dX10_copyRow_15 rfl (lv_at hl 0 rfl) ?_
        refine lv_aload_n hx hb dX10_copyRow_16 rfl (lv_at hl 1 rfl) ?_
        refine lv_iload_n hx hb dX10_copyRow_17 rfl (lv_at hl 0 rfl) ?_
        refine aI C hO 29 cW_29 (i_in (X := (i_1).toInt) rfl (by omega) (by omega)) dX10_copyRow_18 ?_
        refine lv_topi (fun w4 ew4 => ?_)
        refine aIs C hO (47 + k1) (cW_row rk1) (i_in (X := (i_1).toInt) rfl (by omega) (by omega)) (cW_srow rk1) dX10_copyRow_19 (fun H locs hO => ?_)
        have e5 : ((i_1 + 1)).toInt = (i_1).toInt + 1 := i_add rfl rfl (by omega)
        refine lv_iinc (v := (i_1 + 1)) (lv' := [(2, .int (i_1 + 1)), (0, .ref (a 29)), (1, .ref (a (47 + k1)))]) hx hb dX10_copyRow_20 hl (k := 0) rfl rfl (by decide) rfl (fun ls hl => ?_)
        refine lv_goto (tgt := 2) hx hb dX10_copyRow_23 (by decide) ?_
        exact ih_u1 _ _ _ _ ((i_1 + 1)) hO (lv_sub hl [0, 1, 2] rfl) (by exact hA_29_1_u1) (by first | decide | omega) (by first | decide | omega)
  exact LP_2_u1 2000 _ _ _ _ (0) hO (lv_sub hl [0, 1, 2] rfl) (by exact hA_29_1) (by first | decide | omega) (by first | decide | omega)
theorem dX10_image_0 : decode cX10_image 0 = .ok (.iload_n 1, 1) := by decide +kernel
theorem dX10_image_1 : decode cX10_image 1 = .ok (.ifCond .lt 8, 3) := by decide +kernel
theorem dX10_image_4 : decode cX10_image 4 = .ok (.iload_n 1, 1) := by decide +kernel
theorem dX10_image_5 : decode cX10_image 5 = .ok (.iconst 3, 1) := by decide +kernel
theorem dX10_image_6 : decode cX10_image 6 = .ok (.if_icmp .lt 5, 3) := by decide +kernel
theorem dX10_image_9 : decode cX10_image 9 = .ok (.iconst (-1), 1) := by decide +kernel
theorem dX10_image_10 : decode cX10_image 10 = .ok (.ireturn, 1) := by decide +kernel
theorem dX10_image_11 : decode cX10_image 11 = .ok (.aload_n 0, 1) := by decide +kernel
theorem dX10_image_12 : decode cX10_image 12 = .ok (.getfield 37, 3) := by decide +kernel
theorem dX10_image_15 : decode cX10_image 15 = .ok (.getfield 150, 3) := by decide +kernel
theorem dX10_image_18 : decode cX10_image 18 = .ok (.aload_n 0, 1) := by decide +kernel
theorem dX10_image_19 : decode cX10_image 19 = .ok (.getfield 82, 3) := by decide +kernel
theorem dX10_image_22 : decode cX10_image 22 = .ok (.iload_n 1, 1) := by decide +kernel
theorem dX10_image_23 : decode cX10_image 23 = .ok (.aaload, 1) := by decide +kernel
theorem dX10_image_24 : decode cX10_image 24 = .ok (.invokestatic 334, 3) := by decide +kernel
theorem dX10_image_27 : decode cX10_image 27 = .ok (.aload_n 0, 1) := by decide +kernel
theorem dX10_image_28 : decode cX10_image 28 = .ok (.dup, 1) := by decide +kernel
theorem dX10_image_29 : decode cX10_image 29 = .ok (.getfield 114, 3) := by decide +kernel
theorem dX10_image_32 : decode cX10_image 32 = .ok (.iconst 1, 1) := by decide +kernel
theorem dX10_image_33 : decode cX10_image 33 = .ok (.iload_n 1, 1) := by decide +kernel
theorem dX10_image_34 : decode cX10_image 34 = .ok (.ishl, 1) := by decide +kernel
theorem dX10_image_35 : decode cX10_image 35 = .ok (.ior, 1) := by decide +kernel
theorem dX10_image_36 : decode cX10_image 36 = .ok (.putfield 114, 3) := by decide +kernel
theorem dX10_image_39 : decode cX10_image 39 = .ok (.aload_n 0, 1) := by decide +kernel
theorem dX10_image_40 : decode cX10_image 40 = .ok (.getfield 37, 3) := by decide +kernel
theorem dX10_image_43 : decode cX10_image 43 = .ok (.getfield 150, 3) := by decide +kernel
theorem dX10_image_46 : decode cX10_image 46 = .ok (.iconst 1, 1) := by decide +kernel
theorem dX10_image_47 : decode cX10_image 47 = .ok (.iaload, 1) := by decide +kernel
theorem dX10_image_48 : decode cX10_image 48 = .ok (.ireturn, 1) := by decide +kernel
theorem wd_1316 : (Cond.code ⟨"WebCourt", "image", "(I)I"⟩ prog_1_method_50_code (2 : Nat) (Option.some FieldType.int)) ∈ gtb := gtb_c6 7 (by decide +kernel) rfl
theorem wd_476 : (Cond.fieldLink "WebCourt" (82 : Nat) "WebCourt" "boxes" "[[I") ∈ gtb := gtb_c2 127 (by decide +kernel) rfl
theorem gf_RX10_82 {p : Program} {l : Launch} {e : Env} {R : Room} {s : State} {m : MethodId} {args : Array Value} {below : List Frame} {meth : Method} {c : Code} {H : Heap} {locs : List Loc} {cells slots : Nat} {Q : State → Prop} {cc : ByteArray} {pc nL : Nat} {ls : Array Slot} {rest : List Value} {D : va_G} {cy : Nat → ClassId} {A : Nat → Prop} {ws : va_W} {b : Nat} {fs : List Value} {v : Value} (C : Cx p s m args c cc nL RX10 D cy A) (hO : Wo D A ws s.heap H locs) (q0 : Nat) (he : ws[q0]? = some (b, .inr (10, fs))) (hv : fs[8]? = some v) (hdg : decode cc pc = .ok (.getfield 82, 3)) (kk : W p l e R s m args below meth c H locs cells slots Q (F0 m (pc + 3) ls (v :: rest))) : W p l e R s m args below meth c H locs cells slots Q (F0 m pc ls (.ref b :: rest)) := gF (k := 8) C hO q0 he rfl inFX10 (by decide) wd_476 rfl hv hdg kk
theorem wd_1317 : (Cond.methodLink "WebCourt" (334 : Nat) ⟨"WebCourt", "copyRow", "([I[I)V"⟩) ∈ gtb := gtb_c6 8 (by decide +kernel) rfl
theorem wd_911 : (Cond.static ⟨"WebCourt", "copyRow", "([I[I)V"⟩) ∈ gtb := gtb_c4 82 (by decide +kernel) rfl
theorem hd_yX10_copyRow : yX10_copyRow.cls ≠ "java/lang/invoke/MethodHandle" ∧ yX10_copyRow.cls ≠ "java/lang/invoke/VarHandle" ∧ (parseMethodDescriptor yX10_copyRow.desc).map (fun d => d.parameters.length) = some 2 := by decide +kernel
theorem wd_479 : (Cond.fieldLink "WebCourt" (114 : Nat) "WebCourt" "boxesKept" "I") ∈ gtb := gtb_c2 130 (by decide +kernel) rfl
theorem gf_RX10_114 {p : Program} {l : Launch} {e : Env} {R : Room} {s : State} {m : MethodId} {args : Array Value} {below : List Frame} {meth : Method} {c : Code} {H : Heap} {locs : List Loc} {cells slots : Nat} {Q : State → Prop} {cc : ByteArray} {pc nL : Nat} {ls : Array Slot} {rest : List Value} {D : va_G} {cy : Nat → ClassId} {A : Nat → Prop} {ws : va_W} {b : Nat} {fs : List Value} {v : Value} (C : Cx p s m args c cc nL RX10 D cy A) (hO : Wo D A ws s.heap H locs) (q0 : Nat) (he : ws[q0]? = some (b, .inr (10, fs))) (hv : fs[11]? = some v) (hdg : decode cc pc = .ok (.getfield 114, 3)) (kk : W p l e R s m args below meth c H locs cells slots Q (F0 m (pc + 3) ls (v :: rest))) : W p l e R s m args below meth c H locs cells slots Q (F0 m pc ls (.ref b :: rest)) := gF (k := 11) C hO q0 he rfl inFX10 (by decide) wd_479 rfl hv hdg kk
theorem pf_RX10_114 {p : Program} {l : Launch} {e : Env} {R : Room} {s : State} {m : MethodId} {args : Array Value} {below : List Frame} {meth : Method} {c : Code} {H : Heap} {locs : List Loc} {cells slots : Nat} {Q : State → Prop} {cc : ByteArray} {pc nL : Nat} {ls : Array Slot} {rest : List Value} {D : va_G} {cy : Nat → ClassId} {A : Nat → Prop} {ws : va_W} {b : Nat} {fs : List Value} {v : Int32} {ws' : va_W} (C : Cx p s m args c cc nL RX10 D cy A) (hO : Wo D A ws s.heap H locs) (q0 : Nat) (he : ws[q0]? = some (b, .inr (10, fs))) (hlen : 11 < fs.length) (hw : ws.set q0 (b, .inr (10, fs.set 11 (.int v))) = ws') (hdg : decode cc pc = .ok (.putfield 114, 3)) (kk : ∀ (H : Heap) (locs : List Loc), Wo D A ws' s.heap H locs → W p l e R s m args below meth c H locs cells slots Q (F0 m (pc + 3) ls rest)) : W p l e R s m args below meth c H locs cells slots Q (F0 m pc ls (.int v :: .ref b :: rest)) := pF (k := 11) (ty := .int) C hO q0 he rfl inFX10 (by decide) wd_479 rfl tyX10 tyX10_ok nmX10 rfl (by decide +kernel) rfl rfl hlen hw hdg kk
set_option maxHeartbeats 4000000 in
set_option maxRecDepth 100000 in
theorem T_X10_image (l : Launch) (D : va_G) (cy : Nat → ClassId) (a : Nat → Nat) (u : St) (hA_29_1 : fA u 29 1 = 0) (x1 : Int32)  : Mi l D cy (cW cy a) yX10_image (.code yX10_image cX10_image 2 (some .int)) (rmo 1 22) [.ref (a 0), .int x1] u (fun (r : Int32) (u' : St) => r = q_image x1) := by
  refine Mi.of (own := RX10) rfl (by decide) (Nat.le_of_ble_eq_true rfl) ?_
  intro p e s m below meth c A Q ls C hret hO hl
  obtain ⟨hx, hb, hml, hown, ht, hK, hA⟩ := id C
  have hl : lv_has ls 2 [(0, .ref (a 0)), (1, .int x1)] := hl
  refine lv_iload_n hx hb dX10_image_0 rfl (lv_at hl 1 rfl) ?_
  refine bs_lt (tgt := 9) (X := (x1).toInt) hx hb dX10_image_1 (by decide) rfl (fun c1 => ?_) (fun c1 => ?_)
  · refine lv_iconst (v := (-1)) hx hb dX10_image_9 (by decide) ?_
    refine hret _ _ _ _ _ _ dX10_image_10 rfl ?_ hO
    exact (by unfold q_image; have z0 : (0 : Int32).toInt = 0 := rfl; have z1 : (-1 : Int32).toInt = -1 := rfl; split <;> first | rfl | (exact i32_eq.mpr (by omega)) | (exfalso; omega))
  · refine lv_iload_n hx hb dX10_image_4 rfl (lv_at hl 1 rfl) ?_
    refine lv_iconst (v := 3) hx hb dX10_image_5 (by decide) ?_
    refine cs_lt (tgt := 11) (X := (x1).toInt) (Y := 3) hx hb dX10_image_6 (by decide) rfl rfl (fun c2 => ?_) (fun c2 => ?_)
    · have c3 : (x1).toInt = 0 ∨ (x1).toInt = 1 ∨ (x1).toInt = 2 := by omega
      rcases c3 with c3 | c3 | c3
      · have ec3 : x1 = 0 := i32_eq.mpr (by rw [c3]; rfl)
        subst ec3
        refine lv_aload_n hx hb dX10_image_11 rfl (lv_at hl 0 rfl) ?_
        refine gf_RX10_37 (v := .ref (a 28)) C hO 0 cW_0 rfl dX10_image_12 ?_
        refine gf_RX10_150 (v := .ref (a 29)) C hO 28 cW_28 rfl dX10_image_15 ?_
        refine lv_aload_n hx hb dX10_image_18 rfl (lv_at hl 0 rfl) ?_
        refine gf_RX10_82 (v := .ref (a 45)) C hO 0 cW_0 rfl dX10_image_19 ?_
        refine lv_iload_n hx hb dX10_image_22 rfl (lv_at hl 1 rfl) ?_
        refine aII C hO 45 cW_45 (i_in (X := 0) rfl (by omega) (by omega)) dX10_image_23 ?_
        obtain ⟨k4, hk4⟩ : ∃ k : Nat, k = (0 : Int32).toNatClampNeg := ⟨_, rfl⟩
        have lk4 : k4 < 3 := by rw [hk4]; exact i_clt (X := 0) rfl (by omega) (by omega)
        refine tEv (y := .ref (a (47 + (41 + k4)))) (by rw [← hk4]; simp only [if_pos lk4, va_rf]; rw [show 88 + k4 = 47 + (41 + k4) by omega]) ?_
        have rk4 : (41 + k4) < 44 := by omega
        refine cSv (w := cW cy a) (As := [.ref (a 29), .ref (a (47 + (41 + k4)))]) (rest := []) C hO (T_X10_copyRow_out l D cy a _ (by exact hA_29_1) (41 + k4) rk4) (va_cwS 2 ht (gSS wd_1317 wd_911 wd_110 wd_912) rfl rfl rfl hd_yX10_copyRow ⟨Nat.le_of_ble_eq_true rfl, Nat.le_of_ble_eq_true rfl⟩)  rfl hl.1 (Nat.le_of_ble_eq_true rfl) dX10_image_24 rfl ⟨Nat.zero_le _, Nat.zero_le _⟩ (fun u6 H locs hp7 hO => ?_)
        have hA_29_1_u6 := hp7
        refine lv_aload_n hx hb dX10_image_27 rfl (lv_at hl 0 rfl) ?_
        refine lv_dup hx hb dX10_image_28 rfl ?_
        refine gf_RX10_114 (v := .int (fI u6 0 11)) C hO 0 cW_0 rfl dX10_image_29 ?_
        refine lv_iconst (v := 1) hx hb dX10_image_32 (by decide) ?_
        refine lv_iload_n hx hb dX10_image_33 rfl (lv_at hl 1 rfl) ?_
        refine lv_ishl hx hb dX10_image_34 ?_
        refine tE (y := 1) (by decide) ?_
        refine lv_ior hx hb dX10_image_35 ?_
        refine lv_topi (fun z8 ez8 => ?_)
        refine pf_RX10_114 C hO 0 cW_0 (Nat.le_of_ble_eq_true rfl) cW_s0_11 dX10_image_36 (fun H locs hO => ?_)
        refine lv_aload_n hx hb dX10_image_39 rfl (lv_at hl 0 rfl) ?_
        refine gf_RX10_37 (v := .ref (a 28)) C hO 0 cW_0 rfl dX10_image_40 ?_
        refine gf_RX10_150 (v := .ref (a 29)) C hO 28 cW_28 rfl dX10_image_43 ?_
        refine lv_iconst (v := 1) hx hb dX10_image_46 (by decide) ?_
        refine aI C hO 29 cW_29 (i_in (X := 1) rfl (by omega) (by omega)) dX10_image_47 ?_
        refine tE (y := 0) hA_29_1_u6 ?_
        refine hret _ _ _ _ _ _ dX10_image_48 rfl ?_ hO
        exact (by unfold q_image; have z0 : (0 : Int32).toInt = 0 := rfl; have z1 : (-1 : Int32).toInt = -1 := rfl; split <;> first | rfl | (exact i32_eq.mpr (by omega)) | (exfalso; omega))
      · have ec3 : x1 = 1 := i32_eq.mpr (by rw [c3]; rfl)
        subst ec3
        refine lv_aload_n hx hb dX10_image_11 rfl (lv_at hl 0 rfl) ?_
        refine gf_RX10_37 (v := .ref (a 28)) C hO 0 cW_0 rfl dX10_image_12 ?_
        refine gf_RX10_150 (v := .ref (a 29)) C hO 28 cW_28 rfl dX10_image_15 ?_
        refine lv_aload_n hx hb dX10_image_18 rfl (lv_at hl 0 rfl) ?_
        refine gf_RX10_82 (v := .ref (a 45)) C hO 0 cW_0 rfl dX10_image_19 ?_
        refine lv_iload_n hx hb dX10_image_22 rfl (lv_at hl 1 rfl) ?_
        refine aII C hO 45 cW_45 (i_in (X := 1) rfl (by omega) (by omega)) dX10_image_23 ?_
        obtain ⟨k9, hk9⟩ : ∃ k : Nat, k = (1 : Int32).toNatClampNeg := ⟨_, rfl⟩
        have lk9 : k9 < 3 := by rw [hk9]; exact i_clt (X := 1) rfl (by omega) (by omega)
        refine tEv (y := .ref (a (47 + (41 + k9)))) (by rw [← hk9]; simp only [if_pos lk9, va_rf]; rw [show 88 + k9 = 47 + (41 + k9) by omega]) ?_
        have rk9 : (41 + k9) < 44 := by omega
        refine cSv (w := cW cy a) (As := [.ref (a 29), .ref (a (47 + (41 + k9)))]) (rest := []) C hO (T_X10_copyRow_out l D cy a _ (by exact hA_29_1) (41 + k9) rk9) (va_cwS 2 ht (gSS wd_1317 wd_911 wd_110 wd_912) rfl rfl rfl hd_yX10_copyRow ⟨Nat.le_of_ble_eq_true rfl, Nat.le_of_ble_eq_true rfl⟩)  rfl hl.1 (Nat.le_of_ble_eq_true rfl) dX10_image_24 rfl ⟨Nat.zero_le _, Nat.zero_le _⟩ (fun u11 H locs hp12 hO => ?_)
        have hA_29_1_u11 := hp12
        refine lv_aload_n hx hb dX10_image_27 rfl (lv_at hl 0 rfl) ?_
        refine lv_dup hx hb dX10_image_28 rfl ?_
        refine gf_RX10_114 (v := .int (fI u11 0 11)) C hO 0 cW_0 rfl dX10_image_29 ?_
        refine lv_iconst (v := 1) hx hb dX10_image_32 (by decide) ?_
        refine lv_iload_n hx hb dX10_image_33 rfl (lv_at hl 1 rfl) ?_
        refine lv_ishl hx hb dX10_image_34 ?_
        refine tE (y := 2) (by decide) ?_
        refine lv_ior hx hb dX10_image_35 ?_
        refine lv_topi (fun z13 ez13 => ?_)
        refine pf_RX10_114 C hO 0 cW_0 (Nat.le_of_ble_eq_true rfl) cW_s0_11 dX10_image_36 (fun H locs hO => ?_)
        refine lv_aload_n hx hb dX10_image_39 rfl (lv_at hl 0 rfl) ?_
        refine gf_RX10_37 (v := .ref (a 28)) C hO 0 cW_0 rfl dX10_image_40 ?_
        refine gf_RX10_150 (v := .ref (a 29)) C hO 28 cW_28 rfl dX10_image_43 ?_
        refine lv_iconst (v := 1) hx hb dX10_image_46 (by decide) ?_
        refine aI C hO 29 cW_29 (i_in (X := 1) rfl (by omega) (by omega)) dX10_image_47 ?_
        refine tE (y := 0) hA_29_1_u11 ?_
        refine hret _ _ _ _ _ _ dX10_image_48 rfl ?_ hO
        exact (by unfold q_image; have z0 : (0 : Int32).toInt = 0 := rfl; have z1 : (-1 : Int32).toInt = -1 := rfl; split <;> first | rfl | (exact i32_eq.mpr (by omega)) | (exfalso; omega))
      · have ec3 : x1 = 2 := i32_eq.mpr (by rw [c3]; rfl)
        subst ec3
        refine lv_aload_n hx hb dX10_image_11 rfl (lv_at hl 0 rfl) ?_
        refine gf_RX10_37 (v := .ref (a 28)) C hO 0 cW_0 rfl dX10_image_12 ?_
        refine gf_RX10_150 (v := .ref (a 29)) C hO 28 cW_28 rfl dX10_image_15 ?_
        refine lv_aload_n hx hb dX10_image_18 rfl (lv_at hl 0 rfl) ?_
        refine gf_RX10_82 (v := .ref (a 45)) C hO 0 cW_0 rfl dX10_image_19 ?_
        refine lv_iload_n hx hb dX10_image_22 rfl (lv_at hl 1 rfl) ?_
        refine aII C hO 45 cW_45 (i_in (X := 2) rfl (by omega) (by omega)) dX10_image_23 ?_
        obtain ⟨k14, hk14⟩ : ∃ k : Nat, k = (2 : Int32).toNatClampNeg := ⟨_, rfl⟩
        have lk14 : k14 < 3 := by rw [hk14]; exact i_clt (X := 2) rfl (by omega) (by omega)
        refine tEv (y := .ref (a (47 + (41 + k14)))) (by rw [← hk14]; simp only [if_pos lk14, va_rf]; rw [show 88 + k14 = 47 + (41 + k14) by omega]) ?_
        have rk14 : (41 + k14) < 44 := by omega
        refine cSv (w := cW cy a) (As := [.ref (a 29), .ref (a (47 + (41 + k14)))]) (rest := []) C hO (T_X10_copyRow_out l D cy a _ (by exact hA_29_1) (41 + k14) rk14) (va_cwS 2 ht (gSS wd_1317 wd_911 wd_110 wd_912) rfl rfl rfl hd_yX10_copyRow ⟨Nat.le_of_ble_eq_true rfl, Nat.le_of_ble_eq_true rfl⟩)  rfl hl.1 (Nat.le_of_ble_eq_true rfl) dX10_image_24 rfl ⟨Nat.zero_le _, Nat.zero_le _⟩ (fun u16 H locs hp17 hO => ?_)
        have hA_29_1_u16 := hp17
        refine lv_aload_n hx hb dX10_image_27 rfl (lv_at hl 0 rfl) ?_
        refine lv_dup hx hb dX10_image_28 rfl ?_
        refine gf_RX10_114 (v := .int (fI u16 0 11)) C hO 0 cW_0 rfl dX10_image_29 ?_
        refine lv_iconst (v := 1) hx hb dX10_image_32 (by decide) ?_
        refine lv_iload_n hx hb dX10_image_33 rfl (lv_at hl 1 rfl) ?_
        refine lv_ishl hx hb dX10_image_34 ?_
        refine tE (y := 4) (by decide) ?_
        refine lv_ior hx hb dX10_image_35 ?_
        refine lv_topi (fun z18 ez18 => ?_)
        refine pf_RX10_114 C hO 0 cW_0 (Nat.le_of_ble_eq_true rfl) cW_s0_11 dX10_image_36 (fun H locs hO => ?_)
        refine lv_aload_n hx hb dX10_image_39 rfl (lv_at hl 0 rfl) ?_
        refine gf_RX10_37 (v := .ref (a 28)) C hO 0 cW_0 rfl dX10_image_40 ?_
        refine gf_RX10_150 (v := .ref (a 29)) C hO 28 cW_28 rfl dX10_image_43 ?_
        refine lv_iconst (v := 1) hx hb dX10_image_46 (by decide) ?_
        refine aI C hO 29 cW_29 (i_in (X := 1) rfl (by omega) (by omega)) dX10_image_47 ?_
        refine tE (y := 0) hA_29_1_u16 ?_
        refine hret _ _ _ _ _ _ dX10_image_48 rfl ?_ hO
        exact (by unfold q_image; have z0 : (0 : Int32).toInt = 0 := rfl; have z1 : (-1 : Int32).toInt = -1 := rfl; split <;> first | rfl | (exact i32_eq.mpr (by omega)) | (exfalso; omega))
    · refine lv_iconst (v := (-1)) hx hb dX10_image_9 (by decide) ?_
      refine hret _ _ _ _ _ _ dX10_image_10 rfl ?_ hO
      exact (by unfold q_image; have z0 : (0 : Int32).toInt = 0 := rfl; have z1 : (-1 : Int32).toInt = -1 := rfl; split <;> first | rfl | (exact i32_eq.mpr (by omega)) | (exfalso; omega))
theorem dX10_restore_0 : decode cX10_restore 0 = .ok (.iload_n 1, 1) := by decide +kernel
theorem dX10_restore_1 : decode cX10_restore 1 = .ok (.ifCond .lt 19, 3) := by decide +kernel
theorem dX10_restore_4 : decode cX10_restore 4 = .ok (.iload_n 1, 1) := by decide +kernel
theorem dX10_restore_5 : decode cX10_restore 5 = .ok (.iconst 3, 1) := by decide +kernel
theorem dX10_restore_6 : decode cX10_restore 6 = .ok (.if_icmp .ge 14, 3) := by decide +kernel
theorem dX10_restore_9 : decode cX10_restore 9 = .ok (.aload_n 0, 1) := by decide +kernel
theorem dX10_restore_10 : decode cX10_restore 10 = .ok (.getfield 114, 3) := by decide +kernel
theorem dX10_restore_13 : decode cX10_restore 13 = .ok (.iload_n 1, 1) := by decide +kernel
theorem dX10_restore_14 : decode cX10_restore 14 = .ok (.ishr, 1) := by decide +kernel
theorem dX10_restore_15 : decode cX10_restore 15 = .ok (.iconst 1, 1) := by decide +kernel
theorem dX10_restore_16 : decode cX10_restore 16 = .ok (.iand, 1) := by decide +kernel
theorem dX10_restore_17 : decode cX10_restore 17 = .ok (.ifCond .ne 5, 3) := by decide +kernel
theorem dX10_restore_20 : decode cX10_restore 20 = .ok (.iconst (-1), 1) := by decide +kernel
theorem dX10_restore_21 : decode cX10_restore 21 = .ok (.ireturn, 1) := by decide +kernel
theorem dX10_restore_22 : decode cX10_restore 22 = .ok (.aload_n 0, 1) := by decide +kernel
theorem dX10_restore_23 : decode cX10_restore 23 = .ok (.getfield 82, 3) := by decide +kernel
theorem dX10_restore_26 : decode cX10_restore 26 = .ok (.iload_n 1, 1) := by decide +kernel
theorem dX10_restore_27 : decode cX10_restore 27 = .ok (.aaload, 1) := by decide +kernel
theorem dX10_restore_28 : decode cX10_restore 28 = .ok (.aload_n 0, 1) := by decide +kernel
theorem dX10_restore_29 : decode cX10_restore 29 = .ok (.getfield 37, 3) := by decide +kernel
theorem dX10_restore_32 : decode cX10_restore 32 = .ok (.getfield 150, 3) := by decide +kernel
theorem dX10_restore_35 : decode cX10_restore 35 = .ok (.invokestatic 334, 3) := by decide +kernel
theorem dX10_restore_38 : decode cX10_restore 38 = .ok (.aload_n 0, 1) := by decide +kernel
theorem dX10_restore_39 : decode cX10_restore 39 = .ok (.getfield 44, 3) := by decide +kernel
theorem dX10_restore_42 : decode cX10_restore 42 = .ok (.invokevirtual 107, 3) := by decide +kernel
theorem dX10_restore_45 : decode cX10_restore 45 = .ok (.aload_n 0, 1) := by decide +kernel
theorem dX10_restore_46 : decode cX10_restore 46 = .ok (.getfield 37, 3) := by decide +kernel
theorem dX10_restore_49 : decode cX10_restore 49 = .ok (.getfield 150, 3) := by decide +kernel
theorem dX10_restore_52 : decode cX10_restore 52 = .ok (.iconst 1, 1) := by decide +kernel
theorem dX10_restore_53 : decode cX10_restore 53 = .ok (.iaload, 1) := by decide +kernel
theorem dX10_restore_54 : decode cX10_restore 54 = .ok (.ireturn, 1) := by decide +kernel
theorem wd_1321 : (Cond.code ⟨"WebCourt", "restore", "(I)I"⟩ prog_1_method_51_code (2 : Nat) (Option.some FieldType.int)) ∈ gtb := gtb_c6 12 (by decide +kernel) rfl
set_option maxHeartbeats 4000000 in
set_option maxRecDepth 100000 in
theorem T_X10_restore (l : Launch) (D : va_G) (cy : Nat → ClassId) (a : Nat → Nat) (u : St) (hI_0_11 : fI u 0 11 = 0) (x1 : Int32)  : Mi l D cy (cW cy a) yX10_restore (.code yX10_restore cX10_restore 2 (some .int)) (rmo 0 0) [.ref (a 0), .int x1] u (fun (r : Int32) (u' : St) => r = (-1) ∧ u' = u) := by
  refine Mi.of (own := RX10) rfl (by decide) (Nat.le_of_ble_eq_true rfl) ?_
  intro p e s m below meth c A Q ls C hret hO hl
  obtain ⟨hx, hb, hml, hown, ht, hK, hA⟩ := id C
  have hl : lv_has ls 2 [(0, .ref (a 0)), (1, .int x1)] := hl
  refine lv_iload_n hx hb dX10_restore_0 rfl (lv_at hl 1 rfl) ?_
  refine bs_lt (tgt := 20) (X := (x1).toInt) hx hb dX10_restore_1 (by decide) rfl (fun c1 => ?_) (fun c1 => ?_)
  · refine lv_iconst (v := (-1)) hx hb dX10_restore_20 (by decide) ?_
    refine hret _ _ _ _ _ _ dX10_restore_21 rfl ?_ hO
    exact ⟨rfl, rfl⟩
  · refine lv_iload_n hx hb dX10_restore_4 rfl (lv_at hl 1 rfl) ?_
    refine lv_iconst (v := 3) hx hb dX10_restore_5 (by decide) ?_
    refine cs_ge (tgt := 20) (X := (x1).toInt) (Y := 3) hx hb dX10_restore_6 (by decide) rfl rfl (fun c2 => ?_) (fun c2 => ?_)
    · refine lv_iconst (v := (-1)) hx hb dX10_restore_20 (by decide) ?_
      refine hret _ _ _ _ _ _ dX10_restore_21 rfl ?_ hO
      exact ⟨rfl, rfl⟩
    · have c3 : (x1).toInt = 0 ∨ (x1).toInt = 1 ∨ (x1).toInt = 2 := by omega
      rcases c3 with c3 | c3 | c3
      · have ec3 : x1 = 0 := i32_eq.mpr (by rw [c3]; rfl)
        subst ec3
        refine lv_aload_n hx hb dX10_restore_9 rfl (lv_at hl 0 rfl) ?_
        refine gf_RX10_114 (v := .int 0) C hO 0 cW_0 (congrArg (fun z : Int32 => some (Value.int z)) hI_0_11) dX10_restore_10 ?_
        refine lv_iload_n hx hb dX10_restore_13 rfl (lv_at hl 1 rfl) ?_
        refine lv_ishr hx hb dX10_restore_14 ?_
        refine tE (y := 0) (by decide) ?_
        refine lv_iconst (v := 1) hx hb dX10_restore_15 (by decide) ?_
        refine lv_iand hx hb dX10_restore_16 ?_
        refine tE (y := 0) (by decide) ?_
        refine bn_ne (X := 0) hx hb dX10_restore_17 rfl (by omega) ?_ (tgt := 22) (by decide)
        refine lv_iconst (v := (-1)) hx hb dX10_restore_20 (by decide) ?_
        refine hret _ _ _ _ _ _ dX10_restore_21 rfl ?_ hO
        exact ⟨rfl, rfl⟩
      · have ec3 : x1 = 1 := i32_eq.mpr (by rw [c3]; rfl)
        subst ec3
        refine lv_aload_n hx hb dX10_restore_9 rfl (lv_at hl 0 rfl) ?_
        refine gf_RX10_114 (v := .int 0) C hO 0 cW_0 (congrArg (fun z : Int32 => some (Value.int z)) hI_0_11) dX10_restore_10 ?_
        refine lv_iload_n hx hb dX10_restore_13 rfl (lv_at hl 1 rfl) ?_
        refine lv_ishr hx hb dX10_restore_14 ?_
        refine tE (y := 0) (by decide) ?_
        refine lv_iconst (v := 1) hx hb dX10_restore_15 (by decide) ?_
        refine lv_iand hx hb dX10_restore_16 ?_
        refine tE (y := 0) (by decide) ?_
        refine bn_ne (X := 0) hx hb dX10_restore_17 rfl (by omega) ?_ (tgt := 22) (by decide)
        refine lv_iconst (v := (-1)) hx hb dX10_restore_20 (by decide) ?_
        refine hret _ _ _ _ _ _ dX10_restore_21 rfl ?_ hO
        exact ⟨rfl, rfl⟩
      · have ec3 : x1 = 2 := i32_eq.mpr (by rw [c3]; rfl)
        subst ec3
        refine lv_aload_n hx hb dX10_restore_9 rfl (lv_at hl 0 rfl) ?_
        refine gf_RX10_114 (v := .int 0) C hO 0 cW_0 (congrArg (fun z : Int32 => some (Value.int z)) hI_0_11) dX10_restore_10 ?_
        refine lv_iload_n hx hb dX10_restore_13 rfl (lv_at hl 1 rfl) ?_
        refine lv_ishr hx hb dX10_restore_14 ?_
        refine tE (y := 0) (by decide) ?_
        refine lv_iconst (v := 1) hx hb dX10_restore_15 (by decide) ?_
        refine lv_iand hx hb dX10_restore_16 ?_
        refine tE (y := 0) (by decide) ?_
        refine bn_ne (X := 0) hx hb dX10_restore_17 rfl (by omega) ?_ (tgt := 22) (by decide)
        refine lv_iconst (v := (-1)) hx hb dX10_restore_20 (by decide) ?_
        refine hret _ _ _ _ _ _ dX10_restore_21 rfl ?_ hO
        exact ⟨rfl, rfl⟩
theorem dX10_aboutRest_0 : decode cX10_aboutRest 0 = .ok (.iload_n 1, 1) := by decide +kernel
theorem dX10_aboutRest_1 : decode cX10_aboutRest 1 = .ok (.tableswitch 102 8 14 #[43, 51, 59, 67, 75, 83, 97], 43) := by decide +kernel
theorem dX10_aboutRest_44 : decode cX10_aboutRest 44 = .ok (.aload_n 0, 1) := by decide +kernel
theorem dX10_aboutRest_45 : decode cX10_aboutRest 45 = .ok (.getfield 44, 3) := by decide +kernel
theorem dX10_aboutRest_48 : decode cX10_aboutRest 48 = .ok (.getfield 344, 3) := by decide +kernel
theorem dX10_aboutRest_51 : decode cX10_aboutRest 51 = .ok (.ireturn, 1) := by decide +kernel
theorem dX10_aboutRest_52 : decode cX10_aboutRest 52 = .ok (.aload_n 0, 1) := by decide +kernel
theorem dX10_aboutRest_53 : decode cX10_aboutRest 53 = .ok (.getfield 44, 3) := by decide +kernel
theorem dX10_aboutRest_56 : decode cX10_aboutRest 56 = .ok (.getfield 347, 3) := by decide +kernel
theorem dX10_aboutRest_59 : decode cX10_aboutRest 59 = .ok (.ireturn, 1) := by decide +kernel
theorem dX10_aboutRest_60 : decode cX10_aboutRest 60 = .ok (.aload_n 0, 1) := by decide +kernel
theorem dX10_aboutRest_61 : decode cX10_aboutRest 61 = .ok (.getfield 76, 3) := by decide +kernel
theorem dX10_aboutRest_64 : decode cX10_aboutRest 64 = .ok (.getfield 350, 3) := by decide +kernel
theorem dX10_aboutRest_67 : decode cX10_aboutRest 67 = .ok (.ireturn, 1) := by decide +kernel
theorem dX10_aboutRest_68 : decode cX10_aboutRest 68 = .ok (.aload_n 0, 1) := by decide +kernel
theorem dX10_aboutRest_69 : decode cX10_aboutRest 69 = .ok (.getfield 76, 3) := by decide +kernel
theorem dX10_aboutRest_72 : decode cX10_aboutRest 72 = .ok (.getfield 353, 3) := by decide +kernel
theorem dX10_aboutRest_75 : decode cX10_aboutRest 75 = .ok (.ireturn, 1) := by decide +kernel
theorem dX10_aboutRest_76 : decode cX10_aboutRest 76 = .ok (.aload_n 0, 1) := by decide +kernel
theorem dX10_aboutRest_77 : decode cX10_aboutRest 77 = .ok (.getfield 12, 3) := by decide +kernel
theorem dX10_aboutRest_80 : decode cX10_aboutRest 80 = .ok (.getfield 89, 3) := by decide +kernel
theorem dX10_aboutRest_83 : decode cX10_aboutRest 83 = .ok (.ireturn, 1) := by decide +kernel
theorem dX10_aboutRest_84 : decode cX10_aboutRest 84 = .ok (.aload_n 0, 1) := by decide +kernel
theorem dX10_aboutRest_85 : decode cX10_aboutRest 85 = .ok (.getfield 37, 3) := by decide +kernel
theorem dX10_aboutRest_88 : decode cX10_aboutRest 88 = .ok (.getfield 101, 3) := by decide +kernel
theorem dX10_aboutRest_91 : decode cX10_aboutRest 91 = .ok (.getfield 356, 3) := by decide +kernel
theorem dX10_aboutRest_94 : decode cX10_aboutRest 94 = .ok (.getfield 360, 3) := by decide +kernel
theorem dX10_aboutRest_97 : decode cX10_aboutRest 97 = .ok (.ireturn, 1) := by decide +kernel
theorem dX10_aboutRest_98 : decode cX10_aboutRest 98 = .ok (.aload_n 0, 1) := by decide +kernel
theorem dX10_aboutRest_99 : decode cX10_aboutRest 99 = .ok (.getfield 111, 3) := by decide +kernel
theorem dX10_aboutRest_102 : decode cX10_aboutRest 102 = .ok (.ireturn, 1) := by decide +kernel
theorem dX10_aboutRest_103 : decode cX10_aboutRest 103 = .ok (.iconst (-1), 1) := by decide +kernel
theorem dX10_aboutRest_104 : decode cX10_aboutRest 104 = .ok (.ireturn, 1) := by decide +kernel
theorem wd_1329 : (Cond.code ⟨"WebCourt", "aboutRest", "(I)I"⟩ prog_1_method_53_code (2 : Nat) (Option.some FieldType.int)) ∈ gtb := gtb_c6 20 (by decide +kernel) rfl
theorem wd_379 : (Cond.fieldLink "WebCourt" (344 : Nat) "WebCourt$Acts" "done" "I") ∈ gtb := gtb_c2 30 (by decide +kernel) rfl
theorem gf_RX10_344 {p : Program} {l : Launch} {e : Env} {R : Room} {s : State} {m : MethodId} {args : Array Value} {below : List Frame} {meth : Method} {c : Code} {H : Heap} {locs : List Loc} {cells slots : Nat} {Q : State → Prop} {cc : ByteArray} {pc nL : Nat} {ls : Array Slot} {rest : List Value} {D : va_G} {cy : Nat → ClassId} {A : Nat → Prop} {ws : va_W} {b : Nat} {fs : List Value} {v : Value} (C : Cx p s m args c cc nL RX10 D cy A) (hO : Wo D A ws s.heap H locs) (q0 : Nat) (he : ws[q0]? = some (b, .inr (0, fs))) (hv : fs[2]? = some v) (hdg : decode cc pc = .ok (.getfield 344, 3)) (kk : W p l e R s m args below meth c H locs cells slots Q (F0 m (pc + 3) ls (v :: rest))) : W p l e R s m args below meth c H locs cells slots Q (F0 m pc ls (.ref b :: rest)) := gF (k := 2) C hO q0 he rfl inFX0 (by decide) wd_379 rfl hv hdg kk
theorem wd_381 : (Cond.fieldLink "WebCourt" (347 : Nat) "WebCourt$Acts" "undone" "I") ∈ gtb := gtb_c2 32 (by decide +kernel) rfl
theorem gf_RX10_347 {p : Program} {l : Launch} {e : Env} {R : Room} {s : State} {m : MethodId} {args : Array Value} {below : List Frame} {meth : Method} {c : Code} {H : Heap} {locs : List Loc} {cells slots : Nat} {Q : State → Prop} {cc : ByteArray} {pc nL : Nat} {ls : Array Slot} {rest : List Value} {D : va_G} {cy : Nat → ClassId} {A : Nat → Prop} {ws : va_W} {b : Nat} {fs : List Value} {v : Value} (C : Cx p s m args c cc nL RX10 D cy A) (hO : Wo D A ws s.heap H locs) (q0 : Nat) (he : ws[q0]? = some (b, .inr (0, fs))) (hv : fs[3]? = some v) (hdg : decode cc pc = .ok (.getfield 347, 3)) (kk : W p l e R s m args below meth c H locs cells slots Q (F0 m (pc + 3) ls (v :: rest))) : W p l e R s m args below meth c H locs cells slots Q (F0 m pc ls (.ref b :: rest)) := gF (k := 3) C hO q0 he rfl inFX0 (by decide) wd_381 rfl hv hdg kk
theorem wd_448 : (Cond.fieldLink "WebCourt" (350 : Nat) "WebCourt$Hearsay" "count" "I") ∈ gtb := gtb_c2 99 (by decide +kernel) rfl
theorem gf_RX10_350 {p : Program} {l : Launch} {e : Env} {R : Room} {s : State} {m : MethodId} {args : Array Value} {below : List Frame} {meth : Method} {c : Code} {H : Heap} {locs : List Loc} {cells slots : Nat} {Q : State → Prop} {cc : ByteArray} {pc nL : Nat} {ls : Array Slot} {rest : List Value} {D : va_G} {cy : Nat → ClassId} {A : Nat → Prop} {ws : va_W} {b : Nat} {fs : List Value} {v : Value} (C : Cx p s m args c cc nL RX10 D cy A) (hO : Wo D A ws s.heap H locs) (q0 : Nat) (he : ws[q0]? = some (b, .inr (3, fs))) (hv : fs[5]? = some v) (hdg : decode cc pc = .ok (.getfield 350, 3)) (kk : W p l e R s m args below meth c H locs cells slots Q (F0 m (pc + 3) ls (v :: rest))) : W p l e R s m args below meth c H locs cells slots Q (F0 m pc ls (.ref b :: rest)) := gF (k := 5) C hO q0 he rfl inFX3 (by decide) wd_448 rfl hv hdg kk
theorem wd_450 : (Cond.fieldLink "WebCourt" (353 : Nat) "WebCourt$Hearsay" "time" "I") ∈ gtb := gtb_c2 101 (by decide +kernel) rfl
theorem gf_RX10_353 {p : Program} {l : Launch} {e : Env} {R : Room} {s : State} {m : MethodId} {args : Array Value} {below : List Frame} {meth : Method} {c : Code} {H : Heap} {locs : List Loc} {cells slots : Nat} {Q : State → Prop} {cc : ByteArray} {pc nL : Nat} {ls : Array Slot} {rest : List Value} {D : va_G} {cy : Nat → ClassId} {A : Nat → Prop} {ws : va_W} {b : Nat} {fs : List Value} {v : Value} (C : Cx p s m args c cc nL RX10 D cy A) (hO : Wo D A ws s.heap H locs) (q0 : Nat) (he : ws[q0]? = some (b, .inr (3, fs))) (hv : fs[6]? = some v) (hdg : decode cc pc = .ok (.getfield 353, 3)) (kk : W p l e R s m args below meth c H locs cells slots Q (F0 m (pc + 3) ls (v :: rest))) : W p l e R s m args below meth c H locs cells slots Q (F0 m pc ls (.ref b :: rest)) := gF (k := 6) C hO q0 he rfl inFX3 (by decide) wd_450 rfl hv hdg kk
theorem wd_468 : (Cond.fieldLink "WebCourt" (12 : Nat) "WebCourt" "tape" "LWebCourt$Tape;") ∈ gtb := gtb_c2 119 (by decide +kernel) rfl
theorem gf_RX10_12 {p : Program} {l : Launch} {e : Env} {R : Room} {s : State} {m : MethodId} {args : Array Value} {below : List Frame} {meth : Method} {c : Code} {H : Heap} {locs : List Loc} {cells slots : Nat} {Q : State → Prop} {cc : ByteArray} {pc nL : Nat} {ls : Array Slot} {rest : List Value} {D : va_G} {cy : Nat → ClassId} {A : Nat → Prop} {ws : va_W} {b : Nat} {fs : List Value} {v : Value} (C : Cx p s m args c cc nL RX10 D cy A) (hO : Wo D A ws s.heap H locs) (q0 : Nat) (he : ws[q0]? = some (b, .inr (10, fs))) (hv : fs[0]? = some v) (hdg : decode cc pc = .ok (.getfield 12, 3)) (kk : W p l e R s m args below meth c H locs cells slots Q (F0 m (pc + 3) ls (v :: rest))) : W p l e R s m args below meth c H locs cells slots Q (F0 m pc ls (.ref b :: rest)) := gF (k := 0) C hO q0 he rfl inFX10 (by decide) wd_468 rfl hv hdg kk
theorem wd_144 : (Cond.fieldLink "WebCourt" (89 : Nat) "WebCourt$Tape" "length" "I") ∈ gtb := gtb_c1 35 (by decide +kernel) rfl
theorem wd_155 : (Cond.laysFinal "WebCourt$Tape" "WebCourt$Tape" "bytes" "[B") ∈ gtb := gtb_c1 46 (by decide +kernel) rfl
theorem wd_157 : (Cond.lays "WebCourt$Tape" "WebCourt$Tape" "length" "I") ∈ gtb := gtb_c1 48 (by decide +kernel) rfl
theorem wd_159 : (Cond.lays "WebCourt$Tape" "WebCourt$Tape" "next" "I") ∈ gtb := gtb_c1 50 (by decide +kernel) rfl
theorem wd_161 : (Cond.lays "WebCourt$Tape" "WebCourt$Tape" "start" "I") ∈ gtb := gtb_c1 52 (by decide +kernel) rfl
theorem wd_163 : (Cond.lays "WebCourt$Tape" "WebCourt$Tape" "kind" "I") ∈ gtb := gtb_c1 54 (by decide +kernel) rfl
theorem wd_165 : (Cond.lays "WebCourt$Tape" "WebCourt$Tape" "word" "J") ∈ gtb := gtb_c1 56 (by decide +kernel) rfl
theorem wd_167 : (Cond.lays "WebCourt$Tape" "WebCourt$Tape" "number" "I") ∈ gtb := gtb_c1 58 (by decide +kernel) rfl
theorem inFX7 : ∀ w ∈ u_ws RX7 TX7 7, w ∈ gtb := by
  show ∀ w ∈ [u_lay RX7 TX7 0, u_lay RX7 TX7 1, u_lay RX7 TX7 2, u_lay RX7 TX7 3, u_lay RX7 TX7 4, u_lay RX7 TX7 5, u_lay RX7 TX7 6], w ∈ gtb
  exact List.forall_mem_cons.mpr ⟨wd_155, List.forall_mem_cons.mpr ⟨wd_157, List.forall_mem_cons.mpr ⟨wd_159, List.forall_mem_cons.mpr ⟨wd_161, List.forall_mem_cons.mpr ⟨wd_163, List.forall_mem_cons.mpr ⟨wd_165, List.forall_mem_cons.mpr ⟨wd_167, fun _ h => absurd h List.not_mem_nil⟩⟩⟩⟩⟩⟩⟩
theorem gf_RX10_89 {p : Program} {l : Launch} {e : Env} {R : Room} {s : State} {m : MethodId} {args : Array Value} {below : List Frame} {meth : Method} {c : Code} {H : Heap} {locs : List Loc} {cells slots : Nat} {Q : State → Prop} {cc : ByteArray} {pc nL : Nat} {ls : Array Slot} {rest : List Value} {D : va_G} {cy : Nat → ClassId} {A : Nat → Prop} {ws : va_W} {b : Nat} {fs : List Value} {v : Value} (C : Cx p s m args c cc nL RX10 D cy A) (hO : Wo D A ws s.heap H locs) (q0 : Nat) (he : ws[q0]? = some (b, .inr (7, fs))) (hv : fs[1]? = some v) (hdg : decode cc pc = .ok (.getfield 89, 3)) (kk : W p l e R s m args below meth c H locs cells slots Q (F0 m (pc + 3) ls (v :: rest))) : W p l e R s m args below meth c H locs cells slots Q (F0 m pc ls (.ref b :: rest)) := gF (k := 1) C hO q0 he rfl inFX7 (by decide) wd_144 rfl hv hdg kk
theorem wd_250 : (Cond.fieldLink "WebCourt" (356 : Nat) "WebCourt$Web" "law" "LWebCourt$Law;") ∈ gtb := gtb_c1 141 (by decide +kernel) rfl
theorem gf_RX10_356 {p : Program} {l : Launch} {e : Env} {R : Room} {s : State} {m : MethodId} {args : Array Value} {below : List Frame} {meth : Method} {c : Code} {H : Heap} {locs : List Loc} {cells slots : Nat} {Q : State → Prop} {cc : ByteArray} {pc nL : Nat} {ls : Array Slot} {rest : List Value} {D : va_G} {cy : Nat → ClassId} {A : Nat → Prop} {ws : va_W} {b : Nat} {fs : List Value} {v : Value} (C : Cx p s m args c cc nL RX10 D cy A) (hO : Wo D A ws s.heap H locs) (q0 : Nat) (he : ws[q0]? = some (b, .inr (9, fs))) (hv : fs[8]? = some v) (hdg : decode cc pc = .ok (.getfield 356, 3)) (kk : W p l e R s m args below meth c H locs cells slots Q (F0 m (pc + 3) ls (v :: rest))) : W p l e R s m args below meth c H locs cells slots Q (F0 m pc ls (.ref b :: rest)) := gF (k := 8) C hO q0 he rfl inFX9 (by decide) wd_250 rfl hv hdg kk
theorem wd_189 : (Cond.fieldLink "WebCourt" (360 : Nat) "WebCourt$Law" "units" "I") ∈ gtb := gtb_c1 80 (by decide +kernel) rfl
theorem wd_196 : (Cond.laysFinal "WebCourt$Law" "WebCourt$Law" "codes" "[I") ∈ gtb := gtb_c1 87 (by decide +kernel) rfl
theorem wd_198 : (Cond.laysFinal "WebCourt$Law" "WebCourt$Law" "stack" "[I") ∈ gtb := gtb_c1 89 (by decide +kernel) rfl
theorem wd_200 : (Cond.lays "WebCourt$Law" "WebCourt$Law" "length" "I") ∈ gtb := gtb_c1 91 (by decide +kernel) rfl
theorem wd_202 : (Cond.lays "WebCourt$Law" "WebCourt$Law" "top" "I") ∈ gtb := gtb_c1 93 (by decide +kernel) rfl
theorem wd_204 : (Cond.lays "WebCourt$Law" "WebCourt$Law" "units" "I") ∈ gtb := gtb_c1 95 (by decide +kernel) rfl
theorem wd_206 : (Cond.lays "WebCourt$Law" "WebCourt$Law" "pleads" "I") ∈ gtb := gtb_c1 97 (by decide +kernel) rfl
theorem wd_208 : (Cond.lays "WebCourt$Law" "WebCourt$Law" "many" "I") ∈ gtb := gtb_c1 99 (by decide +kernel) rfl
theorem wd_210 : (Cond.lays "WebCourt$Law" "WebCourt$Law" "before" "I") ∈ gtb := gtb_c1 101 (by decide +kernel) rfl
theorem wd_212 : (Cond.lays "WebCourt$Law" "WebCourt$Law" "stays" "I") ∈ gtb := gtb_c1 103 (by decide +kernel) rfl
theorem wd_214 : (Cond.lays "WebCourt$Law" "WebCourt$Law" "kin" "I") ∈ gtb := gtb_c1 105 (by decide +kernel) rfl
theorem wd_216 : (Cond.lays "WebCourt$Law" "WebCourt$Law" "hour" "I") ∈ gtb := gtb_c1 107 (by decide +kernel) rfl
theorem inFX4 : ∀ w ∈ u_ws RX4 TX4 11, w ∈ gtb := by
  show ∀ w ∈ [u_lay RX4 TX4 0, u_lay RX4 TX4 1, u_lay RX4 TX4 2, u_lay RX4 TX4 3, u_lay RX4 TX4 4, u_lay RX4 TX4 5, u_lay RX4 TX4 6, u_lay RX4 TX4 7, u_lay RX4 TX4 8, u_lay RX4 TX4 9, u_lay RX4 TX4 10], w ∈ gtb
  exact List.forall_mem_cons.mpr ⟨wd_196, List.forall_mem_cons.mpr ⟨wd_198, List.forall_mem_cons.mpr ⟨wd_200, List.forall_mem_cons.mpr ⟨wd_202, List.forall_mem_cons.mpr ⟨wd_204, List.forall_mem_cons.mpr ⟨wd_206, List.forall_mem_cons.mpr ⟨wd_208, List.forall_mem_cons.mpr ⟨wd_210, List.forall_mem_cons.mpr ⟨wd_212, List.forall_mem_cons.mpr ⟨wd_214, List.forall_mem_cons.mpr ⟨wd_216, fun _ h => absurd h List.not_mem_nil⟩⟩⟩⟩⟩⟩⟩⟩⟩⟩⟩
theorem gf_RX10_360 {p : Program} {l : Launch} {e : Env} {R : Room} {s : State} {m : MethodId} {args : Array Value} {below : List Frame} {meth : Method} {c : Code} {H : Heap} {locs : List Loc} {cells slots : Nat} {Q : State → Prop} {cc : ByteArray} {pc nL : Nat} {ls : Array Slot} {rest : List Value} {D : va_G} {cy : Nat → ClassId} {A : Nat → Prop} {ws : va_W} {b : Nat} {fs : List Value} {v : Value} (C : Cx p s m args c cc nL RX10 D cy A) (hO : Wo D A ws s.heap H locs) (q0 : Nat) (he : ws[q0]? = some (b, .inr (4, fs))) (hv : fs[4]? = some v) (hdg : decode cc pc = .ok (.getfield 360, 3)) (kk : W p l e R s m args below meth c H locs cells slots Q (F0 m (pc + 3) ls (v :: rest))) : W p l e R s m args below meth c H locs cells slots Q (F0 m pc ls (.ref b :: rest)) := gF (k := 4) C hO q0 he rfl inFX4 (by decide) wd_189 rfl hv hdg kk
set_option maxHeartbeats 4000000 in
set_option maxRecDepth 100000 in
theorem T_X10_aboutRest (l : Launch) (D : va_G) (cy : Nat → ClassId) (a : Nat → Nat) (u : St) (hI_0_10 : fI u 0 10 = 0) (hI_1_1 : fI u 1 1 = 0) (hI_12_4 : fI u 12 4 = 0) (hI_30_2 : fI u 30 2 = 0) (hI_30_3 : fI u 30 3 = 0) (hI_39_5 : fI u 39 5 = 0) (hI_39_6 : fI u 39 6 = 0) (hR_0 : fR u 0 = a 3) (x1 : Int32)  : Mi l D cy (cW cy a) yX10_aboutRest (.code yX10_aboutRest cX10_aboutRest 2 (some .int)) (rmo 0 0) [.ref (a 0), .int x1] u (fun (r : Int32) (u' : St) => r = q_rest x1 ∧ u' = u) := by
  refine Mi.of (own := RX10) rfl (by decide) (Nat.le_of_ble_eq_true rfl) ?_
  intro p e s m below meth c A Q ls C hret hO hl
  obtain ⟨hx, hb, hml, hown, ht, hK, hA⟩ := id C
  have hl : lv_has ls 2 [(0, .ref (a 0)), (1, .int x1)] := hl
  refine lv_iload_n hx hb dX10_aboutRest_0 rfl (lv_at hl 1 rfl) ?_
  have c1 : ((x1).toInt < 8 ∨ 14 < (x1).toInt) ∨ (x1).toInt = 8 ∨ (x1).toInt = 9 ∨ (x1).toInt = 10 ∨ (x1).toInt = 11 ∨ (x1).toInt = 12 ∨ (x1).toInt = 13 ∨ (x1).toInt = 14 := by omega
  rcases c1 with c1 | c1 | c1 | c1 | c1 | c1 | c1 | c1
  · refine lv_tableOut (tgt := 103) hx hb dX10_aboutRest_1 (by rw [show x1.toInt = (x1).toInt from rfl]; exact c1) (by decide) ?_
    refine lv_iconst (v := (-1)) hx hb dX10_aboutRest_103 (by decide) ?_
    refine hret _ _ _ _ _ _ dX10_aboutRest_104 rfl ?_ hO
    exact ⟨(by unfold q_rest; have z0 : (0 : Int32).toInt = 0 := rfl; have z1 : (-1 : Int32).toInt = -1 := rfl; split <;> first | rfl | (exact i32_eq.mpr (by omega)) | (exfalso; omega)), rfl⟩
  · refine lv_tableIn (tgt := 44) hx hb dX10_aboutRest_1 (by rw [c1]; decide) (by rw [c1]; decide) (by rw [c1]; rfl) (by decide) ?_
    refine lv_aload_n hx hb dX10_aboutRest_44 rfl (lv_at hl 0 rfl) ?_
    refine gf_RX10_44 (v := .ref (a 30)) C hO 0 cW_0 rfl dX10_aboutRest_45 ?_
    refine gf_RX10_344 (v := .int 0) C hO 30 cW_30 (congrArg (fun z : Int32 => some (Value.int z)) hI_30_2) dX10_aboutRest_48 ?_
    refine hret _ _ _ _ _ _ dX10_aboutRest_51 rfl ?_ hO
    exact ⟨(by unfold q_rest; have z0 : (0 : Int32).toInt = 0 := rfl; have z1 : (-1 : Int32).toInt = -1 := rfl; split <;> first | rfl | (exact i32_eq.mpr (by omega)) | (exfalso; omega)), rfl⟩
  · refine lv_tableIn (tgt := 52) hx hb dX10_aboutRest_1 (by rw [c1]; decide) (by rw [c1]; decide) (by rw [c1]; rfl) (by decide) ?_
    refine lv_aload_n hx hb dX10_aboutRest_52 rfl (lv_at hl 0 rfl) ?_
    refine gf_RX10_44 (v := .ref (a 30)) C hO 0 cW_0 rfl dX10_aboutRest_53 ?_
    refine gf_RX10_347 (v := .int 0) C hO 30 cW_30 (congrArg (fun z : Int32 => some (Value.int z)) hI_30_3) dX10_aboutRest_56 ?_
    refine hret _ _ _ _ _ _ dX10_aboutRest_59 rfl ?_ hO
    exact ⟨(by unfold q_rest; have z0 : (0 : Int32).toInt = 0 := rfl; have z1 : (-1 : Int32).toInt = -1 := rfl; split <;> first | rfl | (exact i32_eq.mpr (by omega)) | (exfalso; omega)), rfl⟩
  · refine lv_tableIn (tgt := 60) hx hb dX10_aboutRest_1 (by rw [c1]; decide) (by rw [c1]; decide) (by rw [c1]; rfl) (by decide) ?_
    refine lv_aload_n hx hb dX10_aboutRest_60 rfl (lv_at hl 0 rfl) ?_
    refine gf_RX10_76 (v := .ref (a 39)) C hO 0 cW_0 rfl dX10_aboutRest_61 ?_
    refine gf_RX10_350 (v := .int 0) C hO 39 cW_39 (congrArg (fun z : Int32 => some (Value.int z)) hI_39_5) dX10_aboutRest_64 ?_
    refine hret _ _ _ _ _ _ dX10_aboutRest_67 rfl ?_ hO
    exact ⟨(by unfold q_rest; have z0 : (0 : Int32).toInt = 0 := rfl; have z1 : (-1 : Int32).toInt = -1 := rfl; split <;> first | rfl | (exact i32_eq.mpr (by omega)) | (exfalso; omega)), rfl⟩
  · refine lv_tableIn (tgt := 68) hx hb dX10_aboutRest_1 (by rw [c1]; decide) (by rw [c1]; decide) (by rw [c1]; rfl) (by decide) ?_
    refine lv_aload_n hx hb dX10_aboutRest_68 rfl (lv_at hl 0 rfl) ?_
    refine gf_RX10_76 (v := .ref (a 39)) C hO 0 cW_0 rfl dX10_aboutRest_69 ?_
    refine gf_RX10_353 (v := .int 0) C hO 39 cW_39 (congrArg (fun z : Int32 => some (Value.int z)) hI_39_6) dX10_aboutRest_72 ?_
    refine hret _ _ _ _ _ _ dX10_aboutRest_75 rfl ?_ hO
    exact ⟨(by unfold q_rest; have z0 : (0 : Int32).toInt = 0 := rfl; have z1 : (-1 : Int32).toInt = -1 := rfl; split <;> first | rfl | (exact i32_eq.mpr (by omega)) | (exfalso; omega)), rfl⟩
  · refine lv_tableIn (tgt := 76) hx hb dX10_aboutRest_1 (by rw [c1]; decide) (by rw [c1]; decide) (by rw [c1]; rfl) (by decide) ?_
    refine lv_aload_n hx hb dX10_aboutRest_76 rfl (lv_at hl 0 rfl) ?_
    refine gf_RX10_12 (v := .ref (a 1)) C hO 0 cW_0 rfl dX10_aboutRest_77 ?_
    refine gf_RX10_89 (v := .int 0) C hO 1 cW_1 (congrArg (fun z : Int32 => some (Value.int z)) hI_1_1) dX10_aboutRest_80 ?_
    refine hret _ _ _ _ _ _ dX10_aboutRest_83 rfl ?_ hO
    exact ⟨(by unfold q_rest; have z0 : (0 : Int32).toInt = 0 := rfl; have z1 : (-1 : Int32).toInt = -1 := rfl; split <;> first | rfl | (exact i32_eq.mpr (by omega)) | (exfalso; omega)), rfl⟩
  · refine lv_tableIn (tgt := 84) hx hb dX10_aboutRest_1 (by rw [c1]; decide) (by rw [c1]; decide) (by rw [c1]; rfl) (by decide) ?_
    refine lv_aload_n hx hb dX10_aboutRest_84 rfl (lv_at hl 0 rfl) ?_
    refine gf_RX10_37 (v := .ref (a 28)) C hO 0 cW_0 rfl dX10_aboutRest_85 ?_
    refine gf_RX10_101 (v := .ref (a 3)) C hO 28 cW_28 (congrArg (fun z : Nat => some (Value.ref z)) hR_0) dX10_aboutRest_88 ?_
    refine gf_RX10_356 (v := .ref (a 12)) C hO 3 cW_3 rfl dX10_aboutRest_91 ?_
    refine gf_RX10_360 (v := .int 0) C hO 12 cW_12 (congrArg (fun z : Int32 => some (Value.int z)) hI_12_4) dX10_aboutRest_94 ?_
    refine hret _ _ _ _ _ _ dX10_aboutRest_97 rfl ?_ hO
    exact ⟨(by unfold q_rest; have z0 : (0 : Int32).toInt = 0 := rfl; have z1 : (-1 : Int32).toInt = -1 := rfl; split <;> first | rfl | (exact i32_eq.mpr (by omega)) | (exfalso; omega)), rfl⟩
  · refine lv_tableIn (tgt := 98) hx hb dX10_aboutRest_1 (by rw [c1]; decide) (by rw [c1]; decide) (by rw [c1]; rfl) (by decide) ?_
    refine lv_aload_n hx hb dX10_aboutRest_98 rfl (lv_at hl 0 rfl) ?_
    refine gf_RX10_111 (v := .int 0) C hO 0 cW_0 (congrArg (fun z : Int32 => some (Value.int z)) hI_0_10) dX10_aboutRest_99 ?_
    refine hret _ _ _ _ _ _ dX10_aboutRest_102 rfl ?_ hO
    exact ⟨(by unfold q_rest; have z0 : (0 : Int32).toInt = 0 := rfl; have z1 : (-1 : Int32).toInt = -1 := rfl; split <;> first | rfl | (exact i32_eq.mpr (by omega)) | (exfalso; omega)), rfl⟩
theorem dX10_about_0 : decode cX10_about 0 = .ok (.iload_n 1, 1) := by decide +kernel
theorem dX10_about_1 : decode cX10_about 1 = .ok (.tableswitch 173 0 15 #[79, 90, 101, 112, 123, 133, 143, 153, 173, 173, 173, 173, 173, 173, 173, 163], 79) := by decide +kernel
theorem dX10_about_80 : decode cX10_about 80 = .ok (.aload_n 0, 1) := by decide +kernel
theorem dX10_about_81 : decode cX10_about 81 = .ok (.getfield 37, 3) := by decide +kernel
theorem dX10_about_84 : decode cX10_about 84 = .ok (.getfield 101, 3) := by decide +kernel
theorem dX10_about_87 : decode cX10_about 87 = .ok (.getfield 117, 3) := by decide +kernel
theorem dX10_about_90 : decode cX10_about 90 = .ok (.ireturn, 1) := by decide +kernel
theorem dX10_about_91 : decode cX10_about 91 = .ok (.aload_n 0, 1) := by decide +kernel
theorem dX10_about_92 : decode cX10_about 92 = .ok (.getfield 37, 3) := by decide +kernel
theorem dX10_about_95 : decode cX10_about 95 = .ok (.getfield 101, 3) := by decide +kernel
theorem dX10_about_98 : decode cX10_about 98 = .ok (.getfield 338, 3) := by decide +kernel
theorem dX10_about_101 : decode cX10_about 101 = .ok (.ireturn, 1) := by decide +kernel
theorem dX10_about_102 : decode cX10_about 102 = .ok (.aload_n 0, 1) := by decide +kernel
theorem dX10_about_103 : decode cX10_about 103 = .ok (.getfield 37, 3) := by decide +kernel
theorem dX10_about_106 : decode cX10_about 106 = .ok (.getfield 101, 3) := by decide +kernel
theorem dX10_about_109 : decode cX10_about 109 = .ok (.getfield 196, 3) := by decide +kernel
theorem dX10_about_112 : decode cX10_about 112 = .ok (.ireturn, 1) := by decide +kernel
theorem dX10_about_113 : decode cX10_about 113 = .ok (.aload_n 0, 1) := by decide +kernel
theorem dX10_about_114 : decode cX10_about 114 = .ok (.getfield 37, 3) := by decide +kernel
theorem dX10_about_117 : decode cX10_about 117 = .ok (.getfield 101, 3) := by decide +kernel
theorem dX10_about_120 : decode cX10_about 120 = .ok (.getfield 206, 3) := by decide +kernel
theorem dX10_about_123 : decode cX10_about 123 = .ok (.ireturn, 1) := by decide +kernel
theorem dX10_about_124 : decode cX10_about 124 = .ok (.aload_n 0, 1) := by decide +kernel
theorem dX10_about_125 : decode cX10_about 125 = .ok (.getfield 37, 3) := by decide +kernel
theorem dX10_about_128 : decode cX10_about 128 = .ok (.getfield 150, 3) := by decide +kernel
theorem dX10_about_131 : decode cX10_about 131 = .ok (.iconst 0, 1) := by decide +kernel
theorem dX10_about_132 : decode cX10_about 132 = .ok (.iaload, 1) := by decide +kernel
theorem dX10_about_133 : decode cX10_about 133 = .ok (.ireturn, 1) := by decide +kernel
theorem dX10_about_134 : decode cX10_about 134 = .ok (.aload_n 0, 1) := by decide +kernel
theorem dX10_about_135 : decode cX10_about 135 = .ok (.getfield 37, 3) := by decide +kernel
theorem dX10_about_138 : decode cX10_about 138 = .ok (.getfield 150, 3) := by decide +kernel
theorem dX10_about_141 : decode cX10_about 141 = .ok (.iconst 1, 1) := by decide +kernel
theorem dX10_about_142 : decode cX10_about 142 = .ok (.iaload, 1) := by decide +kernel
theorem dX10_about_143 : decode cX10_about 143 = .ok (.ireturn, 1) := by decide +kernel
theorem dX10_about_144 : decode cX10_about 144 = .ok (.aload_n 0, 1) := by decide +kernel
theorem dX10_about_145 : decode cX10_about 145 = .ok (.getfield 37, 3) := by decide +kernel
theorem dX10_about_148 : decode cX10_about 148 = .ok (.getfield 150, 3) := by decide +kernel
theorem dX10_about_151 : decode cX10_about 151 = .ok (.iconst 2, 1) := by decide +kernel
theorem dX10_about_152 : decode cX10_about 152 = .ok (.iaload, 1) := by decide +kernel
theorem dX10_about_153 : decode cX10_about 153 = .ok (.ireturn, 1) := by decide +kernel
theorem dX10_about_154 : decode cX10_about 154 = .ok (.aload_n 0, 1) := by decide +kernel
theorem dX10_about_155 : decode cX10_about 155 = .ok (.getfield 37, 3) := by decide +kernel
theorem dX10_about_158 : decode cX10_about 158 = .ok (.getfield 150, 3) := by decide +kernel
theorem dX10_about_161 : decode cX10_about 161 = .ok (.iconst 3, 1) := by decide +kernel
theorem dX10_about_162 : decode cX10_about 162 = .ok (.iaload, 1) := by decide +kernel
theorem dX10_about_163 : decode cX10_about 163 = .ok (.ireturn, 1) := by decide +kernel
theorem dX10_about_164 : decode cX10_about 164 = .ok (.aload_n 0, 1) := by decide +kernel
theorem dX10_about_165 : decode cX10_about 165 = .ok (.getfield 37, 3) := by decide +kernel
theorem dX10_about_168 : decode cX10_about 168 = .ok (.getfield 150, 3) := by decide +kernel
theorem dX10_about_171 : decode cX10_about 171 = .ok (.iconst 4, 1) := by decide +kernel
theorem dX10_about_172 : decode cX10_about 172 = .ok (.iaload, 1) := by decide +kernel
theorem dX10_about_173 : decode cX10_about 173 = .ok (.ireturn, 1) := by decide +kernel
theorem dX10_about_174 : decode cX10_about 174 = .ok (.aload_n 0, 1) := by decide +kernel
theorem dX10_about_175 : decode cX10_about 175 = .ok (.iload_n 1, 1) := by decide +kernel
theorem dX10_about_176 : decode cX10_about 176 = .ok (.invokevirtual 341, 3) := by decide +kernel
theorem dX10_about_179 : decode cX10_about 179 = .ok (.ireturn, 1) := by decide +kernel
theorem wd_1325 : (Cond.code ⟨"WebCourt", "about", "(I)I"⟩ prog_1_method_52_code (2 : Nat) (Option.some FieldType.int)) ∈ gtb := gtb_c6 16 (by decide +kernel) rfl
theorem wd_1326 : (Cond.methodLink "WebCourt" (341 : Nat) ⟨"WebCourt", "aboutRest", "(I)I"⟩) ∈ gtb := gtb_c6 17 (by decide +kernel) rfl
theorem wd_1328 : (Cond.instanceMethod ⟨"WebCourt", "aboutRest", "(I)I"⟩) ∈ gtb := gtb_c6 19 (by decide +kernel) rfl
theorem wd_42 : (Cond.selects "WebCourt" ⟨"WebCourt", "aboutRest", "(I)I"⟩ ⟨"WebCourt", "aboutRest", "(I)I"⟩) ∈ gtb := gtb_p 42 (by decide +kernel) rfl
theorem hd_yX10_aboutRest : yX10_aboutRest.cls = RX10 ∧ yX10_aboutRest.cls ≠ "java/lang/invoke/MethodHandle" ∧ yX10_aboutRest.cls ≠ "java/lang/invoke/VarHandle" ∧ (parseMethodDescriptor yX10_aboutRest.desc).map (fun d => d.parameters.length) = some 1 := by decide +kernel
theorem wd_271 : (Cond.fieldLink "WebCourt" (117 : Nat) "WebCourt$Web" "cases" "I") ∈ gtb := gtb_c1 162 (by decide +kernel) rfl
theorem gf_RX10_117 {p : Program} {l : Launch} {e : Env} {R : Room} {s : State} {m : MethodId} {args : Array Value} {below : List Frame} {meth : Method} {c : Code} {H : Heap} {locs : List Loc} {cells slots : Nat} {Q : State → Prop} {cc : ByteArray} {pc nL : Nat} {ls : Array Slot} {rest : List Value} {D : va_G} {cy : Nat → ClassId} {A : Nat → Prop} {ws : va_W} {b : Nat} {fs : List Value} {v : Value} (C : Cx p s m args c cc nL RX10 D cy A) (hO : Wo D A ws s.heap H locs) (q0 : Nat) (he : ws[q0]? = some (b, .inr (9, fs))) (hv : fs[12]? = some v) (hdg : decode cc pc = .ok (.getfield 117, 3)) (kk : W p l e R s m args below meth c H locs cells slots Q (F0 m (pc + 3) ls (v :: rest))) : W p l e R s m args below meth c H locs cells slots Q (F0 m pc ls (.ref b :: rest)) := gF (k := 12) C hO q0 he rfl inFX9 (by decide) wd_271 rfl hv hdg kk
theorem wd_255 : (Cond.fieldLink "WebCourt" (338 : Nat) "WebCourt$Web" "knots" "I") ∈ gtb := gtb_c1 146 (by decide +kernel) rfl
theorem gf_RX10_338 {p : Program} {l : Launch} {e : Env} {R : Room} {s : State} {m : MethodId} {args : Array Value} {below : List Frame} {meth : Method} {c : Code} {H : Heap} {locs : List Loc} {cells slots : Nat} {Q : State → Prop} {cc : ByteArray} {pc nL : Nat} {ls : Array Slot} {rest : List Value} {D : va_G} {cy : Nat → ClassId} {A : Nat → Prop} {ws : va_W} {b : Nat} {fs : List Value} {v : Value} (C : Cx p s m args c cc nL RX10 D cy A) (hO : Wo D A ws s.heap H locs) (q0 : Nat) (he : ws[q0]? = some (b, .inr (9, fs))) (hv : fs[9]? = some v) (hdg : decode cc pc = .ok (.getfield 338, 3)) (kk : W p l e R s m args below meth c H locs cells slots Q (F0 m (pc + 3) ls (v :: rest))) : W p l e R s m args below meth c H locs cells slots Q (F0 m pc ls (.ref b :: rest)) := gF (k := 9) C hO q0 he rfl inFX9 (by decide) wd_255 rfl hv hdg kk
set_option maxHeartbeats 4000000 in
set_option maxRecDepth 100000 in
theorem T_X10_about (l : Launch) (D : va_G) (cy : Nat → ClassId) (a : Nat → Nat) (u : St) (hA_29_0 : fA u 29 0 = (-1)) (hA_29_1 : fA u 29 1 = 0) (hA_29_2 : fA u 29 2 = 0) (hA_29_3 : fA u 29 3 = 0) (hA_29_4 : fA u 29 4 = 0) (hI_0_10 : fI u 0 10 = 0) (hI_1_1 : fI u 1 1 = 0) (hI_12_4 : fI u 12 4 = 0) (hI_3_10 : fI u 3 10 = 0) (hI_3_11 : fI u 3 11 = 0) (hI_3_12 : fI u 3 12 = 0) (hI_3_9 : fI u 3 9 = 0) (hI_30_2 : fI u 30 2 = 0) (hI_30_3 : fI u 30 3 = 0) (hI_39_5 : fI u 39 5 = 0) (hI_39_6 : fI u 39 6 = 0) (hR_0 : fR u 0 = a 3) (x1 : Int32)  : Mi l D cy (cW cy a) yX10_about (.code yX10_about cX10_about 2 (some .int)) (rmo 1 21) [.ref (a 0), .int x1] u (fun (r : Int32) (u' : St) => r = q_about x1 ∧ u' = u) := by
  refine Mi.of (own := RX10) rfl (by decide) (Nat.le_of_ble_eq_true rfl) ?_
  intro p e s m below meth c A Q ls C hret hO hl
  obtain ⟨hx, hb, hml, hown, ht, hK, hA⟩ := id C
  have hl : lv_has ls 2 [(0, .ref (a 0)), (1, .int x1)] := hl
  refine lv_iload_n hx hb dX10_about_0 rfl (lv_at hl 1 rfl) ?_
  have c1 : ((x1).toInt < 0 ∨ 15 < (x1).toInt) ∨ (x1).toInt = 0 ∨ (x1).toInt = 1 ∨ (x1).toInt = 2 ∨ (x1).toInt = 3 ∨ (x1).toInt = 4 ∨ (x1).toInt = 5 ∨ (x1).toInt = 6 ∨ (x1).toInt = 7 ∨ (x1).toInt = 8 ∨ (x1).toInt = 9 ∨ (x1).toInt = 10 ∨ (x1).toInt = 11 ∨ (x1).toInt = 12 ∨ (x1).toInt = 13 ∨ (x1).toInt = 14 ∨ (x1).toInt = 15 := by omega
  rcases c1 with c1 | c1 | c1 | c1 | c1 | c1 | c1 | c1 | c1 | c1 | c1 | c1 | c1 | c1 | c1 | c1 | c1
  · refine lv_tableOut (tgt := 174) hx hb dX10_about_1 (by rw [show x1.toInt = (x1).toInt from rfl]; exact c1) (by decide) ?_
    refine lv_aload_n hx hb dX10_about_174 rfl (lv_at hl 0 rfl) ?_
    refine lv_iload_n hx hb dX10_about_175 rfl (lv_at hl 1 rfl) ?_
    refine cVi (w := cW cy a) (As := [.int x1]) (rest := []) C hO (T_X10_aboutRest l D cy a _ (by exact hI_0_10) (by exact hI_1_1) (by exact hI_12_4) (by exact hI_30_2) (by exact hI_30_3) (by exact hI_39_5) (by exact hI_39_6) (by exact hR_0) (x1)) (cwV 1 ht (gV wd_1326 wd_1328 wd_42 wd_110 wd_1329) rfl rfl rfl hd_yX10_aboutRest ⟨Nat.le_of_ble_eq_true rfl, Nat.le_of_ble_eq_true rfl⟩) 0 rfl cW_0 rfl rfl hl.1 (Nat.le_of_ble_eq_true rfl) dX10_about_176 rfl ⟨Nat.zero_le _, Nat.zero_le _⟩ (fun r2 u3 H locs hp4 hO => ?_)
    obtain ⟨hr2, hu3⟩ := hp4
    rw [hu3] at hO
    refine hret _ _ _ _ _ _ dX10_about_179 rfl ?_ hO
    exact ⟨(by rw [hr2]; unfold q_rest q_about; split <;> split <;> first | rfl | (exfalso; omega)), rfl⟩
  · refine lv_tableIn (tgt := 80) hx hb dX10_about_1 (by rw [c1]; decide) (by rw [c1]; decide) (by rw [c1]; rfl) (by decide) ?_
    refine lv_aload_n hx hb dX10_about_80 rfl (lv_at hl 0 rfl) ?_
    refine gf_RX10_37 (v := .ref (a 28)) C hO 0 cW_0 rfl dX10_about_81 ?_
    refine gf_RX10_101 (v := .ref (a 3)) C hO 28 cW_28 (congrArg (fun z : Nat => some (Value.ref z)) hR_0) dX10_about_84 ?_
    refine gf_RX10_117 (v := .int 0) C hO 3 cW_3 (congrArg (fun z : Int32 => some (Value.int z)) hI_3_12) dX10_about_87 ?_
    refine hret _ _ _ _ _ _ dX10_about_90 rfl ?_ hO
    exact ⟨(by unfold q_about; have z0 : (0 : Int32).toInt = 0 := rfl; have z1 : (-1 : Int32).toInt = -1 := rfl; split <;> first | rfl | (exact i32_eq.mpr (by omega)) | (exfalso; omega)), rfl⟩
  · refine lv_tableIn (tgt := 91) hx hb dX10_about_1 (by rw [c1]; decide) (by rw [c1]; decide) (by rw [c1]; rfl) (by decide) ?_
    refine lv_aload_n hx hb dX10_about_91 rfl (lv_at hl 0 rfl) ?_
    refine gf_RX10_37 (v := .ref (a 28)) C hO 0 cW_0 rfl dX10_about_92 ?_
    refine gf_RX10_101 (v := .ref (a 3)) C hO 28 cW_28 (congrArg (fun z : Nat => some (Value.ref z)) hR_0) dX10_about_95 ?_
    refine gf_RX10_338 (v := .int 0) C hO 3 cW_3 (congrArg (fun z : Int32 => some (Value.int z)) hI_3_9) dX10_about_98 ?_
    refine hret _ _ _ _ _ _ dX10_about_101 rfl ?_ hO
    exact ⟨(by unfold q_about; have z0 : (0 : Int32).toInt = 0 := rfl; have z1 : (-1 : Int32).toInt = -1 := rfl; split <;> first | rfl | (exact i32_eq.mpr (by omega)) | (exfalso; omega)), rfl⟩
  · refine lv_tableIn (tgt := 102) hx hb dX10_about_1 (by rw [c1]; decide) (by rw [c1]; decide) (by rw [c1]; rfl) (by decide) ?_
    refine lv_aload_n hx hb dX10_about_102 rfl (lv_at hl 0 rfl) ?_
    refine gf_RX10_37 (v := .ref (a 28)) C hO 0 cW_0 rfl dX10_about_103 ?_
    refine gf_RX10_101 (v := .ref (a 3)) C hO 28 cW_28 (congrArg (fun z : Nat => some (Value.ref z)) hR_0) dX10_about_106 ?_
    refine gf_RX10_196 (v := .int 0) C hO 3 cW_3 (congrArg (fun z : Int32 => some (Value.int z)) hI_3_10) dX10_about_109 ?_
    refine hret _ _ _ _ _ _ dX10_about_112 rfl ?_ hO
    exact ⟨(by unfold q_about; have z0 : (0 : Int32).toInt = 0 := rfl; have z1 : (-1 : Int32).toInt = -1 := rfl; split <;> first | rfl | (exact i32_eq.mpr (by omega)) | (exfalso; omega)), rfl⟩
  · refine lv_tableIn (tgt := 113) hx hb dX10_about_1 (by rw [c1]; decide) (by rw [c1]; decide) (by rw [c1]; rfl) (by decide) ?_
    refine lv_aload_n hx hb dX10_about_113 rfl (lv_at hl 0 rfl) ?_
    refine gf_RX10_37 (v := .ref (a 28)) C hO 0 cW_0 rfl dX10_about_114 ?_
    refine gf_RX10_101 (v := .ref (a 3)) C hO 28 cW_28 (congrArg (fun z : Nat => some (Value.ref z)) hR_0) dX10_about_117 ?_
    refine gf_RX10_206 (v := .int 0) C hO 3 cW_3 (congrArg (fun z : Int32 => some (Value.int z)) hI_3_11) dX10_about_120 ?_
    refine hret _ _ _ _ _ _ dX10_about_123 rfl ?_ hO
    exact ⟨(by unfold q_about; have z0 : (0 : Int32).toInt = 0 := rfl; have z1 : (-1 : Int32).toInt = -1 := rfl; split <;> first | rfl | (exact i32_eq.mpr (by omega)) | (exfalso; omega)), rfl⟩
  · refine lv_tableIn (tgt := 124) hx hb dX10_about_1 (by rw [c1]; decide) (by rw [c1]; decide) (by rw [c1]; rfl) (by decide) ?_
    refine lv_aload_n hx hb dX10_about_124 rfl (lv_at hl 0 rfl) ?_
    refine gf_RX10_37 (v := .ref (a 28)) C hO 0 cW_0 rfl dX10_about_125 ?_
    refine gf_RX10_150 (v := .ref (a 29)) C hO 28 cW_28 rfl dX10_about_128 ?_
    refine lv_iconst (v := 0) hx hb dX10_about_131 (by decide) ?_
    refine aI C hO 29 cW_29 (i_in (X := 0) rfl (by omega) (by omega)) dX10_about_132 ?_
    refine tE (y := (-1)) hA_29_0 ?_
    refine hret _ _ _ _ _ _ dX10_about_133 rfl ?_ hO
    exact ⟨(by unfold q_about; have z0 : (0 : Int32).toInt = 0 := rfl; have z1 : (-1 : Int32).toInt = -1 := rfl; split <;> first | rfl | (exact i32_eq.mpr (by omega)) | (exfalso; omega)), rfl⟩
  · refine lv_tableIn (tgt := 134) hx hb dX10_about_1 (by rw [c1]; decide) (by rw [c1]; decide) (by rw [c1]; rfl) (by decide) ?_
    refine lv_aload_n hx hb dX10_about_134 rfl (lv_at hl 0 rfl) ?_
    refine gf_RX10_37 (v := .ref (a 28)) C hO 0 cW_0 rfl dX10_about_135 ?_
    refine gf_RX10_150 (v := .ref (a 29)) C hO 28 cW_28 rfl dX10_about_138 ?_
    refine lv_iconst (v := 1) hx hb dX10_about_141 (by decide) ?_
    refine aI C hO 29 cW_29 (i_in (X := 1) rfl (by omega) (by omega)) dX10_about_142 ?_
    refine tE (y := 0) hA_29_1 ?_
    refine hret _ _ _ _ _ _ dX10_about_143 rfl ?_ hO
    exact ⟨(by unfold q_about; have z0 : (0 : Int32).toInt = 0 := rfl; have z1 : (-1 : Int32).toInt = -1 := rfl; split <;> first | rfl | (exact i32_eq.mpr (by omega)) | (exfalso; omega)), rfl⟩
  · refine lv_tableIn (tgt := 144) hx hb dX10_about_1 (by rw [c1]; decide) (by rw [c1]; decide) (by rw [c1]; rfl) (by decide) ?_
    refine lv_aload_n hx hb dX10_about_144 rfl (lv_at hl 0 rfl) ?_
    refine gf_RX10_37 (v := .ref (a 28)) C hO 0 cW_0 rfl dX10_about_145 ?_
    refine gf_RX10_150 (v := .ref (a 29)) C hO 28 cW_28 rfl dX10_about_148 ?_
    refine lv_iconst (v := 2) hx hb dX10_about_151 (by decide) ?_
    refine aI C hO 29 cW_29 (i_in (X := 2) rfl (by omega) (by omega)) dX10_about_152 ?_
    refine tE (y := 0) hA_29_2 ?_
    refine hret _ _ _ _ _ _ dX10_about_153 rfl ?_ hO
    exact ⟨(by unfold q_about; have z0 : (0 : Int32).toInt = 0 := rfl; have z1 : (-1 : Int32).toInt = -1 := rfl; split <;> first | rfl | (exact i32_eq.mpr (by omega)) | (exfalso; omega)), rfl⟩
  · refine lv_tableIn (tgt := 154) hx hb dX10_about_1 (by rw [c1]; decide) (by rw [c1]; decide) (by rw [c1]; rfl) (by decide) ?_
    refine lv_aload_n hx hb dX10_about_154 rfl (lv_at hl 0 rfl) ?_
    refine gf_RX10_37 (v := .ref (a 28)) C hO 0 cW_0 rfl dX10_about_155 ?_
    refine gf_RX10_150 (v := .ref (a 29)) C hO 28 cW_28 rfl dX10_about_158 ?_
    refine lv_iconst (v := 3) hx hb dX10_about_161 (by decide) ?_
    refine aI C hO 29 cW_29 (i_in (X := 3) rfl (by omega) (by omega)) dX10_about_162 ?_
    refine tE (y := 0) hA_29_3 ?_
    refine hret _ _ _ _ _ _ dX10_about_163 rfl ?_ hO
    exact ⟨(by unfold q_about; have z0 : (0 : Int32).toInt = 0 := rfl; have z1 : (-1 : Int32).toInt = -1 := rfl; split <;> first | rfl | (exact i32_eq.mpr (by omega)) | (exfalso; omega)), rfl⟩
  · refine lv_tableIn (tgt := 174) hx hb dX10_about_1 (by rw [c1]; decide) (by rw [c1]; decide) (by rw [c1]; rfl) (by decide) ?_
    refine lv_aload_n hx hb dX10_about_174 rfl (lv_at hl 0 rfl) ?_
    refine lv_iload_n hx hb dX10_about_175 rfl (lv_at hl 1 rfl) ?_
    refine cVi (w := cW cy a) (As := [.int x1]) (rest := []) C hO (T_X10_aboutRest l D cy a _ (by exact hI_0_10) (by exact hI_1_1) (by exact hI_12_4) (by exact hI_30_2) (by exact hI_30_3) (by exact hI_39_5) (by exact hI_39_6) (by exact hR_0) (x1)) (cwV 1 ht (gV wd_1326 wd_1328 wd_42 wd_110 wd_1329) rfl rfl rfl hd_yX10_aboutRest ⟨Nat.le_of_ble_eq_true rfl, Nat.le_of_ble_eq_true rfl⟩) 0 rfl cW_0 rfl rfl hl.1 (Nat.le_of_ble_eq_true rfl) dX10_about_176 rfl ⟨Nat.zero_le _, Nat.zero_le _⟩ (fun r5 u6 H locs hp7 hO => ?_)
    obtain ⟨hr5, hu6⟩ := hp7
    rw [hu6] at hO
    refine hret _ _ _ _ _ _ dX10_about_179 rfl ?_ hO
    exact ⟨(by rw [hr5]; unfold q_rest q_about; split <;> split <;> first | rfl | (exfalso; omega)), rfl⟩
  · refine lv_tableIn (tgt := 174) hx hb dX10_about_1 (by rw [c1]; decide) (by rw [c1]; decide) (by rw [c1]; rfl) (by decide) ?_
    refine lv_aload_n hx hb dX10_about_174 rfl (lv_at hl 0 rfl) ?_
    refine lv_iload_n hx hb dX10_about_175 rfl (lv_at hl 1 rfl) ?_
    refine cVi (w := cW cy a) (As := [.int x1]) (rest := []) C hO (T_X10_aboutRest l D cy a _ (by exact hI_0_10) (by exact hI_1_1) (by exact hI_12_4) (by exact hI_30_2) (by exact hI_30_3) (by exact hI_39_5) (by exact hI_39_6) (by exact hR_0) (x1)) (cwV 1 ht (gV wd_1326 wd_1328 wd_42 wd_110 wd_1329) rfl rfl rfl hd_yX10_aboutRest ⟨Nat.le_of_ble_eq_true rfl, Nat.le_of_ble_eq_true rfl⟩) 0 rfl cW_0 rfl rfl hl.1 (Nat.le_of_ble_eq_true rfl) dX10_about_176 rfl ⟨Nat.zero_le _, Nat.zero_le _⟩ (fun r8 u9 H locs hp10 hO => ?_)
    obtain ⟨hr8, hu9⟩ := hp10
    rw [hu9] at hO
    refine hret _ _ _ _ _ _ dX10_about_179 rfl ?_ hO
    exact ⟨(by rw [hr8]; unfold q_rest q_about; split <;> split <;> first | rfl | (exfalso; omega)), rfl⟩
  · refine lv_tableIn (tgt := 174) hx hb dX10_about_1 (by rw [c1]; decide) (by rw [c1]; decide) (by rw [c1]; rfl) (by decide) ?_
    refine lv_aload_n hx hb dX10_about_174 rfl (lv_at hl 0 rfl) ?_
    refine lv_iload_n hx hb dX10_about_175 rfl (lv_at hl 1 rfl) ?_
    refine cVi (w := cW cy a) (As := [.int x1]) (rest := []) C hO (T_X10_aboutRest l D cy a _ (by exact hI_0_10) (by exact hI_1_1) (by exact hI_12_4) (by exact hI_30_2) (by exact hI_30_3) (by exact hI_39_5) (by exact hI_39_6) (by exact hR_0) (x1)) (cwV 1 ht (gV wd_1326 wd_1328 wd_42 wd_110 wd_1329) rfl rfl rfl hd_yX10_aboutRest ⟨Nat.le_of_ble_eq_true rfl, Nat.le_of_ble_eq_true rfl⟩) 0 rfl cW_0 rfl rfl hl.1 (Nat.le_of_ble_eq_true rfl) dX10_about_176 rfl ⟨Nat.zero_le _, Nat.zero_le _⟩ (fun r11 u12 H locs hp13 hO => ?_)
    obtain ⟨hr11, hu12⟩ := hp13
    rw [hu12] at hO
    refine hret _ _ _ _ _ _ dX10_about_179 rfl ?_ hO
    exact ⟨(by rw [hr11]; unfold q_rest q_about; split <;> split <;> first | rfl | (exfalso; omega)), rfl⟩
  · refine lv_tableIn (tgt := 174) hx hb dX10_about_1 (by rw [c1]; decide) (by rw [c1]; decide) (by rw [c1]; rfl) (by decide) ?_
    refine lv_aload_n hx hb dX10_about_174 rfl (lv_at hl 0 rfl) ?_
    refine lv_iload_n hx hb dX10_about_175 rfl (lv_at hl 1 rfl) ?_
    refine cVi (w := cW cy a) (As := [.int x1]) (rest := []) C hO (T_X10_aboutRest l D cy a _ (by exact hI_0_10) (by exact hI_1_1) (by exact hI_12_4) (by exact hI_30_2) (by exact hI_30_3) (by exact hI_39_5) (by exact hI_39_6) (by exact hR_0) (x1)) (cwV 1 ht (gV wd_1326 wd_1328 wd_42 wd_110 wd_1329) rfl rfl rfl hd_yX10_aboutRest ⟨Nat.le_of_ble_eq_true rfl, Nat.le_of_ble_eq_true rfl⟩) 0 rfl cW_0 rfl rfl hl.1 (Nat.le_of_ble_eq_true rfl) dX10_about_176 rfl ⟨Nat.zero_le _, Nat.zero_le _⟩ (fun r14 u15 H locs hp16 hO => ?_)
    obtain ⟨hr14, hu15⟩ := hp16
    rw [hu15] at hO
    refine hret _ _ _ _ _ _ dX10_about_179 rfl ?_ hO
    exact ⟨(by rw [hr14]; unfold q_rest q_about; split <;> split <;> first | rfl | (exfalso; omega)), rfl⟩
  · refine lv_tableIn (tgt := 174) hx hb dX10_about_1 (by rw [c1]; decide) (by rw [c1]; decide) (by rw [c1]; rfl) (by decide) ?_
    refine lv_aload_n hx hb dX10_about_174 rfl (lv_at hl 0 rfl) ?_
    refine lv_iload_n hx hb dX10_about_175 rfl (lv_at hl 1 rfl) ?_
    refine cVi (w := cW cy a) (As := [.int x1]) (rest := []) C hO (T_X10_aboutRest l D cy a _ (by exact hI_0_10) (by exact hI_1_1) (by exact hI_12_4) (by exact hI_30_2) (by exact hI_30_3) (by exact hI_39_5) (by exact hI_39_6) (by exact hR_0) (x1)) (cwV 1 ht (gV wd_1326 wd_1328 wd_42 wd_110 wd_1329) rfl rfl rfl hd_yX10_aboutRest ⟨Nat.le_of_ble_eq_true rfl, Nat.le_of_ble_eq_true rfl⟩) 0 rfl cW_0 rfl rfl hl.1 (Nat.le_of_ble_eq_true rfl) dX10_about_176 rfl ⟨Nat.zero_le _, Nat.zero_le _⟩ (fun r17 u18 H locs hp19 hO => ?_)
    obtain ⟨hr17, hu18⟩ := hp19
    rw [hu18] at hO
    refine hret _ _ _ _ _ _ dX10_about_179 rfl ?_ hO
    exact ⟨(by rw [hr17]; unfold q_rest q_about; split <;> split <;> first | rfl | (exfalso; omega)), rfl⟩
  · refine lv_tableIn (tgt := 174) hx hb dX10_about_1 (by rw [c1]; decide) (by rw [c1]; decide) (by rw [c1]; rfl) (by decide) ?_
    refine lv_aload_n hx hb dX10_about_174 rfl (lv_at hl 0 rfl) ?_
    refine lv_iload_n hx hb dX10_about_175 rfl (lv_at hl 1 rfl) ?_
    refine cVi (w := cW cy a) (As := [.int x1]) (rest := []) C hO (T_X10_aboutRest l D cy a _ (by exact hI_0_10) (by exact hI_1_1) (by exact hI_12_4) (by exact hI_30_2) (by exact hI_30_3) (by exact hI_39_5) (by exact hI_39_6) (by exact hR_0) (x1)) (cwV 1 ht (gV wd_1326 wd_1328 wd_42 wd_110 wd_1329) rfl rfl rfl hd_yX10_aboutRest ⟨Nat.le_of_ble_eq_true rfl, Nat.le_of_ble_eq_true rfl⟩) 0 rfl cW_0 rfl rfl hl.1 (Nat.le_of_ble_eq_true rfl) dX10_about_176 rfl ⟨Nat.zero_le _, Nat.zero_le _⟩ (fun r20 u21 H locs hp22 hO => ?_)
    obtain ⟨hr20, hu21⟩ := hp22
    rw [hu21] at hO
    refine hret _ _ _ _ _ _ dX10_about_179 rfl ?_ hO
    exact ⟨(by rw [hr20]; unfold q_rest q_about; split <;> split <;> first | rfl | (exfalso; omega)), rfl⟩
  · refine lv_tableIn (tgt := 174) hx hb dX10_about_1 (by rw [c1]; decide) (by rw [c1]; decide) (by rw [c1]; rfl) (by decide) ?_
    refine lv_aload_n hx hb dX10_about_174 rfl (lv_at hl 0 rfl) ?_
    refine lv_iload_n hx hb dX10_about_175 rfl (lv_at hl 1 rfl) ?_
    refine cVi (w := cW cy a) (As := [.int x1]) (rest := []) C hO (T_X10_aboutRest l D cy a _ (by exact hI_0_10) (by exact hI_1_1) (by exact hI_12_4) (by exact hI_30_2) (by exact hI_30_3) (by exact hI_39_5) (by exact hI_39_6) (by exact hR_0) (x1)) (cwV 1 ht (gV wd_1326 wd_1328 wd_42 wd_110 wd_1329) rfl rfl rfl hd_yX10_aboutRest ⟨Nat.le_of_ble_eq_true rfl, Nat.le_of_ble_eq_true rfl⟩) 0 rfl cW_0 rfl rfl hl.1 (Nat.le_of_ble_eq_true rfl) dX10_about_176 rfl ⟨Nat.zero_le _, Nat.zero_le _⟩ (fun r23 u24 H locs hp25 hO => ?_)
    obtain ⟨hr23, hu24⟩ := hp25
    rw [hu24] at hO
    refine hret _ _ _ _ _ _ dX10_about_179 rfl ?_ hO
    exact ⟨(by rw [hr23]; unfold q_rest q_about; split <;> split <;> first | rfl | (exfalso; omega)), rfl⟩
  · refine lv_tableIn (tgt := 164) hx hb dX10_about_1 (by rw [c1]; decide) (by rw [c1]; decide) (by rw [c1]; rfl) (by decide) ?_
    refine lv_aload_n hx hb dX10_about_164 rfl (lv_at hl 0 rfl) ?_
    refine gf_RX10_37 (v := .ref (a 28)) C hO 0 cW_0 rfl dX10_about_165 ?_
    refine gf_RX10_150 (v := .ref (a 29)) C hO 28 cW_28 rfl dX10_about_168 ?_
    refine lv_iconst (v := 4) hx hb dX10_about_171 (by decide) ?_
    refine aI C hO 29 cW_29 (i_in (X := 4) rfl (by omega) (by omega)) dX10_about_172 ?_
    refine tE (y := 0) hA_29_4 ?_
    refine hret _ _ _ _ _ _ dX10_about_173 rfl ?_ hO
    exact ⟨(by unfold q_about; have z0 : (0 : Int32).toInt = 0 := rfl; have z1 : (-1 : Int32).toInt = -1 := rfl; split <;> first | rfl | (exact i32_eq.mpr (by omega)) | (exfalso; omega)), rfl⟩
end
section
theorem dX8_shortenOver_0 : decode cX8_shortenOver 0 = .ok (.iconst 0, 1) := by decide +kernel
theorem dX8_shortenOver_1 : decode cX8_shortenOver 1 = .ok (.istore_n 2, 1) := by decide +kernel
theorem dX8_shortenOver_2 : decode cX8_shortenOver 2 = .ok (.iload_n 2, 1) := by decide +kernel
theorem dX8_shortenOver_3 : decode cX8_shortenOver 3 = .ok (.bipush 8, 2) := by decide +kernel
theorem dX8_shortenOver_5 : decode cX8_shortenOver 5 = .ok (.if_icmp .ge 77, 3) := by decide +kernel
theorem dX8_shortenOver_8 : decode cX8_shortenOver 8 = .ok (.iconst 0, 1) := by decide +kernel
theorem dX8_shortenOver_9 : decode cX8_shortenOver 9 = .ok (.istore_n 3, 1) := by decide +kernel
theorem dX8_shortenOver_10 : decode cX8_shortenOver 10 = .ok (.iload_n 3, 1) := by decide +kernel
theorem dX8_shortenOver_11 : decode cX8_shortenOver 11 = .ok (.bipush 8, 2) := by decide +kernel
theorem dX8_shortenOver_13 : decode cX8_shortenOver 13 = .ok (.if_icmp .ge 63, 3) := by decide +kernel
theorem dX8_shortenOver_16 : decode cX8_shortenOver 16 = .ok (.aload_n 0, 1) := by decide +kernel
theorem dX8_shortenOver_17 : decode cX8_shortenOver 17 = .ok (.getfield 9, 3) := by decide +kernel
theorem dX8_shortenOver_20 : decode cX8_shortenOver 20 = .ok (.iload_n 2, 1) := by decide +kernel
theorem dX8_shortenOver_21 : decode cX8_shortenOver 21 = .ok (.bipush 8, 2) := by decide +kernel
theorem dX8_shortenOver_23 : decode cX8_shortenOver 23 = .ok (.imul, 1) := by decide +kernel
theorem dX8_shortenOver_24 : decode cX8_shortenOver 24 = .ok (.iload_n 1, 1) := by decide +kernel
theorem dX8_shortenOver_25 : decode cX8_shortenOver 25 = .ok (.iadd, 1) := by decide +kernel
theorem dX8_shortenOver_26 : decode cX8_shortenOver 26 = .ok (.iaload, 1) := by decide +kernel
theorem dX8_shortenOver_27 : decode cX8_shortenOver 27 = .ok (.aload_n 0, 1) := by decide +kernel
theorem dX8_shortenOver_28 : decode cX8_shortenOver 28 = .ok (.getfield 9, 3) := by decide +kernel
theorem dX8_shortenOver_31 : decode cX8_shortenOver 31 = .ok (.iload_n 1, 1) := by decide +kernel
theorem dX8_shortenOver_32 : decode cX8_shortenOver 32 = .ok (.bipush 8, 2) := by decide +kernel
theorem dX8_shortenOver_34 : decode cX8_shortenOver 34 = .ok (.imul, 1) := by decide +kernel
theorem dX8_shortenOver_35 : decode cX8_shortenOver 35 = .ok (.iload_n 3, 1) := by decide +kernel
theorem dX8_shortenOver_36 : decode cX8_shortenOver 36 = .ok (.iadd, 1) := by decide +kernel
theorem dX8_shortenOver_37 : decode cX8_shortenOver 37 = .ok (.iaload, 1) := by decide +kernel
theorem dX8_shortenOver_38 : decode cX8_shortenOver 38 = .ok (.iadd, 1) := by decide +kernel
theorem dX8_shortenOver_39 : decode cX8_shortenOver 39 = .ok (.istore 4, 2) := by decide +kernel
theorem dX8_shortenOver_41 : decode cX8_shortenOver 41 = .ok (.iload 4, 2) := by decide +kernel
theorem dX8_shortenOver_43 : decode cX8_shortenOver 43 = .ok (.aload_n 0, 1) := by decide +kernel
theorem dX8_shortenOver_44 : decode cX8_shortenOver 44 = .ok (.getfield 9, 3) := by decide +kernel
theorem dX8_shortenOver_47 : decode cX8_shortenOver 47 = .ok (.iload_n 2, 1) := by decide +kernel
theorem dX8_shortenOver_48 : decode cX8_shortenOver 48 = .ok (.bipush 8, 2) := by decide +kernel
theorem dX8_shortenOver_50 : decode cX8_shortenOver 50 = .ok (.imul, 1) := by decide +kernel
theorem dX8_shortenOver_51 : decode cX8_shortenOver 51 = .ok (.iload_n 3, 1) := by decide +kernel
theorem dX8_shortenOver_52 : decode cX8_shortenOver 52 = .ok (.iadd, 1) := by decide +kernel
theorem dX8_shortenOver_53 : decode cX8_shortenOver 53 = .ok (.iaload, 1) := by decide +kernel
theorem dX8_shortenOver_54 : decode cX8_shortenOver 54 = .ok (.if_icmp .ge 16, 3) := by decide +kernel
theorem dX8_shortenOver_57 : decode cX8_shortenOver 57 = .ok (.aload_n 0, 1) := by decide +kernel
theorem dX8_shortenOver_58 : decode cX8_shortenOver 58 = .ok (.getfield 9, 3) := by decide +kernel
theorem dX8_shortenOver_61 : decode cX8_shortenOver 61 = .ok (.iload_n 2, 1) := by decide +kernel
theorem dX8_shortenOver_62 : decode cX8_shortenOver 62 = .ok (.bipush 8, 2) := by decide +kernel
theorem dX8_shortenOver_64 : decode cX8_shortenOver 64 = .ok (.imul, 1) := by decide +kernel
theorem dX8_shortenOver_65 : decode cX8_shortenOver 65 = .ok (.iload_n 3, 1) := by decide +kernel
theorem dX8_shortenOver_66 : decode cX8_shortenOver 66 = .ok (.iadd, 1) := by decide +kernel
theorem dX8_shortenOver_67 : decode cX8_shortenOver 67 = .ok (.iload 4, 2) := by decide +kernel
theorem dX8_shortenOver_69 : decode cX8_shortenOver 69 = .ok (.iastore, 1) := by decide +kernel
theorem dX8_shortenOver_70 : decode cX8_shortenOver 70 = .ok (.iinc 3 1, 3) := by decide +kernel
theorem dX8_shortenOver_73 : decode cX8_shortenOver 73 = .ok (.goto (-63), 3) := by decide +kernel
theorem dX8_shortenOver_76 : decode cX8_shortenOver 76 = .ok (.iinc 2 1, 3) := by decide +kernel
theorem dX8_shortenOver_79 : decode cX8_shortenOver 79 = .ok (.goto (-77), 3) := by decide +kernel
theorem dX8_shortenOver_82 : decode cX8_shortenOver 82 = .ok (.return_, 1) := by decide +kernel
theorem wd_1016 : (Cond.code ⟨"WebCourt$Ways", "shortenOver", "(I)V"⟩ prog_10_method_4_code (5 : Nat) (Option.none : Option FieldType)) ∈ gtb := gtb_c4 187 (by decide +kernel) rfl
theorem wd_398 : (Cond.fieldLink "WebCourt$Ways" (9 : Nat) "WebCourt$Ways" "between" "[I") ∈ gtb := gtb_c2 49 (by decide +kernel) rfl
theorem gf_RX8_9 {p : Program} {l : Launch} {e : Env} {R : Room} {s : State} {m : MethodId} {args : Array Value} {below : List Frame} {meth : Method} {c : Code} {H : Heap} {locs : List Loc} {cells slots : Nat} {Q : State → Prop} {cc : ByteArray} {pc nL : Nat} {ls : Array Slot} {rest : List Value} {D : va_G} {cy : Nat → ClassId} {A : Nat → Prop} {ws : va_W} {b : Nat} {fs : List Value} {v : Value} (C : Cx p s m args c cc nL RX8 D cy A) (hO : Wo D A ws s.heap H locs) (q0 : Nat) (he : ws[q0]? = some (b, .inr (8, fs))) (hv : fs[1]? = some v) (hdg : decode cc pc = .ok (.getfield 9, 3)) (kk : W p l e R s m args below meth c H locs cells slots Q (F0 m (pc + 3) ls (v :: rest))) : W p l e R s m args below meth c H locs cells slots Q (F0 m pc ls (.ref b :: rest)) := gF (k := 1) C hO q0 he rfl inFX8 (by decide) wd_398 rfl hv hdg kk
set_option maxHeartbeats 4000000 in
set_option maxRecDepth 100000 in
theorem T_X8_shortenOver (l : Launch) (D : va_G) (cy : Nat → ClassId) (a : Nat → Nat) (u : St) (hI_3_12 : fI u 3 12 = 0) (hR_0 : fR u 0 = a 3) (x1 : Int32) (hov : 0 ≤ x1.toInt ∧ x1.toInt ≤ 7) : Mv l D cy (cW cy a) yX8_shortenOver (.code yX8_shortenOver cX8_shortenOver 5 none) (rmo 0 0) [.ref (a 32), .int x1] u (fun (u' : St) => fR u' 0 = a 3 ∧ fI u' 3 12 = 0) := by
  refine Mv.of (own := RX8) rfl (by decide) (Nat.le_of_ble_eq_true rfl) ?_
  intro p e s m below meth c A Q ls C hret hO hl
  obtain ⟨hx, hb, hml, hown, ht, hK, hA⟩ := id C
  have hl : lv_has ls 5 [(0, .ref (a 32)), (1, .int x1)] := hl
  refine lv_iconst (v := 0) hx hb dX8_shortenOver_0 (by decide) ?_
  refine lv_istore_n (lv' := [(2, .int 0), (0, .ref (a 32)), (1, .int x1)]) hx hb dX8_shortenOver_1 rfl hl (by decide) rfl (fun ls hl => ?_)
  have LP_2_u1 : ∀ (n : Nat) (u1 : St) (H : Heap) (locs : List Loc) (ls : Array Slot) (i_1 : Int32), Wo D A (cW cy a u1) s.heap H locs → lv_has ls 5 [(2, .int i_1), (0, .ref (a 32)), (1, .int x1)] → fI u1 3 12 = 0 → fR u1 0 = a 3 → 0 ≤ i_1.toInt ∧ i_1.toInt ≤ 8 → 8 - i_1.toInt < (n : Int) → W p l e (rmo 0 0) s m [.ref (a 32), .int x1].toArray below meth c H locs 0 0 Q (F0 m 2 ls []) := by
    intro n
    induction n with
    | zero =>
      intro u1 H locs ls i_1 hO hl hI_3_12_u1 hR_0_u1 iv0_u1 hm_u1
      exact absurd hm_u1 (by omega)
    | succ n ih_u1 =>
      intro u1 H locs ls i_1 hO hl hI_3_12_u1 hR_0_u1 iv0_u1 hm_u1
      refine lv_iload_n hx hb dX8_shortenOver_2 rfl (lv_at hl 0 rfl) ?_
      refine lv_bipush (v := 8) hx hb dX8_shortenOver_3 (by decide) ?_
      refine cs_ge (tgt := 82) (X := (i_1).toInt) (Y := 8) hx hb dX8_shortenOver_5 (by decide) rfl rfl (fun c3 => ?_) (fun c3 => ?_)
      · refine hret _ _ _ _ _ dX8_shortenOver_82 ?_ hO
        exact ⟨hR_0_u1, hI_3_12_u1⟩
      · refine lv_iconst (v := 0) hx hb dX8_shortenOver_8 (by decide) ?_
        refine lv_istore_n (lv' := [(3, .int 0), (2, .int i_1), (0, .ref (a 32)), (1, .int x1)]) hx hb dX8_shortenOver_9 rfl hl (by decide) rfl (fun ls hl => ?_)
        have LP_10_u4 : ∀ (n : Nat) (u4 : St) (H : Heap) (locs : List Loc) (ls : Array Slot) (j_4 : Int32), Wo D A (cW cy a u4) s.heap H locs → lv_has ls 5 [(3, .int j_4), (2, .int i_1), (0, .ref (a 32)), (1, .int x1)] → fI u4 3 12 = 0 → fR u4 0 = a 3 → 0 ≤ j_4.toInt ∧ j_4.toInt ≤ 8 → 8 - j_4.toInt < (n : Int) → W p l e (rmo 0 0) s m [.ref (a 32), .int x1].toArray below meth c H locs 0 0 Q (F0 m 10 ls []) := by
          intro n
          induction n with
          | zero =>
            intro u4 H locs ls j_4 hO hl hI_3_12_u4 hR_0_u4 iv0_u4 hm_u4
            exact absurd hm_u4 (by omega)
          | succ n ih_u4 =>
            intro u4 H locs ls j_4 hO hl hI_3_12_u4 hR_0_u4 iv0_u4 hm_u4
            refine lv_iload_n hx hb dX8_shortenOver_10 rfl (lv_at hl 0 rfl) ?_
            refine lv_bipush (v := 8) hx hb dX8_shortenOver_11 (by decide) ?_
            refine cs_ge (tgt := 76) (X := (j_4).toInt) (Y := 8) hx hb dX8_shortenOver_13 (by decide) rfl rfl (fun c6 => ?_) (fun c6 => ?_)
            · have e7 : ((i_1 + 1)).toInt = (i_1).toInt + 1 := i_add rfl rfl (by omega)
              refine lv_iinc (v := (i_1 + 1)) (lv' := [(2, .int (i_1 + 1)), (3, .int j_4), (0, .ref (a 32)), (1, .int x1)]) hx hb dX8_shortenOver_76 hl (k := 1) rfl rfl (by decide) rfl (fun ls hl => ?_)
              refine lv_goto (tgt := 2) hx hb dX8_shortenOver_79 (by decide) ?_
              exact ih_u1 _ _ _ _ ((i_1 + 1)) hO (lv_sub hl [0, 2, 3] rfl) (by exact hI_3_12_u4) (by exact hR_0_u4) (by first | decide | omega) (by first | decide | omega)
            · refine lv_aload_n hx hb dX8_shortenOver_16 rfl (lv_at hl 2 rfl) ?_
              refine gf_RX8_9 (v := .ref (a 33)) C hO 32 cW_32 rfl dX8_shortenOver_17 ?_
              refine lv_iload_n hx hb dX8_shortenOver_20 rfl (lv_at hl 1 rfl) ?_
              refine lv_bipush (v := 8) hx hb dX8_shortenOver_21 (by decide) ?_
              have e8 : ((i_1 * 8)).toInt = (i_1).toInt * 8 := i_mul rfl rfl (by omega)
              refine lv_imul hx hb dX8_shortenOver_23 ?_
              refine lv_iload_n hx hb dX8_shortenOver_24 rfl (lv_at hl 3 rfl) ?_
              have e9 : (((i_1 * 8) + x1)).toInt = ((i_1).toInt * 8) + (x1).toInt := i_add e8 rfl (by omega)
              refine lv_iadd hx hb dX8_shortenOver_25 ?_
              refine aI C hO 33 cW_33 (i_in (X := (((i_1).toInt * 8) + (x1).toInt)) e9 (by omega) (by omega)) dX8_shortenOver_26 ?_
              refine lv_topi (fun w10 ew10 => ?_)
              refine lv_aload_n hx hb dX8_shortenOver_27 rfl (lv_at hl 2 rfl) ?_
              refine gf_RX8_9 (v := .ref (a 33)) C hO 32 cW_32 rfl dX8_shortenOver_28 ?_
              refine lv_iload_n hx hb dX8_shortenOver_31 rfl (lv_at hl 3 rfl) ?_
              refine lv_bipush (v := 8) hx hb dX8_shortenOver_32 (by decide) ?_
              have e11 : ((x1 * 8)).toInt = (x1).toInt * 8 := i_mul rfl rfl (by omega)
              refine lv_imul hx hb dX8_shortenOver_34 ?_
              refine lv_iload_n hx hb dX8_shortenOver_35 rfl (lv_at hl 0 rfl) ?_
              have e12 : (((x1 * 8) + j_4)).toInt = ((x1).toInt * 8) + (j_4).toInt := i_add e11 rfl (by omega)
              refine lv_iadd hx hb dX8_shortenOver_36 ?_
              refine aI C hO 33 cW_33 (i_in (X := (((x1).toInt * 8) + (j_4).toInt)) e12 (by omega) (by omega)) dX8_shortenOver_37 ?_
              refine lv_topi (fun w13 ew13 => ?_)
              refine lv_iadd hx hb dX8_shortenOver_38 ?_
              refine lv_istore (lv' := [(4, .int (w10 + w13)), (3, .int j_4), (2, .int i_1), (0, .ref (a 32)), (1, .int x1)]) hx hb dX8_shortenOver_39 hl (by decide) rfl (fun ls hl => ?_)
              refine lv_iload hx hb dX8_shortenOver_41 (lv_at hl 0 rfl) ?_
              refine lv_aload_n hx hb dX8_shortenOver_43 rfl (lv_at hl 3 rfl) ?_
              refine gf_RX8_9 (v := .ref (a 33)) C hO 32 cW_32 rfl dX8_shortenOver_44 ?_
              refine lv_iload_n hx hb dX8_shortenOver_47 rfl (lv_at hl 2 rfl) ?_
              refine lv_bipush (v := 8) hx hb dX8_shortenOver_48 (by decide) ?_
              have e14 : ((i_1 * 8)).toInt = (i_1).toInt * 8 := i_mul rfl rfl (by omega)
              refine lv_imul hx hb dX8_shortenOver_50 ?_
              refine lv_iload_n hx hb dX8_shortenOver_51 rfl (lv_at hl 1 rfl) ?_
              have e15 : (((i_1 * 8) + j_4)).toInt = ((i_1).toInt * 8) + (j_4).toInt := i_add e14 rfl (by omega)
              refine lv_iadd hx hb dX8_shortenOver_52 ?_
              refine aI C hO 33 cW_33 (i_in (X := (((i_1).toInt * 8) + (j_4).toInt)) e15 (by omega) (by omega)) dX8_shortenOver_53 ?_
              refine lv_topi (fun w16 ew16 => ?_)
              refine cs_ge (tgt := 70) (X := ((w10 + w13)).toInt) (Y := (w16).toInt) hx hb dX8_shortenOver_54 (by decide) rfl rfl (fun c17 => ?_) (fun c17 => ?_)
              · have e18 : ((j_4 + 1)).toInt = (j_4).toInt + 1 := i_add rfl rfl (by omega)
                refine lv_iinc (v := (j_4 + 1)) (lv' := [(3, .int (j_4 + 1)), (4, .int (w10 + w13)), (2, .int i_1), (0, .ref (a 32)), (1, .int x1)]) hx hb dX8_shortenOver_70 hl (k := 1) rfl rfl (by decide) rfl (fun ls hl => ?_)
                refine lv_goto (tgt := 10) hx hb dX8_shortenOver_73 (by decide) ?_
                exact ih_u4 _ _ _ _ ((j_4 + 1)) hO (lv_sub hl [0, 2, 3, 4] rfl) (by exact hI_3_12_u4) (by exact hR_0_u4) (by first | decide | omega) (by first | decide | omega)
              · refine lv_aload_n hx hb dX8_shortenOver_57 rfl (lv_at hl 3 rfl) ?_
                refine gf_RX8_9 (v := .ref (a 33)) C hO 32 cW_32 rfl dX8_shortenOver_58 ?_
                refine lv_iload_n hx hb dX8_shortenOver_61 rfl (lv_at hl 2 rfl) ?_
                refine lv_bipush (v := 8) hx hb dX8_shortenOver_62 (by decide) ?_
                have e19 : ((i_1 * 8)).toInt = (i_1).toInt * 8 := i_mul rfl rfl (by omega)
                refine lv_imul hx hb dX8_shortenOver_64 ?_
                refine lv_iload_n hx hb dX8_shortenOver_65 rfl (lv_at hl 1 rfl) ?_
                have e20 : (((i_1 * 8) + j_4)).toInt = ((i_1).toInt * 8) + (j_4).toInt := i_add e19 rfl (by omega)
                refine lv_iadd hx hb dX8_shortenOver_66 ?_
                refine lv_iload hx hb dX8_shortenOver_67 (lv_at hl 0 rfl) ?_
                refine aIs C hO 33 cW_33 (i_in (X := (((i_1).toInt * 8) + (j_4).toInt)) e20 (by omega) (by omega)) cW_s33 dX8_shortenOver_69 (fun H locs hO => ?_)
                have e21 : ((j_4 + 1)).toInt = (j_4).toInt + 1 := i_add rfl rfl (by omega)
                refine lv_iinc (v := (j_4 + 1)) (lv' := [(3, .int (j_4 + 1)), (4, .int (w10 + w13)), (2, .int i_1), (0, .ref (a 32)), (1, .int x1)]) hx hb dX8_shortenOver_70 hl (k := 1) rfl rfl (by decide) rfl (fun ls hl => ?_)
                refine lv_goto (tgt := 10) hx hb dX8_shortenOver_73 (by decide) ?_
                exact ih_u4 _ _ _ _ ((j_4 + 1)) hO (lv_sub hl [0, 2, 3, 4] rfl) (by exact hI_3_12_u4) (by exact hR_0_u4) (by first | decide | omega) (by first | decide | omega)
        exact LP_10_u4 2000 _ _ _ _ (0) hO (lv_sub hl [0, 1, 2, 3] rfl) (by exact hI_3_12_u1) (by exact hR_0_u1) (by first | decide | omega) (by first | decide | omega)
  exact LP_2_u1 2000 _ _ _ _ (0) hO (lv_sub hl [0, 1, 2] rfl) (by exact hI_3_12) (by exact hR_0) (by first | decide | omega) (by first | decide | omega)
theorem dX8_measure_0 : decode cX8_measure 0 = .ok (.iconst 0, 1) := by decide +kernel
theorem dX8_measure_1 : decode cX8_measure 1 = .ok (.istore_n 1, 1) := by decide +kernel
theorem dX8_measure_2 : decode cX8_measure 2 = .ok (.iload_n 1, 1) := by decide +kernel
theorem dX8_measure_3 : decode cX8_measure 3 = .ok (.bipush 8, 2) := by decide +kernel
theorem dX8_measure_5 : decode cX8_measure 5 = .ok (.if_icmp .ge 72, 3) := by decide +kernel
theorem dX8_measure_8 : decode cX8_measure 8 = .ok (.aload_n 0, 1) := by decide +kernel
theorem dX8_measure_9 : decode cX8_measure 9 = .ok (.getfield 15, 3) := by decide +kernel
theorem dX8_measure_12 : decode cX8_measure 12 = .ok (.iload_n 1, 1) := by decide +kernel
theorem dX8_measure_13 : decode cX8_measure 13 = .ok (.iconst 0, 1) := by decide +kernel
theorem dX8_measure_14 : decode cX8_measure 14 = .ok (.invokevirtual 25, 3) := by decide +kernel
theorem dX8_measure_17 : decode cX8_measure 17 = .ok (.istore_n 2, 1) := by decide +kernel
theorem dX8_measure_18 : decode cX8_measure 18 = .ok (.iconst 0, 1) := by decide +kernel
theorem dX8_measure_19 : decode cX8_measure 19 = .ok (.istore_n 3, 1) := by decide +kernel
theorem dX8_measure_20 : decode cX8_measure 20 = .ok (.iload_n 3, 1) := by decide +kernel
theorem dX8_measure_21 : decode cX8_measure 21 = .ok (.bipush 8, 2) := by decide +kernel
theorem dX8_measure_23 : decode cX8_measure 23 = .ok (.if_icmp .ge 48, 3) := by decide +kernel
theorem dX8_measure_26 : decode cX8_measure 26 = .ok (.iload_n 2, 1) := by decide +kernel
theorem dX8_measure_27 : decode cX8_measure 27 = .ok (.iload_n 3, 1) := by decide +kernel
theorem dX8_measure_28 : decode cX8_measure 28 = .ok (.ishr, 1) := by decide +kernel
theorem dX8_measure_29 : decode cX8_measure 29 = .ok (.iconst 1, 1) := by decide +kernel
theorem dX8_measure_30 : decode cX8_measure 30 = .ok (.iand, 1) := by decide +kernel
theorem dX8_measure_31 : decode cX8_measure 31 = .ok (.ifCond .eq 7, 3) := by decide +kernel
theorem dX8_measure_34 : decode cX8_measure 34 = .ok (.iconst 1, 1) := by decide +kernel
theorem dX8_measure_35 : decode cX8_measure 35 = .ok (.goto 6, 3) := by decide +kernel
theorem dX8_measure_38 : decode cX8_measure 38 = .ok (.sipush 1000, 3) := by decide +kernel
theorem dX8_measure_41 : decode cX8_measure 41 = .ok (.istore 4, 2) := by decide +kernel
theorem dX8_measure_43 : decode cX8_measure 43 = .ok (.aload_n 0, 1) := by decide +kernel
theorem dX8_measure_44 : decode cX8_measure 44 = .ok (.getfield 9, 3) := by decide +kernel
theorem dX8_measure_47 : decode cX8_measure 47 = .ok (.iload_n 1, 1) := by decide +kernel
theorem dX8_measure_48 : decode cX8_measure 48 = .ok (.bipush 8, 2) := by decide +kernel
theorem dX8_measure_50 : decode cX8_measure 50 = .ok (.imul, 1) := by decide +kernel
theorem dX8_measure_51 : decode cX8_measure 51 = .ok (.iload_n 3, 1) := by decide +kernel
theorem dX8_measure_52 : decode cX8_measure 52 = .ok (.iadd, 1) := by decide +kernel
theorem dX8_measure_53 : decode cX8_measure 53 = .ok (.iload_n 1, 1) := by decide +kernel
theorem dX8_measure_54 : decode cX8_measure 54 = .ok (.iload_n 3, 1) := by decide +kernel
theorem dX8_measure_55 : decode cX8_measure 55 = .ok (.if_icmp .ne 7, 3) := by decide +kernel
theorem dX8_measure_58 : decode cX8_measure 58 = .ok (.iconst 0, 1) := by decide +kernel
theorem dX8_measure_59 : decode cX8_measure 59 = .ok (.goto 5, 3) := by decide +kernel
theorem dX8_measure_62 : decode cX8_measure 62 = .ok (.iload 4, 2) := by decide +kernel
theorem dX8_measure_64 : decode cX8_measure 64 = .ok (.iastore, 1) := by decide +kernel
theorem dX8_measure_65 : decode cX8_measure 65 = .ok (.iinc 3 1, 3) := by decide +kernel
theorem dX8_measure_68 : decode cX8_measure 68 = .ok (.goto (-48), 3) := by decide +kernel
theorem dX8_measure_71 : decode cX8_measure 71 = .ok (.iinc 1 1, 3) := by decide +kernel
theorem dX8_measure_74 : decode cX8_measure 74 = .ok (.goto (-72), 3) := by decide +kernel
theorem dX8_measure_77 : decode cX8_measure 77 = .ok (.iconst 0, 1) := by decide +kernel
theorem dX8_measure_78 : decode cX8_measure 78 = .ok (.istore_n 1, 1) := by decide +kernel
theorem dX8_measure_79 : decode cX8_measure 79 = .ok (.iload_n 1, 1) := by decide +kernel
theorem dX8_measure_80 : decode cX8_measure 80 = .ok (.bipush 8, 2) := by decide +kernel
theorem dX8_measure_82 : decode cX8_measure 82 = .ok (.if_icmp .ge 14, 3) := by decide +kernel
theorem dX8_measure_85 : decode cX8_measure 85 = .ok (.aload_n 0, 1) := by decide +kernel
theorem dX8_measure_86 : decode cX8_measure 86 = .ok (.iload_n 1, 1) := by decide +kernel
theorem dX8_measure_87 : decode cX8_measure 87 = .ok (.invokevirtual 29, 3) := by decide +kernel
theorem dX8_measure_90 : decode cX8_measure 90 = .ok (.iinc 1 1, 3) := by decide +kernel
theorem dX8_measure_93 : decode cX8_measure 93 = .ok (.goto (-14), 3) := by decide +kernel
theorem dX8_measure_96 : decode cX8_measure 96 = .ok (.return_, 1) := by decide +kernel
theorem wd_1011 : (Cond.code ⟨"WebCourt$Ways", "measure", "()V"⟩ prog_10_method_3_code (5 : Nat) (Option.none : Option FieldType)) ∈ gtb := gtb_c4 182 (by decide +kernel) rfl
theorem wd_1013 : (Cond.methodLink "WebCourt$Ways" (29 : Nat) ⟨"WebCourt$Ways", "shortenOver", "(I)V"⟩) ∈ gtb := gtb_c4 184 (by decide +kernel) rfl
theorem wd_1015 : (Cond.instanceMethod ⟨"WebCourt$Ways", "shortenOver", "(I)V"⟩) ∈ gtb := gtb_c4 186 (by decide +kernel) rfl
theorem wd_33 : (Cond.selects "WebCourt$Ways" ⟨"WebCourt$Ways", "shortenOver", "(I)V"⟩ ⟨"WebCourt$Ways", "shortenOver", "(I)V"⟩) ∈ gtb := gtb_p 33 (by decide +kernel) rfl
theorem hd_yX8_shortenOver : yX8_shortenOver.cls = RX8 ∧ yX8_shortenOver.cls ≠ "java/lang/invoke/MethodHandle" ∧ yX8_shortenOver.cls ≠ "java/lang/invoke/VarHandle" ∧ (parseMethodDescriptor yX8_shortenOver.desc).map (fun d => d.parameters.length) = some 1 := by decide +kernel
theorem wd_1012 : (Cond.methodLink "WebCourt$Ways" (25 : Nat) ⟨"WebCourt$Court", "nextTo", "(IZ)I"⟩) ∈ gtb := gtb_c4 183 (by decide +kernel) rfl
theorem wd_822 : (Cond.instanceMethod ⟨"WebCourt$Court", "nextTo", "(IZ)I"⟩) ∈ gtb := gtb_c3 233 (by decide +kernel) rfl
theorem wd_823 : (Cond.selects "WebCourt$Court" ⟨"WebCourt$Court", "nextTo", "(IZ)I"⟩ ⟨"WebCourt$Court", "nextTo", "(IZ)I"⟩) ∈ gtb := gtb_c3 234 (by decide +kernel) rfl
theorem hd_yX2_nextTo : yX2_nextTo.cls = RX2 ∧ yX2_nextTo.cls ≠ "java/lang/invoke/MethodHandle" ∧ yX2_nextTo.cls ≠ "java/lang/invoke/VarHandle" ∧ (parseMethodDescriptor yX2_nextTo.desc).map (fun d => d.parameters.length) = some 2 := by decide +kernel
set_option maxHeartbeats 4000000 in
set_option maxRecDepth 100000 in
theorem T_X8_measure (l : Launch) (D : va_G) (cy : Nat → ClassId) (a : Nat → Nat) (u : St) (hI_3_10 : fI u 3 10 = 0) (hI_3_12 : fI u 3 12 = 0) (hR_0 : fR u 0 = a 3)   : Mv l D cy (cW cy a) yX8_measure (.code yX8_measure cX8_measure 5 none) (rmo 1 25) [.ref (a 32)] u (fun (u' : St) => fR u' 0 = a 3 ∧ fI u' 3 12 = 0) := by
  refine Mv.of (own := RX8) rfl (by decide) (Nat.le_of_ble_eq_true rfl) ?_
  intro p e s m below meth c A Q ls C hret hO hl
  obtain ⟨hx, hb, hml, hown, ht, hK, hA⟩ := id C
  have hl : lv_has ls 5 [(0, .ref (a 32))] := hl
  refine lv_iconst (v := 0) hx hb dX8_measure_0 (by decide) ?_
  refine lv_istore_n (lv' := [(1, .int 0), (0, .ref (a 32))]) hx hb dX8_measure_1 rfl hl (by decide) rfl (fun ls hl => ?_)
  have LP_2_u1 : ∀ (n : Nat) (u1 : St) (H : Heap) (locs : List Loc) (ls : Array Slot) (i_1 : Int32), Wo D A (cW cy a u1) s.heap H locs → lv_has ls 5 [(1, .int i_1), (0, .ref (a 32))] → fI u1 3 10 = 0 → fI u1 3 12 = 0 → fR u1 0 = a 3 → 0 ≤ i_1.toInt ∧ i_1.toInt ≤ 8 → 8 - i_1.toInt < (n : Int) → W p l e (rmo 1 25) s m [.ref (a 32)].toArray below meth c H locs 0 0 Q (F0 m 2 ls []) := by
    intro n
    induction n with
    | zero =>
      intro u1 H locs ls i_1 hO hl hI_3_10_u1 hI_3_12_u1 hR_0_u1 iv0_u1 hm_u1
      exact absurd hm_u1 (by omega)
    | succ n ih_u1 =>
      intro u1 H locs ls i_1 hO hl hI_3_10_u1 hI_3_12_u1 hR_0_u1 iv0_u1 hm_u1
      refine lv_iload_n hx hb dX8_measure_2 rfl (lv_at hl 0 rfl) ?_
      refine lv_bipush (v := 8) hx hb dX8_measure_3 (by decide) ?_
      refine cs_ge (tgt := 77) (X := (i_1).toInt) (Y := 8) hx hb dX8_measure_5 (by decide) rfl rfl (fun c3 => ?_) (fun c3 => ?_)
      · refine lv_iconst (v := 0) hx hb dX8_measure_77 (by decide) ?_
        refine lv_istore_n (lv' := [(1, .int 0), (0, .ref (a 32))]) hx hb dX8_measure_78 rfl hl (by decide) rfl (fun ls hl => ?_)
        have LP_79_u4 : ∀ (n : Nat) (u4 : St) (H : Heap) (locs : List Loc) (ls : Array Slot) (k_4 : Int32), Wo D A (cW cy a u4) s.heap H locs → lv_has ls 5 [(1, .int k_4), (0, .ref (a 32))] → fI u4 3 12 = 0 → fR u4 0 = a 3 → 0 ≤ k_4.toInt ∧ k_4.toInt ≤ 8 → 8 - k_4.toInt < (n : Int) → W p l e (rmo 1 25) s m [.ref (a 32)].toArray below meth c H locs 0 0 Q (F0 m 79 ls []) := by
          intro n
          induction n with
          | zero =>
            intro u4 H locs ls k_4 hO hl hI_3_12_u4 hR_0_u4 iv0_u4 hm_u4
            exact absurd hm_u4 (by omega)
          | succ n ih_u4 =>
            intro u4 H locs ls k_4 hO hl hI_3_12_u4 hR_0_u4 iv0_u4 hm_u4
            refine lv_iload_n hx hb dX8_measure_79 rfl (lv_at hl 0 rfl) ?_
            refine lv_bipush (v := 8) hx hb dX8_measure_80 (by decide) ?_
            refine cs_ge (tgt := 96) (X := (k_4).toInt) (Y := 8) hx hb dX8_measure_82 (by decide) rfl rfl (fun c6 => ?_) (fun c6 => ?_)
            · refine hret _ _ _ _ _ dX8_measure_96 ?_ hO
              exact ⟨hR_0_u4, hI_3_12_u4⟩
            · refine lv_aload_n hx hb dX8_measure_85 rfl (lv_at hl 1 rfl) ?_
              refine lv_iload_n hx hb dX8_measure_86 rfl (lv_at hl 0 rfl) ?_
              refine cVv (w := cW cy a) (As := [.int k_4]) (rest := []) C hO (T_X8_shortenOver l D cy a _ (by exact hI_3_12_u4) (by exact hR_0_u4) (k_4) (by omega)) (cwV 1 ht (gV wd_1013 wd_1015 wd_33 wd_117 wd_1016) rfl rfl rfl hd_yX8_shortenOver ⟨Nat.le_of_ble_eq_true rfl, Nat.le_of_ble_eq_true rfl⟩) 32 rfl cW_32 rfl rfl hl.1 (Nat.le_of_ble_eq_true rfl) dX8_measure_87 rfl ⟨Nat.zero_le _, Nat.zero_le _⟩ (fun u8 H locs hp9 hO => ?_)
              obtain ⟨hR_0_u8, hI_3_12_u8⟩ := hp9
              have e10 : ((k_4 + 1)).toInt = (k_4).toInt + 1 := i_add rfl rfl (by omega)
              refine lv_iinc (v := (k_4 + 1)) (lv' := [(1, .int (k_4 + 1)), (0, .ref (a 32))]) hx hb dX8_measure_90 hl (k := 0) rfl rfl (by decide) rfl (fun ls hl => ?_)
              refine lv_goto (tgt := 79) hx hb dX8_measure_93 (by decide) ?_
              exact ih_u4 _ _ _ _ ((k_4 + 1)) hO (lv_sub hl [0, 1] rfl) (by exact hI_3_12_u8) (by exact hR_0_u8) (by first | decide | omega) (by first | decide | omega)
        exact LP_79_u4 2000 _ _ _ _ (0) hO (lv_sub hl [0, 1] rfl) (by exact hI_3_12_u1) (by exact hR_0_u1) (by first | decide | omega) (by first | decide | omega)
      · refine lv_aload_n hx hb dX8_measure_8 rfl (lv_at hl 1 rfl) ?_
        refine gf_RX8_15 (v := .ref (a 28)) C hO 32 cW_32 rfl dX8_measure_9 ?_
        refine lv_iload_n hx hb dX8_measure_12 rfl (lv_at hl 0 rfl) ?_
        refine lv_iconst (v := 0) hx hb dX8_measure_13 (by decide) ?_
        refine cVi (w := cW cy a) (As := [.int i_1, .int 0]) (rest := []) C hO (T_X2_nextTo l D cy a _ (by exact hI_3_10_u1) (by exact hR_0_u1) (i_1) (0)) (cwV 2 ht (gV wd_1012 wd_822 wd_823 wd_115 wd_824) rfl rfl rfl hd_yX2_nextTo ⟨Nat.le_of_ble_eq_true rfl, Nat.le_of_ble_eq_true rfl⟩) 28 rfl cW_28 rfl rfl hl.1 (Nat.le_of_ble_eq_true rfl) dX8_measure_14 rfl ⟨Nat.zero_le _, Nat.zero_le _⟩ (fun r11 u12 H locs hp13 hO => ?_)
        obtain ⟨hr11, hu12⟩ := hp13
        subst hr11
        rw [hu12] at hO
        refine lv_istore_n (lv' := [(2, .int 0), (1, .int i_1), (0, .ref (a 32))]) hx hb dX8_measure_17 rfl hl (by decide) rfl (fun ls hl => ?_)
        refine lv_iconst (v := 0) hx hb dX8_measure_18 (by decide) ?_
        refine lv_istore_n (lv' := [(3, .int 0), (2, .int 0), (1, .int i_1), (0, .ref (a 32))]) hx hb dX8_measure_19 rfl hl (by decide) rfl (fun ls hl => ?_)
        have LP_20_u14 : ∀ (n : Nat) (u14 : St) (H : Heap) (locs : List Loc) (ls : Array Slot) (j_14 : Int32), Wo D A (cW cy a u14) s.heap H locs → lv_has ls 5 [(3, .int j_14), (2, .int 0), (1, .int i_1), (0, .ref (a 32))] → fI u14 3 10 = 0 → fI u14 3 12 = 0 → fR u14 0 = a 3 → 0 ≤ j_14.toInt ∧ j_14.toInt ≤ 8 → 8 - j_14.toInt < (n : Int) → W p l e (rmo 1 25) s m [.ref (a 32)].toArray below meth c H locs 0 0 Q (F0 m 20 ls []) := by
          intro n
          induction n with
          | zero =>
            intro u14 H locs ls j_14 hO hl hI_3_10_u14 hI_3_12_u14 hR_0_u14 iv0_u14 hm_u14
            exact absurd hm_u14 (by omega)
          | succ n ih_u14 =>
            intro u14 H locs ls j_14 hO hl hI_3_10_u14 hI_3_12_u14 hR_0_u14 iv0_u14 hm_u14
            refine lv_iload_n hx hb dX8_measure_20 rfl (lv_at hl 0 rfl) ?_
            refine lv_bipush (v := 8) hx hb dX8_measure_21 (by decide) ?_
            refine cs_ge (tgt := 71) (X := (j_14).toInt) (Y := 8) hx hb dX8_measure_23 (by decide) rfl rfl (fun c16 => ?_) (fun c16 => ?_)
            · have e17 : ((i_1 + 1)).toInt = (i_1).toInt + 1 := i_add rfl rfl (by omega)
              refine lv_iinc (v := (i_1 + 1)) (lv' := [(1, .int (i_1 + 1)), (3, .int j_14), (2, .int 0), (0, .ref (a 32))]) hx hb dX8_measure_71 hl (k := 2) rfl rfl (by decide) rfl (fun ls hl => ?_)
              refine lv_goto (tgt := 2) hx hb dX8_measure_74 (by decide) ?_
              exact ih_u1 _ _ _ _ ((i_1 + 1)) hO (lv_sub hl [0, 3] rfl) (by exact hI_3_10_u14) (by exact hI_3_12_u14) (by exact hR_0_u14) (by first | decide | omega) (by first | decide | omega)
            · refine lv_iload_n hx hb dX8_measure_26 rfl (lv_at hl 1 rfl) ?_
              refine lv_iload_n hx hb dX8_measure_27 rfl (lv_at hl 0 rfl) ?_
              refine lv_ishr hx hb dX8_measure_28 ?_
              refine tE (y := 0) (i_shr0 _) ?_
              refine lv_iconst (v := 1) hx hb dX8_measure_29 (by decide) ?_
              refine lv_iand hx hb dX8_measure_30 ?_
              refine tE (y := 0) (by decide) ?_
              refine bt_eq (tgt := 38) (X := 0) hx hb dX8_measure_31 (by decide) rfl (by omega) ?_
              refine lv_sipush (v := 1000) hx hb dX8_measure_38 (by decide) ?_
              refine lv_istore (lv' := [(4, .int 1000), (3, .int j_14), (2, .int 0), (1, .int i_1), (0, .ref (a 32))]) hx hb dX8_measure_41 hl (by decide) rfl (fun ls hl => ?_)
              refine lv_aload_n hx hb dX8_measure_43 rfl (lv_at hl 4 rfl) ?_
              refine gf_RX8_9 (v := .ref (a 33)) C hO 32 cW_32 rfl dX8_measure_44 ?_
              refine lv_iload_n hx hb dX8_measure_47 rfl (lv_at hl 3 rfl) ?_
              refine lv_bipush (v := 8) hx hb dX8_measure_48 (by decide) ?_
              have e18 : ((i_1 * 8)).toInt = (i_1).toInt * 8 := i_mul rfl rfl (by omega)
              refine lv_imul hx hb dX8_measure_50 ?_
              refine lv_iload_n hx hb dX8_measure_51 rfl (lv_at hl 1 rfl) ?_
              have e19 : (((i_1 * 8) + j_14)).toInt = ((i_1).toInt * 8) + (j_14).toInt := i_add e18 rfl (by omega)
              refine lv_iadd hx hb dX8_measure_52 ?_
              refine lv_iload_n hx hb dX8_measure_53 rfl (lv_at hl 3 rfl) ?_
              refine lv_iload_n hx hb dX8_measure_54 rfl (lv_at hl 1 rfl) ?_
              refine cs_ne (tgt := 62) (X := (i_1).toInt) (Y := (j_14).toInt) hx hb dX8_measure_55 (by decide) rfl rfl (fun c20 => ?_) (fun c20 => ?_)
              · refine lv_iload hx hb dX8_measure_62 (lv_at hl 0 rfl) ?_
                refine aIs C hO 33 cW_33 (i_in (X := (((i_1).toInt * 8) + (j_14).toInt)) e19 (by omega) (by omega)) cW_s33 dX8_measure_64 (fun H locs hO => ?_)
                have e21 : ((j_14 + 1)).toInt = (j_14).toInt + 1 := i_add rfl rfl (by omega)
                refine lv_iinc (v := (j_14 + 1)) (lv' := [(3, .int (j_14 + 1)), (4, .int 1000), (2, .int 0), (1, .int i_1), (0, .ref (a 32))]) hx hb dX8_measure_65 hl (k := 1) rfl rfl (by decide) rfl (fun ls hl => ?_)
                refine lv_goto (tgt := 20) hx hb dX8_measure_68 (by decide) ?_
                exact ih_u14 _ _ _ _ ((j_14 + 1)) hO (lv_sub hl [0, 2, 3, 4] rfl) (by exact hI_3_10_u14) (by exact hI_3_12_u14) (by exact hR_0_u14) (by first | decide | omega) (by first | decide | omega)
              · refine lv_iconst (v := 0) hx hb dX8_measure_58 (by decide) ?_
                refine lv_goto (tgt := 64) hx hb dX8_measure_59 (by decide) ?_
                refine aIs C hO 33 cW_33 (i_in (X := (((i_1).toInt * 8) + (j_14).toInt)) e19 (by omega) (by omega)) cW_s33 dX8_measure_64 (fun H locs hO => ?_)
                have e22 : ((j_14 + 1)).toInt = (j_14).toInt + 1 := i_add rfl rfl (by omega)
                refine lv_iinc (v := (j_14 + 1)) (lv' := [(3, .int (j_14 + 1)), (4, .int 1000), (2, .int 0), (1, .int i_1), (0, .ref (a 32))]) hx hb dX8_measure_65 hl (k := 1) rfl rfl (by decide) rfl (fun ls hl => ?_)
                refine lv_goto (tgt := 20) hx hb dX8_measure_68 (by decide) ?_
                exact ih_u14 _ _ _ _ ((j_14 + 1)) hO (lv_sub hl [0, 2, 3, 4] rfl) (by exact hI_3_10_u14) (by exact hI_3_12_u14) (by exact hR_0_u14) (by first | decide | omega) (by first | decide | omega)
        exact LP_20_u14 2000 _ _ _ _ (0) hO (lv_sub hl [0, 1, 2, 3] rfl) (by exact hI_3_10_u1) (by exact hI_3_12_u1) (by exact hR_0_u1) (by first | decide | omega) (by first | decide | omega)
  exact LP_2_u1 2000 _ _ _ _ (0) hO (lv_sub hl [0, 1] rfl) (by exact hI_3_10) (by exact hI_3_12) (by exact hR_0) (by first | decide | omega) (by first | decide | omega)
theorem dX6_measure_0 : decode cX6_measure 0 = .ok (.aload_n 0, 1) := by decide +kernel
theorem dX6_measure_1 : decode cX6_measure 1 = .ok (.getfield 19, 3) := by decide +kernel
theorem dX6_measure_4 : decode cX6_measure 4 = .ok (.invokevirtual 23, 3) := by decide +kernel
theorem dX6_measure_7 : decode cX6_measure 7 = .ok (.iconst 1, 1) := by decide +kernel
theorem dX6_measure_8 : decode cX6_measure 8 = .ok (.aload_n 0, 1) := by decide +kernel
theorem dX6_measure_9 : decode cX6_measure 9 = .ok (.getfield 15, 3) := by decide +kernel
theorem dX6_measure_12 : decode cX6_measure 12 = .ok (.getfield 28, 3) := by decide +kernel
theorem dX6_measure_15 : decode cX6_measure 15 = .ok (.getfield 34, 3) := by decide +kernel
theorem dX6_measure_18 : decode cX6_measure 18 = .ok (.ishl, 1) := by decide +kernel
theorem dX6_measure_19 : decode cX6_measure 19 = .ok (.istore_n 1, 1) := by decide +kernel
theorem dX6_measure_20 : decode cX6_measure 20 = .ok (.iconst 0, 1) := by decide +kernel
theorem dX6_measure_21 : decode cX6_measure 21 = .ok (.istore_n 2, 1) := by decide +kernel
theorem dX6_measure_22 : decode cX6_measure 22 = .ok (.iload_n 2, 1) := by decide +kernel
theorem dX6_measure_23 : decode cX6_measure 23 = .ok (.iload_n 1, 1) := by decide +kernel
theorem dX6_measure_24 : decode cX6_measure 24 = .ok (.if_icmp .ge 62, 3) := by decide +kernel
theorem dX6_measure_27 : decode cX6_measure 27 = .ok (.iload_n 2, 1) := by decide +kernel
theorem dX6_measure_28 : decode cX6_measure 28 = .ok (.bipush 64, 2) := by decide +kernel
theorem dX6_measure_30 : decode cX6_measure 30 = .ok (.if_icmp .ge 56, 3) := by decide +kernel
theorem dX6_measure_33 : decode cX6_measure 33 = .ok (.iconst 0, 1) := by decide +kernel
theorem dX6_measure_34 : decode cX6_measure 34 = .ok (.istore_n 3, 1) := by decide +kernel
theorem dX6_measure_35 : decode cX6_measure 35 = .ok (.iload_n 3, 1) := by decide +kernel
theorem dX6_measure_36 : decode cX6_measure 36 = .ok (.aload_n 0, 1) := by decide +kernel
theorem dX6_measure_37 : decode cX6_measure 37 = .ok (.getfield 15, 3) := by decide +kernel
theorem dX6_measure_40 : decode cX6_measure 40 = .ok (.getfield 28, 3) := by decide +kernel
theorem dX6_measure_43 : decode cX6_measure 43 = .ok (.getfield 34, 3) := by decide +kernel
theorem dX6_measure_46 : decode cX6_measure 46 = .ok (.if_icmp .ge 34, 3) := by decide +kernel
theorem dX6_measure_49 : decode cX6_measure 49 = .ok (.aload_n 0, 1) := by decide +kernel
theorem dX6_measure_50 : decode cX6_measure 50 = .ok (.getfield 11, 3) := by decide +kernel
theorem dX6_measure_53 : decode cX6_measure 53 = .ok (.iload_n 2, 1) := by decide +kernel
theorem dX6_measure_54 : decode cX6_measure 54 = .ok (.bipush 6, 2) := by decide +kernel
theorem dX6_measure_56 : decode cX6_measure 56 = .ok (.imul, 1) := by decide +kernel
theorem dX6_measure_57 : decode cX6_measure 57 = .ok (.iload_n 3, 1) := by decide +kernel
theorem dX6_measure_58 : decode cX6_measure 58 = .ok (.iadd, 1) := by decide +kernel
theorem dX6_measure_59 : decode cX6_measure 59 = .ok (.iload_n 2, 1) := by decide +kernel
theorem dX6_measure_60 : decode cX6_measure 60 = .ok (.ifCond .ne 7, 3) := by decide +kernel
theorem dX6_measure_63 : decode cX6_measure 63 = .ok (.iconst 0, 1) := by decide +kernel
theorem dX6_measure_64 : decode cX6_measure 64 = .ok (.goto 9, 3) := by decide +kernel
theorem dX6_measure_67 : decode cX6_measure 67 = .ok (.aload_n 0, 1) := by decide +kernel
theorem dX6_measure_68 : decode cX6_measure 68 = .ok (.iload_n 2, 1) := by decide +kernel
theorem dX6_measure_69 : decode cX6_measure 69 = .ok (.iload_n 3, 1) := by decide +kernel
theorem dX6_measure_70 : decode cX6_measure 70 = .ok (.invokevirtual 40, 3) := by decide +kernel
theorem dX6_measure_73 : decode cX6_measure 73 = .ok (.iastore, 1) := by decide +kernel
theorem dX6_measure_74 : decode cX6_measure 74 = .ok (.iinc 3 1, 3) := by decide +kernel
theorem dX6_measure_77 : decode cX6_measure 77 = .ok (.goto (-42), 3) := by decide +kernel
theorem dX6_measure_80 : decode cX6_measure 80 = .ok (.iinc 2 1, 3) := by decide +kernel
theorem dX6_measure_83 : decode cX6_measure 83 = .ok (.goto (-61), 3) := by decide +kernel
theorem dX6_measure_86 : decode cX6_measure 86 = .ok (.return_, 1) := by decide +kernel
theorem wd_1038 : (Cond.code ⟨"WebCourt$Rounds", "measure", "()V"⟩ prog_8_method_2_code (4 : Nat) (Option.none : Option FieldType)) ∈ gtb := gtb_c4 209 (by decide +kernel) rfl
theorem wd_411 : (Cond.fieldLink "WebCourt$Rounds" (19 : Nat) "WebCourt$Rounds" "ways" "LWebCourt$Ways;") ∈ gtb := gtb_c2 62 (by decide +kernel) rfl
theorem wd_413 : (Cond.laysFinal "WebCourt$Rounds" "WebCourt$Rounds" "court" "LWebCourt$Court;") ∈ gtb := gtb_c2 64 (by decide +kernel) rfl
theorem wd_415 : (Cond.laysFinal "WebCourt$Rounds" "WebCourt$Rounds" "ways" "LWebCourt$Ways;") ∈ gtb := gtb_c2 66 (by decide +kernel) rfl
theorem wd_417 : (Cond.laysFinal "WebCourt$Rounds" "WebCourt$Rounds" "behind" "[I") ∈ gtb := gtb_c2 68 (by decide +kernel) rfl
theorem inFX6 : ∀ w ∈ u_ws RX6 TX6 3, w ∈ gtb := by
  show ∀ w ∈ [u_lay RX6 TX6 0, u_lay RX6 TX6 1, u_lay RX6 TX6 2], w ∈ gtb
  exact List.forall_mem_cons.mpr ⟨wd_413, List.forall_mem_cons.mpr ⟨wd_415, List.forall_mem_cons.mpr ⟨wd_417, fun _ h => absurd h List.not_mem_nil⟩⟩⟩
theorem gf_RX6_19 {p : Program} {l : Launch} {e : Env} {R : Room} {s : State} {m : MethodId} {args : Array Value} {below : List Frame} {meth : Method} {c : Code} {H : Heap} {locs : List Loc} {cells slots : Nat} {Q : State → Prop} {cc : ByteArray} {pc nL : Nat} {ls : Array Slot} {rest : List Value} {D : va_G} {cy : Nat → ClassId} {A : Nat → Prop} {ws : va_W} {b : Nat} {fs : List Value} {v : Value} (C : Cx p s m args c cc nL RX6 D cy A) (hO : Wo D A ws s.heap H locs) (q0 : Nat) (he : ws[q0]? = some (b, .inr (6, fs))) (hv : fs[1]? = some v) (hdg : decode cc pc = .ok (.getfield 19, 3)) (kk : W p l e R s m args below meth c H locs cells slots Q (F0 m (pc + 3) ls (v :: rest))) : W p l e R s m args below meth c H locs cells slots Q (F0 m pc ls (.ref b :: rest)) := gF (k := 1) C hO q0 he rfl inFX6 (by decide) wd_411 rfl hv hdg kk
theorem wd_1039 : (Cond.methodLink "WebCourt$Rounds" (23 : Nat) ⟨"WebCourt$Ways", "measure", "()V"⟩) ∈ gtb := gtb_c4 210 (by decide +kernel) rfl
theorem wd_1009 : (Cond.instanceMethod ⟨"WebCourt$Ways", "measure", "()V"⟩) ∈ gtb := gtb_c4 180 (by decide +kernel) rfl
theorem wd_1010 : (Cond.selects "WebCourt$Ways" ⟨"WebCourt$Ways", "measure", "()V"⟩ ⟨"WebCourt$Ways", "measure", "()V"⟩) ∈ gtb := gtb_c4 181 (by decide +kernel) rfl
theorem hd_yX8_measure : yX8_measure.cls = RX8 ∧ yX8_measure.cls ≠ "java/lang/invoke/MethodHandle" ∧ yX8_measure.cls ≠ "java/lang/invoke/VarHandle" ∧ (parseMethodDescriptor yX8_measure.desc).map (fun d => d.parameters.length) = some 0 := by decide +kernel
theorem wd_410 : (Cond.fieldLink "WebCourt$Rounds" (15 : Nat) "WebCourt$Rounds" "court" "LWebCourt$Court;") ∈ gtb := gtb_c2 61 (by decide +kernel) rfl
theorem gf_RX6_15 {p : Program} {l : Launch} {e : Env} {R : Room} {s : State} {m : MethodId} {args : Array Value} {below : List Frame} {meth : Method} {c : Code} {H : Heap} {locs : List Loc} {cells slots : Nat} {Q : State → Prop} {cc : ByteArray} {pc nL : Nat} {ls : Array Slot} {rest : List Value} {D : va_G} {cy : Nat → ClassId} {A : Nat → Prop} {ws : va_W} {b : Nat} {fs : List Value} {v : Value} (C : Cx p s m args c cc nL RX6 D cy A) (hO : Wo D A ws s.heap H locs) (q0 : Nat) (he : ws[q0]? = some (b, .inr (6, fs))) (hv : fs[0]? = some v) (hdg : decode cc pc = .ok (.getfield 15, 3)) (kk : W p l e R s m args below meth c H locs cells slots Q (F0 m (pc + 3) ls (v :: rest))) : W p l e R s m args below meth c H locs cells slots Q (F0 m pc ls (.ref b :: rest)) := gF (k := 0) C hO q0 he rfl inFX6 (by decide) wd_410 rfl hv hdg kk
theorem wd_359 : (Cond.fieldLink "WebCourt$Rounds" (28 : Nat) "WebCourt$Court" "web" "LWebCourt$Web;") ∈ gtb := gtb_c2 10 (by decide +kernel) rfl
theorem gf_RX6_28 {p : Program} {l : Launch} {e : Env} {R : Room} {s : State} {m : MethodId} {args : Array Value} {below : List Frame} {meth : Method} {c : Code} {H : Heap} {locs : List Loc} {cells slots : Nat} {Q : State → Prop} {cc : ByteArray} {pc nL : Nat} {ls : Array Slot} {rest : List Value} {D : va_G} {cy : Nat → ClassId} {A : Nat → Prop} {ws : va_W} {b : Nat} {fs : List Value} {v : Value} (C : Cx p s m args c cc nL RX6 D cy A) (hO : Wo D A ws s.heap H locs) (q0 : Nat) (he : ws[q0]? = some (b, .inr (2, fs))) (hv : fs[1]? = some v) (hdg : decode cc pc = .ok (.getfield 28, 3)) (kk : W p l e R s m args below meth c H locs cells slots Q (F0 m (pc + 3) ls (v :: rest))) : W p l e R s m args below meth c H locs cells slots Q (F0 m pc ls (.ref b :: rest)) := gF (k := 1) C hO q0 he rfl inFX2 (by decide) wd_359 rfl hv hdg kk
theorem wd_267 : (Cond.fieldLink "WebCourt$Rounds" (34 : Nat) "WebCourt$Web" "cases" "I") ∈ gtb := gtb_c1 158 (by decide +kernel) rfl
theorem gf_RX6_34 {p : Program} {l : Launch} {e : Env} {R : Room} {s : State} {m : MethodId} {args : Array Value} {below : List Frame} {meth : Method} {c : Code} {H : Heap} {locs : List Loc} {cells slots : Nat} {Q : State → Prop} {cc : ByteArray} {pc nL : Nat} {ls : Array Slot} {rest : List Value} {D : va_G} {cy : Nat → ClassId} {A : Nat → Prop} {ws : va_W} {b : Nat} {fs : List Value} {v : Value} (C : Cx p s m args c cc nL RX6 D cy A) (hO : Wo D A ws s.heap H locs) (q0 : Nat) (he : ws[q0]? = some (b, .inr (9, fs))) (hv : fs[12]? = some v) (hdg : decode cc pc = .ok (.getfield 34, 3)) (kk : W p l e R s m args below meth c H locs cells slots Q (F0 m (pc + 3) ls (v :: rest))) : W p l e R s m args below meth c H locs cells slots Q (F0 m pc ls (.ref b :: rest)) := gF (k := 12) C hO q0 he rfl inFX9 (by decide) wd_267 rfl hv hdg kk
set_option maxHeartbeats 4000000 in
set_option maxRecDepth 100000 in
theorem T_X6_measure (l : Launch) (D : va_G) (cy : Nat → ClassId) (a : Nat → Nat) (u : St) (hI_3_10 : fI u 3 10 = 0) (hI_3_12 : fI u 3 12 = 0) (hR_0 : fR u 0 = a 3)   : Mv l D cy (cW cy a) yX6_measure (.code yX6_measure cX6_measure 4 none) (rmo 2 49) [.ref (a 34)] u (fun (u' : St) => fR u' 0 = a 3 ∧ fI u' 3 12 = 0) := by
  refine Mv.of (own := RX6) rfl (by decide) (Nat.le_of_ble_eq_true rfl) ?_
  intro p e s m below meth c A Q ls C hret hO hl
  obtain ⟨hx, hb, hml, hown, ht, hK, hA⟩ := id C
  have hl : lv_has ls 4 [(0, .ref (a 34))] := hl
  refine lv_aload_n hx hb dX6_measure_0 rfl (lv_at hl 0 rfl) ?_
  refine gf_RX6_19 (v := .ref (a 32)) C hO 34 cW_34 rfl dX6_measure_1 ?_
  refine cVv (w := cW cy a) (As := []) (rest := []) C hO (T_X8_measure l D cy a _ (by exact hI_3_10) (by exact hI_3_12) (by exact hR_0)) (cwV 0 ht (gV wd_1039 wd_1009 wd_1010 wd_117 wd_1011) rfl rfl rfl hd_yX8_measure ⟨Nat.le_of_ble_eq_true rfl, Nat.le_of_ble_eq_true rfl⟩) 32 rfl cW_32 rfl rfl hl.1 (Nat.le_of_ble_eq_true rfl) dX6_measure_4 rfl ⟨Nat.zero_le _, Nat.zero_le _⟩ (fun u2 H locs hp3 hO => ?_)
  obtain ⟨hR_0_u2, hI_3_12_u2⟩ := hp3
  refine lv_iconst (v := 1) hx hb dX6_measure_7 (by decide) ?_
  refine lv_aload_n hx hb dX6_measure_8 rfl (lv_at hl 0 rfl) ?_
  refine gf_RX6_15 (v := .ref (a 28)) C hO 34 cW_34 rfl dX6_measure_9 ?_
  refine gf_RX6_28 (v := .ref (a 3)) C hO 28 cW_28 (congrArg (fun z : Nat => some (Value.ref z)) hR_0_u2) dX6_measure_12 ?_
  refine gf_RX6_34 (v := .int 0) C hO 3 cW_3 (congrArg (fun z : Int32 => some (Value.int z)) hI_3_12_u2) dX6_measure_15 ?_
  refine lv_ishl hx hb dX6_measure_18 ?_
  refine tE (y := 1) (by decide) ?_
  refine lv_istore_n (lv' := [(1, .int 1), (0, .ref (a 34))]) hx hb dX6_measure_19 rfl hl (by decide) rfl (fun ls hl => ?_)
  refine lv_iconst (v := 0) hx hb dX6_measure_20 (by decide) ?_
  refine lv_istore_n (lv' := [(2, .int 0), (1, .int 1), (0, .ref (a 34))]) hx hb dX6_measure_21 rfl hl (by decide) rfl (fun ls hl => ?_)
  refine lv_iload_n hx hb dX6_measure_22 rfl (lv_at hl 0 rfl) ?_
  refine lv_iload_n hx hb dX6_measure_23 rfl (lv_at hl 1 rfl) ?_
  refine cn_ge (X := 0) (Y := 1) hx hb dX6_measure_24 rfl rfl (by omega) ?_ (tgt := 86) (by decide)
  refine lv_iload_n hx hb dX6_measure_27 rfl (lv_at hl 0 rfl) ?_
  refine lv_bipush (v := 64) hx hb dX6_measure_28 (by decide) ?_
  refine cn_ge (X := 0) (Y := 64) hx hb dX6_measure_30 rfl rfl (by omega) ?_ (tgt := 86) (by decide)
  refine lv_iconst (v := 0) hx hb dX6_measure_33 (by decide) ?_
  refine lv_istore_n (lv' := [(3, .int 0), (2, .int 0), (1, .int 1), (0, .ref (a 34))]) hx hb dX6_measure_34 rfl hl (by decide) rfl (fun ls hl => ?_)
  refine lv_iload_n hx hb dX6_measure_35 rfl (lv_at hl 0 rfl) ?_
  refine lv_aload_n hx hb dX6_measure_36 rfl (lv_at hl 3 rfl) ?_
  refine gf_RX6_15 (v := .ref (a 28)) C hO 34 cW_34 rfl dX6_measure_37 ?_
  refine gf_RX6_28 (v := .ref (a 3)) C hO 28 cW_28 (congrArg (fun z : Nat => some (Value.ref z)) hR_0_u2) dX6_measure_40 ?_
  refine gf_RX6_34 (v := .int 0) C hO 3 cW_3 (congrArg (fun z : Int32 => some (Value.int z)) hI_3_12_u2) dX6_measure_43 ?_
  refine ct_ge (tgt := 80) (X := 0) (Y := 0) hx hb dX6_measure_46 (by decide) rfl rfl (by omega) ?_
  refine lv_iinc (v := 1) (lv' := [(2, .int 1), (3, .int 0), (1, .int 1), (0, .ref (a 34))]) hx hb dX6_measure_80 hl (k := 1) rfl rfl (by decide) rfl (fun ls hl => ?_)
  refine lv_goto (tgt := 22) hx hb dX6_measure_83 (by decide) ?_
  refine lv_iload_n hx hb dX6_measure_22 rfl (lv_at hl 0 rfl) ?_
  refine lv_iload_n hx hb dX6_measure_23 rfl (lv_at hl 2 rfl) ?_
  refine ct_ge (tgt := 86) (X := 1) (Y := 1) hx hb dX6_measure_24 (by decide) rfl rfl (by omega) ?_
  refine hret _ _ _ _ _ dX6_measure_86 ?_ hO
  exact ⟨hR_0_u2, hI_3_12_u2⟩
theorem dX6_mostHeard_0 : decode cX6_mostHeard 0 = .ok (.iconst 0, 1) := by decide +kernel
theorem dX6_mostHeard_1 : decode cX6_mostHeard 1 = .ok (.istore_n 3, 1) := by decide +kernel
theorem dX6_mostHeard_2 : decode cX6_mostHeard 2 = .ok (.iconst 0, 1) := by decide +kernel
theorem dX6_mostHeard_3 : decode cX6_mostHeard 3 = .ok (.istore 4, 2) := by decide +kernel
theorem dX6_mostHeard_5 : decode cX6_mostHeard 5 = .ok (.iload 4, 2) := by decide +kernel
theorem dX6_mostHeard_7 : decode cX6_mostHeard 7 = .ok (.bipush 64, 2) := by decide +kernel
theorem dX6_mostHeard_9 : decode cX6_mostHeard 9 = .ok (.if_icmp .ge 43, 3) := by decide +kernel
theorem dX6_mostHeard_12 : decode cX6_mostHeard 12 = .ok (.iload 4, 2) := by decide +kernel
theorem dX6_mostHeard_14 : decode cX6_mostHeard 14 = .ok (.iload_n 1, 1) := by decide +kernel
theorem dX6_mostHeard_15 : decode cX6_mostHeard 15 = .ok (.iconst (-1), 1) := by decide +kernel
theorem dX6_mostHeard_16 : decode cX6_mostHeard 16 = .ok (.ixor, 1) := by decide +kernel
theorem dX6_mostHeard_17 : decode cX6_mostHeard 17 = .ok (.iand, 1) := by decide +kernel
theorem dX6_mostHeard_18 : decode cX6_mostHeard 18 = .ok (.ifCond .ne 28, 3) := by decide +kernel
theorem dX6_mostHeard_21 : decode cX6_mostHeard 21 = .ok (.iload 4, 2) := by decide +kernel
theorem dX6_mostHeard_23 : decode cX6_mostHeard 23 = .ok (.invokestatic 68, 3) := by decide +kernel
theorem dX6_mostHeard_26 : decode cX6_mostHeard 26 = .ok (.iload_n 3, 1) := by decide +kernel
theorem dX6_mostHeard_27 : decode cX6_mostHeard 27 = .ok (.if_icmp .le 19, 3) := by decide +kernel
theorem dX6_mostHeard_30 : decode cX6_mostHeard 30 = .ok (.aload_n 0, 1) := by decide +kernel
theorem dX6_mostHeard_31 : decode cX6_mostHeard 31 = .ok (.iload 4, 2) := by decide +kernel
theorem dX6_mostHeard_33 : decode cX6_mostHeard 33 = .ok (.invokevirtual 74, 3) := by decide +kernel
theorem dX6_mostHeard_36 : decode cX6_mostHeard 36 = .ok (.iload_n 2, 1) := by decide +kernel
theorem dX6_mostHeard_37 : decode cX6_mostHeard 37 = .ok (.if_icmp .gt 9, 3) := by decide +kernel
theorem dX6_mostHeard_40 : decode cX6_mostHeard 40 = .ok (.iload 4, 2) := by decide +kernel
theorem dX6_mostHeard_42 : decode cX6_mostHeard 42 = .ok (.invokestatic 68, 3) := by decide +kernel
theorem dX6_mostHeard_45 : decode cX6_mostHeard 45 = .ok (.istore_n 3, 1) := by decide +kernel
theorem dX6_mostHeard_46 : decode cX6_mostHeard 46 = .ok (.iinc 4 1, 3) := by decide +kernel
theorem dX6_mostHeard_49 : decode cX6_mostHeard 49 = .ok (.goto (-44), 3) := by decide +kernel
theorem dX6_mostHeard_52 : decode cX6_mostHeard 52 = .ok (.iload_n 3, 1) := by decide +kernel
theorem dX6_mostHeard_53 : decode cX6_mostHeard 53 = .ok (.ireturn, 1) := by decide +kernel
theorem wd_1070 : (Cond.code ⟨"WebCourt$Rounds", "mostHeard", "(II)I"⟩ prog_8_method_8_code (5 : Nat) (Option.some FieldType.int)) ∈ gtb := gtb_c5 1 (by decide +kernel) rfl
theorem wd_1071 : (Cond.methodLink "WebCourt$Rounds" (68 : Nat) ⟨"java/lang/Integer", "bitCount", "(I)I"⟩) ∈ gtb := gtb_c5 2 (by decide +kernel) rfl
set_option maxHeartbeats 4000000 in
set_option maxRecDepth 100000 in
theorem T_X6_mostHeard_0 (l : Launch) (D : va_G) (cy : Nat → ClassId) (a : Nat → Nat) (u : St)  (x2 : Int32)  : Mi l D cy (cW cy a) yX6_mostHeard (.code yX6_mostHeard cX6_mostHeard 5 (some .int)) (rmo 1 20) [.ref (a 34), .int 0, .int x2] u (fun (r : Int32) (u' : St) => r = 0 ∧ u' = u) := by
  refine Mi.of (own := RX6) rfl (by decide) (Nat.le_of_ble_eq_true rfl) ?_
  intro p e s m below meth c A Q ls C hret hO hl
  obtain ⟨hx, hb, hml, hown, ht, hK, hA⟩ := id C
  have hl : lv_has ls 5 [(0, .ref (a 34)), (1, .int 0), (2, .int x2)] := hl
  refine lv_iconst (v := 0) hx hb dX6_mostHeard_0 (by decide) ?_
  refine lv_istore_n (lv' := [(3, .int 0), (0, .ref (a 34)), (1, .int 0), (2, .int x2)]) hx hb dX6_mostHeard_1 rfl hl (by decide) rfl (fun ls hl => ?_)
  refine lv_iconst (v := 0) hx hb dX6_mostHeard_2 (by decide) ?_
  refine lv_istore (lv' := [(4, .int 0), (3, .int 0), (0, .ref (a 34)), (1, .int 0), (2, .int x2)]) hx hb dX6_mostHeard_3 hl (by decide) rfl (fun ls hl => ?_)
  refine lv_iload hx hb dX6_mostHeard_5 (lv_at hl 0 rfl) ?_
  refine lv_bipush (v := 64) hx hb dX6_mostHeard_7 (by decide) ?_
  refine cn_ge (X := 0) (Y := 64) hx hb dX6_mostHeard_9 rfl rfl (by omega) ?_ (tgt := 52) (by decide)
  refine lv_iload hx hb dX6_mostHeard_12 (lv_at hl 0 rfl) ?_
  refine lv_iload_n hx hb dX6_mostHeard_14 rfl (lv_at hl 3 rfl) ?_
  refine lv_iconst (v := (-1)) hx hb dX6_mostHeard_15 (by decide) ?_
  refine lv_ixor hx hb dX6_mostHeard_16 ?_
  refine tE (y := (-1)) (by decide) ?_
  refine lv_iand hx hb dX6_mostHeard_17 ?_
  refine tE (y := 0) (by decide) ?_
  refine bn_ne (X := 0) hx hb dX6_mostHeard_18 rfl (by omega) ?_ (tgt := 46) (by decide)
  refine lv_iload hx hb dX6_mostHeard_21 (lv_at hl 0 rfl) ?_
  refine cSi (w := cW cy a) (As := [.int 0]) (rest := []) C hO (T_J6_bitCount_0f7a4_c0 l D cy a _ ) (va_cwS 1 ht (gSS wd_1071 wd_870 wd_128 wd_871) rfl rfl rfl hd_yJ6_bitCount_0f7a4 ⟨Nat.le_of_ble_eq_true rfl, Nat.le_of_ble_eq_true rfl⟩)  rfl hl.1 (Nat.le_of_ble_eq_true rfl) dX6_mostHeard_23 rfl ⟨Nat.zero_le _, Nat.zero_le _⟩ (fun r1 u2 H locs hp3 hO => ?_)
  obtain ⟨hr1, hu2⟩ := hp3
  subst hr1
  rw [hu2] at hO
  refine lv_iload_n hx hb dX6_mostHeard_26 rfl (lv_at hl 1 rfl) ?_
  refine ct_le (tgt := 46) (X := 0) (Y := 0) hx hb dX6_mostHeard_27 (by decide) rfl rfl (by omega) ?_
  refine lv_iinc (v := 1) (lv' := [(4, .int 1), (3, .int 0), (0, .ref (a 34)), (1, .int 0), (2, .int x2)]) hx hb dX6_mostHeard_46 hl (k := 0) rfl rfl (by decide) rfl (fun ls hl => ?_)
  refine lv_goto (tgt := 5) hx hb dX6_mostHeard_49 (by decide) ?_
  refine lv_iload hx hb dX6_mostHeard_5 (lv_at hl 0 rfl) ?_
  refine lv_bipush (v := 64) hx hb dX6_mostHeard_7 (by decide) ?_
  refine cn_ge (X := 1) (Y := 64) hx hb dX6_mostHeard_9 rfl rfl (by omega) ?_ (tgt := 52) (by decide)
  refine lv_iload hx hb dX6_mostHeard_12 (lv_at hl 0 rfl) ?_
  refine lv_iload_n hx hb dX6_mostHeard_14 rfl (lv_at hl 3 rfl) ?_
  refine lv_iconst (v := (-1)) hx hb dX6_mostHeard_15 (by decide) ?_
  refine lv_ixor hx hb dX6_mostHeard_16 ?_
  refine tE (y := (-1)) (by decide) ?_
  refine lv_iand hx hb dX6_mostHeard_17 ?_
  refine tE (y := 1) (by decide) ?_
  refine bt_ne (tgt := 46) (X := 1) hx hb dX6_mostHeard_18 (by decide) rfl (by omega) ?_
  refine lv_iinc (v := 2) (lv' := [(4, .int 2), (3, .int 0), (0, .ref (a 34)), (1, .int 0), (2, .int x2)]) hx hb dX6_mostHeard_46 hl (k := 0) rfl rfl (by decide) rfl (fun ls hl => ?_)
  refine lv_goto (tgt := 5) hx hb dX6_mostHeard_49 (by decide) ?_
  refine lv_iload hx hb dX6_mostHeard_5 (lv_at hl 0 rfl) ?_
  refine lv_bipush (v := 64) hx hb dX6_mostHeard_7 (by decide) ?_
  refine cn_ge (X := 2) (Y := 64) hx hb dX6_mostHeard_9 rfl rfl (by omega) ?_ (tgt := 52) (by decide)
  refine lv_iload hx hb dX6_mostHeard_12 (lv_at hl 0 rfl) ?_
  refine lv_iload_n hx hb dX6_mostHeard_14 rfl (lv_at hl 3 rfl) ?_
  refine lv_iconst (v := (-1)) hx hb dX6_mostHeard_15 (by decide) ?_
  refine lv_ixor hx hb dX6_mostHeard_16 ?_
  refine tE (y := (-1)) (by decide) ?_
  refine lv_iand hx hb dX6_mostHeard_17 ?_
  refine tE (y := 2) (by decide) ?_
  refine bt_ne (tgt := 46) (X := 2) hx hb dX6_mostHeard_18 (by decide) rfl (by omega) ?_
  refine lv_iinc (v := 3) (lv' := [(4, .int 3), (3, .int 0), (0, .ref (a 34)), (1, .int 0), (2, .int x2)]) hx hb dX6_mostHeard_46 hl (k := 0) rfl rfl (by decide) rfl (fun ls hl => ?_)
  refine lv_goto (tgt := 5) hx hb dX6_mostHeard_49 (by decide) ?_
  refine lv_iload hx hb dX6_mostHeard_5 (lv_at hl 0 rfl) ?_
  refine lv_bipush (v := 64) hx hb dX6_mostHeard_7 (by decide) ?_
  refine cn_ge (X := 3) (Y := 64) hx hb dX6_mostHeard_9 rfl rfl (by omega) ?_ (tgt := 52) (by decide)
  refine lv_iload hx hb dX6_mostHeard_12 (lv_at hl 0 rfl) ?_
  refine lv_iload_n hx hb dX6_mostHeard_14 rfl (lv_at hl 3 rfl) ?_
  refine lv_iconst (v := (-1)) hx hb dX6_mostHeard_15 (by decide) ?_
  refine lv_ixor hx hb dX6_mostHeard_16 ?_
  refine tE (y := (-1)) (by decide) ?_
  refine lv_iand hx hb dX6_mostHeard_17 ?_
  refine tE (y := 3) (by decide) ?_
  refine bt_ne (tgt := 46) (X := 3) hx hb dX6_mostHeard_18 (by decide) rfl (by omega) ?_
  refine lv_iinc (v := 4) (lv' := [(4, .int 4), (3, .int 0), (0, .ref (a 34)), (1, .int 0), (2, .int x2)]) hx hb dX6_mostHeard_46 hl (k := 0) rfl rfl (by decide) rfl (fun ls hl => ?_)
  refine lv_goto (tgt := 5) hx hb dX6_mostHeard_49 (by decide) ?_
  refine lv_iload hx hb dX6_mostHeard_5 (lv_at hl 0 rfl) ?_
  refine lv_bipush (v := 64) hx hb dX6_mostHeard_7 (by decide) ?_
  refine cn_ge (X := 4) (Y := 64) hx hb dX6_mostHeard_9 rfl rfl (by omega) ?_ (tgt := 52) (by decide)
  refine lv_iload hx hb dX6_mostHeard_12 (lv_at hl 0 rfl) ?_
  refine lv_iload_n hx hb dX6_mostHeard_14 rfl (lv_at hl 3 rfl) ?_
  refine lv_iconst (v := (-1)) hx hb dX6_mostHeard_15 (by decide) ?_
  refine lv_ixor hx hb dX6_mostHeard_16 ?_
  refine tE (y := (-1)) (by decide) ?_
  refine lv_iand hx hb dX6_mostHeard_17 ?_
  refine tE (y := 4) (by decide) ?_
  refine bt_ne (tgt := 46) (X := 4) hx hb dX6_mostHeard_18 (by decide) rfl (by omega) ?_
  refine lv_iinc (v := 5) (lv' := [(4, .int 5), (3, .int 0), (0, .ref (a 34)), (1, .int 0), (2, .int x2)]) hx hb dX6_mostHeard_46 hl (k := 0) rfl rfl (by decide) rfl (fun ls hl => ?_)
  refine lv_goto (tgt := 5) hx hb dX6_mostHeard_49 (by decide) ?_
  refine lv_iload hx hb dX6_mostHeard_5 (lv_at hl 0 rfl) ?_
  refine lv_bipush (v := 64) hx hb dX6_mostHeard_7 (by decide) ?_
  refine cn_ge (X := 5) (Y := 64) hx hb dX6_mostHeard_9 rfl rfl (by omega) ?_ (tgt := 52) (by decide)
  refine lv_iload hx hb dX6_mostHeard_12 (lv_at hl 0 rfl) ?_
  refine lv_iload_n hx hb dX6_mostHeard_14 rfl (lv_at hl 3 rfl) ?_
  refine lv_iconst (v := (-1)) hx hb dX6_mostHeard_15 (by decide) ?_
  refine lv_ixor hx hb dX6_mostHeard_16 ?_
  refine tE (y := (-1)) (by decide) ?_
  refine lv_iand hx hb dX6_mostHeard_17 ?_
  refine tE (y := 5) (by decide) ?_
  refine bt_ne (tgt := 46) (X := 5) hx hb dX6_mostHeard_18 (by decide) rfl (by omega) ?_
  refine lv_iinc (v := 6) (lv' := [(4, .int 6), (3, .int 0), (0, .ref (a 34)), (1, .int 0), (2, .int x2)]) hx hb dX6_mostHeard_46 hl (k := 0) rfl rfl (by decide) rfl (fun ls hl => ?_)
  refine lv_goto (tgt := 5) hx hb dX6_mostHeard_49 (by decide) ?_
  refine lv_iload hx hb dX6_mostHeard_5 (lv_at hl 0 rfl) ?_
  refine lv_bipush (v := 64) hx hb dX6_mostHeard_7 (by decide) ?_
  refine cn_ge (X := 6) (Y := 64) hx hb dX6_mostHeard_9 rfl rfl (by omega) ?_ (tgt := 52) (by decide)
  refine lv_iload hx hb dX6_mostHeard_12 (lv_at hl 0 rfl) ?_
  refine lv_iload_n hx hb dX6_mostHeard_14 rfl (lv_at hl 3 rfl) ?_
  refine lv_iconst (v := (-1)) hx hb dX6_mostHeard_15 (by decide) ?_
  refine lv_ixor hx hb dX6_mostHeard_16 ?_
  refine tE (y := (-1)) (by decide) ?_
  refine lv_iand hx hb dX6_mostHeard_17 ?_
  refine tE (y := 6) (by decide) ?_
  refine bt_ne (tgt := 46) (X := 6) hx hb dX6_mostHeard_18 (by decide) rfl (by omega) ?_
  refine lv_iinc (v := 7) (lv' := [(4, .int 7), (3, .int 0), (0, .ref (a 34)), (1, .int 0), (2, .int x2)]) hx hb dX6_mostHeard_46 hl (k := 0) rfl rfl (by decide) rfl (fun ls hl => ?_)
  refine lv_goto (tgt := 5) hx hb dX6_mostHeard_49 (by decide) ?_
  refine lv_iload hx hb dX6_mostHeard_5 (lv_at hl 0 rfl) ?_
  refine lv_bipush (v := 64) hx hb dX6_mostHeard_7 (by decide) ?_
  refine cn_ge (X := 7) (Y := 64) hx hb dX6_mostHeard_9 rfl rfl (by omega) ?_ (tgt := 52) (by decide)
  refine lv_iload hx hb dX6_mostHeard_12 (lv_at hl 0 rfl) ?_
  refine lv_iload_n hx hb dX6_mostHeard_14 rfl (lv_at hl 3 rfl) ?_
  refine lv_iconst (v := (-1)) hx hb dX6_mostHeard_15 (by decide) ?_
  refine lv_ixor hx hb dX6_mostHeard_16 ?_
  refine tE (y := (-1)) (by decide) ?_
  refine lv_iand hx hb dX6_mostHeard_17 ?_
  refine tE (y := 7) (by decide) ?_
  refine bt_ne (tgt := 46) (X := 7) hx hb dX6_mostHeard_18 (by decide) rfl (by omega) ?_
  refine lv_iinc (v := 8) (lv' := [(4, .int 8), (3, .int 0), (0, .ref (a 34)), (1, .int 0), (2, .int x2)]) hx hb dX6_mostHeard_46 hl (k := 0) rfl rfl (by decide) rfl (fun ls hl => ?_)
  refine lv_goto (tgt := 5) hx hb dX6_mostHeard_49 (by decide) ?_
  refine lv_iload hx hb dX6_mostHeard_5 (lv_at hl 0 rfl) ?_
  refine lv_bipush (v := 64) hx hb dX6_mostHeard_7 (by decide) ?_
  refine cn_ge (X := 8) (Y := 64) hx hb dX6_mostHeard_9 rfl rfl (by omega) ?_ (tgt := 52) (by decide)
  refine lv_iload hx hb dX6_mostHeard_12 (lv_at hl 0 rfl) ?_
  refine lv_iload_n hx hb dX6_mostHeard_14 rfl (lv_at hl 3 rfl) ?_
  refine lv_iconst (v := (-1)) hx hb dX6_mostHeard_15 (by decide) ?_
  refine lv_ixor hx hb dX6_mostHeard_16 ?_
  refine tE (y := (-1)) (by decide) ?_
  refine lv_iand hx hb dX6_mostHeard_17 ?_
  refine tE (y := 8) (by decide) ?_
  refine bt_ne (tgt := 46) (X := 8) hx hb dX6_mostHeard_18 (by decide) rfl (by omega) ?_
  refine lv_iinc (v := 9) (lv' := [(4, .int 9), (3, .int 0), (0, .ref (a 34)), (1, .int 0), (2, .int x2)]) hx hb dX6_mostHeard_46 hl (k := 0) rfl rfl (by decide) rfl (fun ls hl => ?_)
  refine lv_goto (tgt := 5) hx hb dX6_mostHeard_49 (by decide) ?_
  refine lv_iload hx hb dX6_mostHeard_5 (lv_at hl 0 rfl) ?_
  refine lv_bipush (v := 64) hx hb dX6_mostHeard_7 (by decide) ?_
  refine cn_ge (X := 9) (Y := 64) hx hb dX6_mostHeard_9 rfl rfl (by omega) ?_ (tgt := 52) (by decide)
  refine lv_iload hx hb dX6_mostHeard_12 (lv_at hl 0 rfl) ?_
  refine lv_iload_n hx hb dX6_mostHeard_14 rfl (lv_at hl 3 rfl) ?_
  refine lv_iconst (v := (-1)) hx hb dX6_mostHeard_15 (by decide) ?_
  refine lv_ixor hx hb dX6_mostHeard_16 ?_
  refine tE (y := (-1)) (by decide) ?_
  refine lv_iand hx hb dX6_mostHeard_17 ?_
  refine tE (y := 9) (by decide) ?_
  refine bt_ne (tgt := 46) (X := 9) hx hb dX6_mostHeard_18 (by decide) rfl (by omega) ?_
  refine lv_iinc (v := 10) (lv' := [(4, .int 10), (3, .int 0), (0, .ref (a 34)), (1, .int 0), (2, .int x2)]) hx hb dX6_mostHeard_46 hl (k := 0) rfl rfl (by decide) rfl (fun ls hl => ?_)
  refine lv_goto (tgt := 5) hx hb dX6_mostHeard_49 (by decide) ?_
  refine lv_iload hx hb dX6_mostHeard_5 (lv_at hl 0 rfl) ?_
  refine lv_bipush (v := 64) hx hb dX6_mostHeard_7 (by decide) ?_
  refine cn_ge (X := 10) (Y := 64) hx hb dX6_mostHeard_9 rfl rfl (by omega) ?_ (tgt := 52) (by decide)
  refine lv_iload hx hb dX6_mostHeard_12 (lv_at hl 0 rfl) ?_
  refine lv_iload_n hx hb dX6_mostHeard_14 rfl (lv_at hl 3 rfl) ?_
  refine lv_iconst (v := (-1)) hx hb dX6_mostHeard_15 (by decide) ?_
  refine lv_ixor hx hb dX6_mostHeard_16 ?_
  refine tE (y := (-1)) (by decide) ?_
  refine lv_iand hx hb dX6_mostHeard_17 ?_
  refine tE (y := 10) (by decide) ?_
  refine bt_ne (tgt := 46) (X := 10) hx hb dX6_mostHeard_18 (by decide) rfl (by omega) ?_
  refine lv_iinc (v := 11) (lv' := [(4, .int 11), (3, .int 0), (0, .ref (a 34)), (1, .int 0), (2, .int x2)]) hx hb dX6_mostHeard_46 hl (k := 0) rfl rfl (by decide) rfl (fun ls hl => ?_)
  refine lv_goto (tgt := 5) hx hb dX6_mostHeard_49 (by decide) ?_
  refine lv_iload hx hb dX6_mostHeard_5 (lv_at hl 0 rfl) ?_
  refine lv_bipush (v := 64) hx hb dX6_mostHeard_7 (by decide) ?_
  refine cn_ge (X := 11) (Y := 64) hx hb dX6_mostHeard_9 rfl rfl (by omega) ?_ (tgt := 52) (by decide)
  refine lv_iload hx hb dX6_mostHeard_12 (lv_at hl 0 rfl) ?_
  refine lv_iload_n hx hb dX6_mostHeard_14 rfl (lv_at hl 3 rfl) ?_
  refine lv_iconst (v := (-1)) hx hb dX6_mostHeard_15 (by decide) ?_
  refine lv_ixor hx hb dX6_mostHeard_16 ?_
  refine tE (y := (-1)) (by decide) ?_
  refine lv_iand hx hb dX6_mostHeard_17 ?_
  refine tE (y := 11) (by decide) ?_
  refine bt_ne (tgt := 46) (X := 11) hx hb dX6_mostHeard_18 (by decide) rfl (by omega) ?_
  refine lv_iinc (v := 12) (lv' := [(4, .int 12), (3, .int 0), (0, .ref (a 34)), (1, .int 0), (2, .int x2)]) hx hb dX6_mostHeard_46 hl (k := 0) rfl rfl (by decide) rfl (fun ls hl => ?_)
  refine lv_goto (tgt := 5) hx hb dX6_mostHeard_49 (by decide) ?_
  refine lv_iload hx hb dX6_mostHeard_5 (lv_at hl 0 rfl) ?_
  refine lv_bipush (v := 64) hx hb dX6_mostHeard_7 (by decide) ?_
  refine cn_ge (X := 12) (Y := 64) hx hb dX6_mostHeard_9 rfl rfl (by omega) ?_ (tgt := 52) (by decide)
  refine lv_iload hx hb dX6_mostHeard_12 (lv_at hl 0 rfl) ?_
  refine lv_iload_n hx hb dX6_mostHeard_14 rfl (lv_at hl 3 rfl) ?_
  refine lv_iconst (v := (-1)) hx hb dX6_mostHeard_15 (by decide) ?_
  refine lv_ixor hx hb dX6_mostHeard_16 ?_
  refine tE (y := (-1)) (by decide) ?_
  refine lv_iand hx hb dX6_mostHeard_17 ?_
  refine tE (y := 12) (by decide) ?_
  refine bt_ne (tgt := 46) (X := 12) hx hb dX6_mostHeard_18 (by decide) rfl (by omega) ?_
  refine lv_iinc (v := 13) (lv' := [(4, .int 13), (3, .int 0), (0, .ref (a 34)), (1, .int 0), (2, .int x2)]) hx hb dX6_mostHeard_46 hl (k := 0) rfl rfl (by decide) rfl (fun ls hl => ?_)
  refine lv_goto (tgt := 5) hx hb dX6_mostHeard_49 (by decide) ?_
  refine lv_iload hx hb dX6_mostHeard_5 (lv_at hl 0 rfl) ?_
  refine lv_bipush (v := 64) hx hb dX6_mostHeard_7 (by decide) ?_
  refine cn_ge (X := 13) (Y := 64) hx hb dX6_mostHeard_9 rfl rfl (by omega) ?_ (tgt := 52) (by decide)
  refine lv_iload hx hb dX6_mostHeard_12 (lv_at hl 0 rfl) ?_
  refine lv_iload_n hx hb dX6_mostHeard_14 rfl (lv_at hl 3 rfl) ?_
  refine lv_iconst (v := (-1)) hx hb dX6_mostHeard_15 (by decide) ?_
  refine lv_ixor hx hb dX6_mostHeard_16 ?_
  refine tE (y := (-1)) (by decide) ?_
  refine lv_iand hx hb dX6_mostHeard_17 ?_
  refine tE (y := 13) (by decide) ?_
  refine bt_ne (tgt := 46) (X := 13) hx hb dX6_mostHeard_18 (by decide) rfl (by omega) ?_
  refine lv_iinc (v := 14) (lv' := [(4, .int 14), (3, .int 0), (0, .ref (a 34)), (1, .int 0), (2, .int x2)]) hx hb dX6_mostHeard_46 hl (k := 0) rfl rfl (by decide) rfl (fun ls hl => ?_)
  refine lv_goto (tgt := 5) hx hb dX6_mostHeard_49 (by decide) ?_
  refine lv_iload hx hb dX6_mostHeard_5 (lv_at hl 0 rfl) ?_
  refine lv_bipush (v := 64) hx hb dX6_mostHeard_7 (by decide) ?_
  refine cn_ge (X := 14) (Y := 64) hx hb dX6_mostHeard_9 rfl rfl (by omega) ?_ (tgt := 52) (by decide)
  refine lv_iload hx hb dX6_mostHeard_12 (lv_at hl 0 rfl) ?_
  refine lv_iload_n hx hb dX6_mostHeard_14 rfl (lv_at hl 3 rfl) ?_
  refine lv_iconst (v := (-1)) hx hb dX6_mostHeard_15 (by decide) ?_
  refine lv_ixor hx hb dX6_mostHeard_16 ?_
  refine tE (y := (-1)) (by decide) ?_
  refine lv_iand hx hb dX6_mostHeard_17 ?_
  refine tE (y := 14) (by decide) ?_
  refine bt_ne (tgt := 46) (X := 14) hx hb dX6_mostHeard_18 (by decide) rfl (by omega) ?_
  refine lv_iinc (v := 15) (lv' := [(4, .int 15), (3, .int 0), (0, .ref (a 34)), (1, .int 0), (2, .int x2)]) hx hb dX6_mostHeard_46 hl (k := 0) rfl rfl (by decide) rfl (fun ls hl => ?_)
  refine lv_goto (tgt := 5) hx hb dX6_mostHeard_49 (by decide) ?_
  refine lv_iload hx hb dX6_mostHeard_5 (lv_at hl 0 rfl) ?_
  refine lv_bipush (v := 64) hx hb dX6_mostHeard_7 (by decide) ?_
  refine cn_ge (X := 15) (Y := 64) hx hb dX6_mostHeard_9 rfl rfl (by omega) ?_ (tgt := 52) (by decide)
  refine lv_iload hx hb dX6_mostHeard_12 (lv_at hl 0 rfl) ?_
  refine lv_iload_n hx hb dX6_mostHeard_14 rfl (lv_at hl 3 rfl) ?_
  refine lv_iconst (v := (-1)) hx hb dX6_mostHeard_15 (by decide) ?_
  refine lv_ixor hx hb dX6_mostHeard_16 ?_
  refine tE (y := (-1)) (by decide) ?_
  refine lv_iand hx hb dX6_mostHeard_17 ?_
  refine tE (y := 15) (by decide) ?_
  refine bt_ne (tgt := 46) (X := 15) hx hb dX6_mostHeard_18 (by decide) rfl (by omega) ?_
  refine lv_iinc (v := 16) (lv' := [(4, .int 16), (3, .int 0), (0, .ref (a 34)), (1, .int 0), (2, .int x2)]) hx hb dX6_mostHeard_46 hl (k := 0) rfl rfl (by decide) rfl (fun ls hl => ?_)
  refine lv_goto (tgt := 5) hx hb dX6_mostHeard_49 (by decide) ?_
  refine lv_iload hx hb dX6_mostHeard_5 (lv_at hl 0 rfl) ?_
  refine lv_bipush (v := 64) hx hb dX6_mostHeard_7 (by decide) ?_
  refine cn_ge (X := 16) (Y := 64) hx hb dX6_mostHeard_9 rfl rfl (by omega) ?_ (tgt := 52) (by decide)
  refine lv_iload hx hb dX6_mostHeard_12 (lv_at hl 0 rfl) ?_
  refine lv_iload_n hx hb dX6_mostHeard_14 rfl (lv_at hl 3 rfl) ?_
  refine lv_iconst (v := (-1)) hx hb dX6_mostHeard_15 (by decide) ?_
  refine lv_ixor hx hb dX6_mostHeard_16 ?_
  refine tE (y := (-1)) (by decide) ?_
  refine lv_iand hx hb dX6_mostHeard_17 ?_
  refine tE (y := 16) (by decide) ?_
  refine bt_ne (tgt := 46) (X := 16) hx hb dX6_mostHeard_18 (by decide) rfl (by omega) ?_
  refine lv_iinc (v := 17) (lv' := [(4, .int 17), (3, .int 0), (0, .ref (a 34)), (1, .int 0), (2, .int x2)]) hx hb dX6_mostHeard_46 hl (k := 0) rfl rfl (by decide) rfl (fun ls hl => ?_)
  refine lv_goto (tgt := 5) hx hb dX6_mostHeard_49 (by decide) ?_
  refine lv_iload hx hb dX6_mostHeard_5 (lv_at hl 0 rfl) ?_
  refine lv_bipush (v := 64) hx hb dX6_mostHeard_7 (by decide) ?_
  refine cn_ge (X := 17) (Y := 64) hx hb dX6_mostHeard_9 rfl rfl (by omega) ?_ (tgt := 52) (by decide)
  refine lv_iload hx hb dX6_mostHeard_12 (lv_at hl 0 rfl) ?_
  refine lv_iload_n hx hb dX6_mostHeard_14 rfl (lv_at hl 3 rfl) ?_
  refine lv_iconst (v := (-1)) hx hb dX6_mostHeard_15 (by decide) ?_
  refine lv_ixor hx hb dX6_mostHeard_16 ?_
  refine tE (y := (-1)) (by decide) ?_
  refine lv_iand hx hb dX6_mostHeard_17 ?_
  refine tE (y := 17) (by decide) ?_
  refine bt_ne (tgt := 46) (X := 17) hx hb dX6_mostHeard_18 (by decide) rfl (by omega) ?_
  refine lv_iinc (v := 18) (lv' := [(4, .int 18), (3, .int 0), (0, .ref (a 34)), (1, .int 0), (2, .int x2)]) hx hb dX6_mostHeard_46 hl (k := 0) rfl rfl (by decide) rfl (fun ls hl => ?_)
  refine lv_goto (tgt := 5) hx hb dX6_mostHeard_49 (by decide) ?_
  refine lv_iload hx hb dX6_mostHeard_5 (lv_at hl 0 rfl) ?_
  refine lv_bipush (v := 64) hx hb dX6_mostHeard_7 (by decide) ?_
  refine cn_ge (X := 18) (Y := 64) hx hb dX6_mostHeard_9 rfl rfl (by omega) ?_ (tgt := 52) (by decide)
  refine lv_iload hx hb dX6_mostHeard_12 (lv_at hl 0 rfl) ?_
  refine lv_iload_n hx hb dX6_mostHeard_14 rfl (lv_at hl 3 rfl) ?_
  refine lv_iconst (v := (-1)) hx hb dX6_mostHeard_15 (by decide) ?_
  refine lv_ixor hx hb dX6_mostHeard_16 ?_
  refine tE (y := (-1)) (by decide) ?_
  refine lv_iand hx hb dX6_mostHeard_17 ?_
  refine tE (y := 18) (by decide) ?_
  refine bt_ne (tgt := 46) (X := 18) hx hb dX6_mostHeard_18 (by decide) rfl (by omega) ?_
  refine lv_iinc (v := 19) (lv' := [(4, .int 19), (3, .int 0), (0, .ref (a 34)), (1, .int 0), (2, .int x2)]) hx hb dX6_mostHeard_46 hl (k := 0) rfl rfl (by decide) rfl (fun ls hl => ?_)
  refine lv_goto (tgt := 5) hx hb dX6_mostHeard_49 (by decide) ?_
  refine lv_iload hx hb dX6_mostHeard_5 (lv_at hl 0 rfl) ?_
  refine lv_bipush (v := 64) hx hb dX6_mostHeard_7 (by decide) ?_
  refine cn_ge (X := 19) (Y := 64) hx hb dX6_mostHeard_9 rfl rfl (by omega) ?_ (tgt := 52) (by decide)
  refine lv_iload hx hb dX6_mostHeard_12 (lv_at hl 0 rfl) ?_
  refine lv_iload_n hx hb dX6_mostHeard_14 rfl (lv_at hl 3 rfl) ?_
  refine lv_iconst (v := (-1)) hx hb dX6_mostHeard_15 (by decide) ?_
  refine lv_ixor hx hb dX6_mostHeard_16 ?_
  refine tE (y := (-1)) (by decide) ?_
  refine lv_iand hx hb dX6_mostHeard_17 ?_
  refine tE (y := 19) (by decide) ?_
  refine bt_ne (tgt := 46) (X := 19) hx hb dX6_mostHeard_18 (by decide) rfl (by omega) ?_
  refine lv_iinc (v := 20) (lv' := [(4, .int 20), (3, .int 0), (0, .ref (a 34)), (1, .int 0), (2, .int x2)]) hx hb dX6_mostHeard_46 hl (k := 0) rfl rfl (by decide) rfl (fun ls hl => ?_)
  refine lv_goto (tgt := 5) hx hb dX6_mostHeard_49 (by decide) ?_
  refine lv_iload hx hb dX6_mostHeard_5 (lv_at hl 0 rfl) ?_
  refine lv_bipush (v := 64) hx hb dX6_mostHeard_7 (by decide) ?_
  refine cn_ge (X := 20) (Y := 64) hx hb dX6_mostHeard_9 rfl rfl (by omega) ?_ (tgt := 52) (by decide)
  refine lv_iload hx hb dX6_mostHeard_12 (lv_at hl 0 rfl) ?_
  refine lv_iload_n hx hb dX6_mostHeard_14 rfl (lv_at hl 3 rfl) ?_
  refine lv_iconst (v := (-1)) hx hb dX6_mostHeard_15 (by decide) ?_
  refine lv_ixor hx hb dX6_mostHeard_16 ?_
  refine tE (y := (-1)) (by decide) ?_
  refine lv_iand hx hb dX6_mostHeard_17 ?_
  refine tE (y := 20) (by decide) ?_
  refine bt_ne (tgt := 46) (X := 20) hx hb dX6_mostHeard_18 (by decide) rfl (by omega) ?_
  refine lv_iinc (v := 21) (lv' := [(4, .int 21), (3, .int 0), (0, .ref (a 34)), (1, .int 0), (2, .int x2)]) hx hb dX6_mostHeard_46 hl (k := 0) rfl rfl (by decide) rfl (fun ls hl => ?_)
  refine lv_goto (tgt := 5) hx hb dX6_mostHeard_49 (by decide) ?_
  refine lv_iload hx hb dX6_mostHeard_5 (lv_at hl 0 rfl) ?_
  refine lv_bipush (v := 64) hx hb dX6_mostHeard_7 (by decide) ?_
  refine cn_ge (X := 21) (Y := 64) hx hb dX6_mostHeard_9 rfl rfl (by omega) ?_ (tgt := 52) (by decide)
  refine lv_iload hx hb dX6_mostHeard_12 (lv_at hl 0 rfl) ?_
  refine lv_iload_n hx hb dX6_mostHeard_14 rfl (lv_at hl 3 rfl) ?_
  refine lv_iconst (v := (-1)) hx hb dX6_mostHeard_15 (by decide) ?_
  refine lv_ixor hx hb dX6_mostHeard_16 ?_
  refine tE (y := (-1)) (by decide) ?_
  refine lv_iand hx hb dX6_mostHeard_17 ?_
  refine tE (y := 21) (by decide) ?_
  refine bt_ne (tgt := 46) (X := 21) hx hb dX6_mostHeard_18 (by decide) rfl (by omega) ?_
  refine lv_iinc (v := 22) (lv' := [(4, .int 22), (3, .int 0), (0, .ref (a 34)), (1, .int 0), (2, .int x2)]) hx hb dX6_mostHeard_46 hl (k := 0) rfl rfl (by decide) rfl (fun ls hl => ?_)
  refine lv_goto (tgt := 5) hx hb dX6_mostHeard_49 (by decide) ?_
  refine lv_iload hx hb dX6_mostHeard_5 (lv_at hl 0 rfl) ?_
  refine lv_bipush (v := 64) hx hb dX6_mostHeard_7 (by decide) ?_
  refine cn_ge (X := 22) (Y := 64) hx hb dX6_mostHeard_9 rfl rfl (by omega) ?_ (tgt := 52) (by decide)
  refine lv_iload hx hb dX6_mostHeard_12 (lv_at hl 0 rfl) ?_
  refine lv_iload_n hx hb dX6_mostHeard_14 rfl (lv_at hl 3 rfl) ?_
  refine lv_iconst (v := (-1)) hx hb dX6_mostHeard_15 (by decide) ?_
  refine lv_ixor hx hb dX6_mostHeard_16 ?_
  refine tE (y := (-1)) (by decide) ?_
  refine lv_iand hx hb dX6_mostHeard_17 ?_
  refine tE (y := 22) (by decide) ?_
  refine bt_ne (tgt := 46) (X := 22) hx hb dX6_mostHeard_18 (by decide) rfl (by omega) ?_
  refine lv_iinc (v := 23) (lv' := [(4, .int 23), (3, .int 0), (0, .ref (a 34)), (1, .int 0), (2, .int x2)]) hx hb dX6_mostHeard_46 hl (k := 0) rfl rfl (by decide) rfl (fun ls hl => ?_)
  refine lv_goto (tgt := 5) hx hb dX6_mostHeard_49 (by decide) ?_
  refine lv_iload hx hb dX6_mostHeard_5 (lv_at hl 0 rfl) ?_
  refine lv_bipush (v := 64) hx hb dX6_mostHeard_7 (by decide) ?_
  refine cn_ge (X := 23) (Y := 64) hx hb dX6_mostHeard_9 rfl rfl (by omega) ?_ (tgt := 52) (by decide)
  refine lv_iload hx hb dX6_mostHeard_12 (lv_at hl 0 rfl) ?_
  refine lv_iload_n hx hb dX6_mostHeard_14 rfl (lv_at hl 3 rfl) ?_
  refine lv_iconst (v := (-1)) hx hb dX6_mostHeard_15 (by decide) ?_
  refine lv_ixor hx hb dX6_mostHeard_16 ?_
  refine tE (y := (-1)) (by decide) ?_
  refine lv_iand hx hb dX6_mostHeard_17 ?_
  refine tE (y := 23) (by decide) ?_
  refine bt_ne (tgt := 46) (X := 23) hx hb dX6_mostHeard_18 (by decide) rfl (by omega) ?_
  refine lv_iinc (v := 24) (lv' := [(4, .int 24), (3, .int 0), (0, .ref (a 34)), (1, .int 0), (2, .int x2)]) hx hb dX6_mostHeard_46 hl (k := 0) rfl rfl (by decide) rfl (fun ls hl => ?_)
  refine lv_goto (tgt := 5) hx hb dX6_mostHeard_49 (by decide) ?_
  refine lv_iload hx hb dX6_mostHeard_5 (lv_at hl 0 rfl) ?_
  refine lv_bipush (v := 64) hx hb dX6_mostHeard_7 (by decide) ?_
  refine cn_ge (X := 24) (Y := 64) hx hb dX6_mostHeard_9 rfl rfl (by omega) ?_ (tgt := 52) (by decide)
  refine lv_iload hx hb dX6_mostHeard_12 (lv_at hl 0 rfl) ?_
  refine lv_iload_n hx hb dX6_mostHeard_14 rfl (lv_at hl 3 rfl) ?_
  refine lv_iconst (v := (-1)) hx hb dX6_mostHeard_15 (by decide) ?_
  refine lv_ixor hx hb dX6_mostHeard_16 ?_
  refine tE (y := (-1)) (by decide) ?_
  refine lv_iand hx hb dX6_mostHeard_17 ?_
  refine tE (y := 24) (by decide) ?_
  refine bt_ne (tgt := 46) (X := 24) hx hb dX6_mostHeard_18 (by decide) rfl (by omega) ?_
  refine lv_iinc (v := 25) (lv' := [(4, .int 25), (3, .int 0), (0, .ref (a 34)), (1, .int 0), (2, .int x2)]) hx hb dX6_mostHeard_46 hl (k := 0) rfl rfl (by decide) rfl (fun ls hl => ?_)
  refine lv_goto (tgt := 5) hx hb dX6_mostHeard_49 (by decide) ?_
  refine lv_iload hx hb dX6_mostHeard_5 (lv_at hl 0 rfl) ?_
  refine lv_bipush (v := 64) hx hb dX6_mostHeard_7 (by decide) ?_
  refine cn_ge (X := 25) (Y := 64) hx hb dX6_mostHeard_9 rfl rfl (by omega) ?_ (tgt := 52) (by decide)
  refine lv_iload hx hb dX6_mostHeard_12 (lv_at hl 0 rfl) ?_
  refine lv_iload_n hx hb dX6_mostHeard_14 rfl (lv_at hl 3 rfl) ?_
  refine lv_iconst (v := (-1)) hx hb dX6_mostHeard_15 (by decide) ?_
  refine lv_ixor hx hb dX6_mostHeard_16 ?_
  refine tE (y := (-1)) (by decide) ?_
  refine lv_iand hx hb dX6_mostHeard_17 ?_
  refine tE (y := 25) (by decide) ?_
  refine bt_ne (tgt := 46) (X := 25) hx hb dX6_mostHeard_18 (by decide) rfl (by omega) ?_
  refine lv_iinc (v := 26) (lv' := [(4, .int 26), (3, .int 0), (0, .ref (a 34)), (1, .int 0), (2, .int x2)]) hx hb dX6_mostHeard_46 hl (k := 0) rfl rfl (by decide) rfl (fun ls hl => ?_)
  refine lv_goto (tgt := 5) hx hb dX6_mostHeard_49 (by decide) ?_
  refine lv_iload hx hb dX6_mostHeard_5 (lv_at hl 0 rfl) ?_
  refine lv_bipush (v := 64) hx hb dX6_mostHeard_7 (by decide) ?_
  refine cn_ge (X := 26) (Y := 64) hx hb dX6_mostHeard_9 rfl rfl (by omega) ?_ (tgt := 52) (by decide)
  refine lv_iload hx hb dX6_mostHeard_12 (lv_at hl 0 rfl) ?_
  refine lv_iload_n hx hb dX6_mostHeard_14 rfl (lv_at hl 3 rfl) ?_
  refine lv_iconst (v := (-1)) hx hb dX6_mostHeard_15 (by decide) ?_
  refine lv_ixor hx hb dX6_mostHeard_16 ?_
  refine tE (y := (-1)) (by decide) ?_
  refine lv_iand hx hb dX6_mostHeard_17 ?_
  refine tE (y := 26) (by decide) ?_
  refine bt_ne (tgt := 46) (X := 26) hx hb dX6_mostHeard_18 (by decide) rfl (by omega) ?_
  refine lv_iinc (v := 27) (lv' := [(4, .int 27), (3, .int 0), (0, .ref (a 34)), (1, .int 0), (2, .int x2)]) hx hb dX6_mostHeard_46 hl (k := 0) rfl rfl (by decide) rfl (fun ls hl => ?_)
  refine lv_goto (tgt := 5) hx hb dX6_mostHeard_49 (by decide) ?_
  refine lv_iload hx hb dX6_mostHeard_5 (lv_at hl 0 rfl) ?_
  refine lv_bipush (v := 64) hx hb dX6_mostHeard_7 (by decide) ?_
  refine cn_ge (X := 27) (Y := 64) hx hb dX6_mostHeard_9 rfl rfl (by omega) ?_ (tgt := 52) (by decide)
  refine lv_iload hx hb dX6_mostHeard_12 (lv_at hl 0 rfl) ?_
  refine lv_iload_n hx hb dX6_mostHeard_14 rfl (lv_at hl 3 rfl) ?_
  refine lv_iconst (v := (-1)) hx hb dX6_mostHeard_15 (by decide) ?_
  refine lv_ixor hx hb dX6_mostHeard_16 ?_
  refine tE (y := (-1)) (by decide) ?_
  refine lv_iand hx hb dX6_mostHeard_17 ?_
  refine tE (y := 27) (by decide) ?_
  refine bt_ne (tgt := 46) (X := 27) hx hb dX6_mostHeard_18 (by decide) rfl (by omega) ?_
  refine lv_iinc (v := 28) (lv' := [(4, .int 28), (3, .int 0), (0, .ref (a 34)), (1, .int 0), (2, .int x2)]) hx hb dX6_mostHeard_46 hl (k := 0) rfl rfl (by decide) rfl (fun ls hl => ?_)
  refine lv_goto (tgt := 5) hx hb dX6_mostHeard_49 (by decide) ?_
  refine lv_iload hx hb dX6_mostHeard_5 (lv_at hl 0 rfl) ?_
  refine lv_bipush (v := 64) hx hb dX6_mostHeard_7 (by decide) ?_
  refine cn_ge (X := 28) (Y := 64) hx hb dX6_mostHeard_9 rfl rfl (by omega) ?_ (tgt := 52) (by decide)
  refine lv_iload hx hb dX6_mostHeard_12 (lv_at hl 0 rfl) ?_
  refine lv_iload_n hx hb dX6_mostHeard_14 rfl (lv_at hl 3 rfl) ?_
  refine lv_iconst (v := (-1)) hx hb dX6_mostHeard_15 (by decide) ?_
  refine lv_ixor hx hb dX6_mostHeard_16 ?_
  refine tE (y := (-1)) (by decide) ?_
  refine lv_iand hx hb dX6_mostHeard_17 ?_
  refine tE (y := 28) (by decide) ?_
  refine bt_ne (tgt := 46) (X := 28) hx hb dX6_mostHeard_18 (by decide) rfl (by omega) ?_
  refine lv_iinc (v := 29) (lv' := [(4, .int 29), (3, .int 0), (0, .ref (a 34)), (1, .int 0), (2, .int x2)]) hx hb dX6_mostHeard_46 hl (k := 0) rfl rfl (by decide) rfl (fun ls hl => ?_)
  refine lv_goto (tgt := 5) hx hb dX6_mostHeard_49 (by decide) ?_
  refine lv_iload hx hb dX6_mostHeard_5 (lv_at hl 0 rfl) ?_
  refine lv_bipush (v := 64) hx hb dX6_mostHeard_7 (by decide) ?_
  refine cn_ge (X := 29) (Y := 64) hx hb dX6_mostHeard_9 rfl rfl (by omega) ?_ (tgt := 52) (by decide)
  refine lv_iload hx hb dX6_mostHeard_12 (lv_at hl 0 rfl) ?_
  refine lv_iload_n hx hb dX6_mostHeard_14 rfl (lv_at hl 3 rfl) ?_
  refine lv_iconst (v := (-1)) hx hb dX6_mostHeard_15 (by decide) ?_
  refine lv_ixor hx hb dX6_mostHeard_16 ?_
  refine tE (y := (-1)) (by decide) ?_
  refine lv_iand hx hb dX6_mostHeard_17 ?_
  refine tE (y := 29) (by decide) ?_
  refine bt_ne (tgt := 46) (X := 29) hx hb dX6_mostHeard_18 (by decide) rfl (by omega) ?_
  refine lv_iinc (v := 30) (lv' := [(4, .int 30), (3, .int 0), (0, .ref (a 34)), (1, .int 0), (2, .int x2)]) hx hb dX6_mostHeard_46 hl (k := 0) rfl rfl (by decide) rfl (fun ls hl => ?_)
  refine lv_goto (tgt := 5) hx hb dX6_mostHeard_49 (by decide) ?_
  refine lv_iload hx hb dX6_mostHeard_5 (lv_at hl 0 rfl) ?_
  refine lv_bipush (v := 64) hx hb dX6_mostHeard_7 (by decide) ?_
  refine cn_ge (X := 30) (Y := 64) hx hb dX6_mostHeard_9 rfl rfl (by omega) ?_ (tgt := 52) (by decide)
  refine lv_iload hx hb dX6_mostHeard_12 (lv_at hl 0 rfl) ?_
  refine lv_iload_n hx hb dX6_mostHeard_14 rfl (lv_at hl 3 rfl) ?_
  refine lv_iconst (v := (-1)) hx hb dX6_mostHeard_15 (by decide) ?_
  refine lv_ixor hx hb dX6_mostHeard_16 ?_
  refine tE (y := (-1)) (by decide) ?_
  refine lv_iand hx hb dX6_mostHeard_17 ?_
  refine tE (y := 30) (by decide) ?_
  refine bt_ne (tgt := 46) (X := 30) hx hb dX6_mostHeard_18 (by decide) rfl (by omega) ?_
  refine lv_iinc (v := 31) (lv' := [(4, .int 31), (3, .int 0), (0, .ref (a 34)), (1, .int 0), (2, .int x2)]) hx hb dX6_mostHeard_46 hl (k := 0) rfl rfl (by decide) rfl (fun ls hl => ?_)
  refine lv_goto (tgt := 5) hx hb dX6_mostHeard_49 (by decide) ?_
  refine lv_iload hx hb dX6_mostHeard_5 (lv_at hl 0 rfl) ?_
  refine lv_bipush (v := 64) hx hb dX6_mostHeard_7 (by decide) ?_
  refine cn_ge (X := 31) (Y := 64) hx hb dX6_mostHeard_9 rfl rfl (by omega) ?_ (tgt := 52) (by decide)
  refine lv_iload hx hb dX6_mostHeard_12 (lv_at hl 0 rfl) ?_
  refine lv_iload_n hx hb dX6_mostHeard_14 rfl (lv_at hl 3 rfl) ?_
  refine lv_iconst (v := (-1)) hx hb dX6_mostHeard_15 (by decide) ?_
  refine lv_ixor hx hb dX6_mostHeard_16 ?_
  refine tE (y := (-1)) (by decide) ?_
  refine lv_iand hx hb dX6_mostHeard_17 ?_
  refine tE (y := 31) (by decide) ?_
  refine bt_ne (tgt := 46) (X := 31) hx hb dX6_mostHeard_18 (by decide) rfl (by omega) ?_
  refine lv_iinc (v := 32) (lv' := [(4, .int 32), (3, .int 0), (0, .ref (a 34)), (1, .int 0), (2, .int x2)]) hx hb dX6_mostHeard_46 hl (k := 0) rfl rfl (by decide) rfl (fun ls hl => ?_)
  refine lv_goto (tgt := 5) hx hb dX6_mostHeard_49 (by decide) ?_
  refine lv_iload hx hb dX6_mostHeard_5 (lv_at hl 0 rfl) ?_
  refine lv_bipush (v := 64) hx hb dX6_mostHeard_7 (by decide) ?_
  refine cn_ge (X := 32) (Y := 64) hx hb dX6_mostHeard_9 rfl rfl (by omega) ?_ (tgt := 52) (by decide)
  refine lv_iload hx hb dX6_mostHeard_12 (lv_at hl 0 rfl) ?_
  refine lv_iload_n hx hb dX6_mostHeard_14 rfl (lv_at hl 3 rfl) ?_
  refine lv_iconst (v := (-1)) hx hb dX6_mostHeard_15 (by decide) ?_
  refine lv_ixor hx hb dX6_mostHeard_16 ?_
  refine tE (y := (-1)) (by decide) ?_
  refine lv_iand hx hb dX6_mostHeard_17 ?_
  refine tE (y := 32) (by decide) ?_
  refine bt_ne (tgt := 46) (X := 32) hx hb dX6_mostHeard_18 (by decide) rfl (by omega) ?_
  refine lv_iinc (v := 33) (lv' := [(4, .int 33), (3, .int 0), (0, .ref (a 34)), (1, .int 0), (2, .int x2)]) hx hb dX6_mostHeard_46 hl (k := 0) rfl rfl (by decide) rfl (fun ls hl => ?_)
  refine lv_goto (tgt := 5) hx hb dX6_mostHeard_49 (by decide) ?_
  refine lv_iload hx hb dX6_mostHeard_5 (lv_at hl 0 rfl) ?_
  refine lv_bipush (v := 64) hx hb dX6_mostHeard_7 (by decide) ?_
  refine cn_ge (X := 33) (Y := 64) hx hb dX6_mostHeard_9 rfl rfl (by omega) ?_ (tgt := 52) (by decide)
  refine lv_iload hx hb dX6_mostHeard_12 (lv_at hl 0 rfl) ?_
  refine lv_iload_n hx hb dX6_mostHeard_14 rfl (lv_at hl 3 rfl) ?_
  refine lv_iconst (v := (-1)) hx hb dX6_mostHeard_15 (by decide) ?_
  refine lv_ixor hx hb dX6_mostHeard_16 ?_
  refine tE (y := (-1)) (by decide) ?_
  refine lv_iand hx hb dX6_mostHeard_17 ?_
  refine tE (y := 33) (by decide) ?_
  refine bt_ne (tgt := 46) (X := 33) hx hb dX6_mostHeard_18 (by decide) rfl (by omega) ?_
  refine lv_iinc (v := 34) (lv' := [(4, .int 34), (3, .int 0), (0, .ref (a 34)), (1, .int 0), (2, .int x2)]) hx hb dX6_mostHeard_46 hl (k := 0) rfl rfl (by decide) rfl (fun ls hl => ?_)
  refine lv_goto (tgt := 5) hx hb dX6_mostHeard_49 (by decide) ?_
  refine lv_iload hx hb dX6_mostHeard_5 (lv_at hl 0 rfl) ?_
  refine lv_bipush (v := 64) hx hb dX6_mostHeard_7 (by decide) ?_
  refine cn_ge (X := 34) (Y := 64) hx hb dX6_mostHeard_9 rfl rfl (by omega) ?_ (tgt := 52) (by decide)
  refine lv_iload hx hb dX6_mostHeard_12 (lv_at hl 0 rfl) ?_
  refine lv_iload_n hx hb dX6_mostHeard_14 rfl (lv_at hl 3 rfl) ?_
  refine lv_iconst (v := (-1)) hx hb dX6_mostHeard_15 (by decide) ?_
  refine lv_ixor hx hb dX6_mostHeard_16 ?_
  refine tE (y := (-1)) (by decide) ?_
  refine lv_iand hx hb dX6_mostHeard_17 ?_
  refine tE (y := 34) (by decide) ?_
  refine bt_ne (tgt := 46) (X := 34) hx hb dX6_mostHeard_18 (by decide) rfl (by omega) ?_
  refine lv_iinc (v := 35) (lv' := [(4, .int 35), (3, .int 0), (0, .ref (a 34)), (1, .int 0), (2, .int x2)]) hx hb dX6_mostHeard_46 hl (k := 0) rfl rfl (by decide) rfl (fun ls hl => ?_)
  refine lv_goto (tgt := 5) hx hb dX6_mostHeard_49 (by decide) ?_
  refine lv_iload hx hb dX6_mostHeard_5 (lv_at hl 0 rfl) ?_
  refine lv_bipush (v := 64) hx hb dX6_mostHeard_7 (by decide) ?_
  refine cn_ge (X := 35) (Y := 64) hx hb dX6_mostHeard_9 rfl rfl (by omega) ?_ (tgt := 52) (by decide)
  refine lv_iload hx hb dX6_mostHeard_12 (lv_at hl 0 rfl) ?_
  refine lv_iload_n hx hb dX6_mostHeard_14 rfl (lv_at hl 3 rfl) ?_
  refine lv_iconst (v := (-1)) hx hb dX6_mostHeard_15 (by decide) ?_
  refine lv_ixor hx hb dX6_mostHeard_16 ?_
  refine tE (y := (-1)) (by decide) ?_
  refine lv_iand hx hb dX6_mostHeard_17 ?_
  refine tE (y := 35) (by decide) ?_
  refine bt_ne (tgt := 46) (X := 35) hx hb dX6_mostHeard_18 (by decide) rfl (by omega) ?_
  refine lv_iinc (v := 36) (lv' := [(4, .int 36), (3, .int 0), (0, .ref (a 34)), (1, .int 0), (2, .int x2)]) hx hb dX6_mostHeard_46 hl (k := 0) rfl rfl (by decide) rfl (fun ls hl => ?_)
  refine lv_goto (tgt := 5) hx hb dX6_mostHeard_49 (by decide) ?_
  refine lv_iload hx hb dX6_mostHeard_5 (lv_at hl 0 rfl) ?_
  refine lv_bipush (v := 64) hx hb dX6_mostHeard_7 (by decide) ?_
  refine cn_ge (X := 36) (Y := 64) hx hb dX6_mostHeard_9 rfl rfl (by omega) ?_ (tgt := 52) (by decide)
  refine lv_iload hx hb dX6_mostHeard_12 (lv_at hl 0 rfl) ?_
  refine lv_iload_n hx hb dX6_mostHeard_14 rfl (lv_at hl 3 rfl) ?_
  refine lv_iconst (v := (-1)) hx hb dX6_mostHeard_15 (by decide) ?_
  refine lv_ixor hx hb dX6_mostHeard_16 ?_
  refine tE (y := (-1)) (by decide) ?_
  refine lv_iand hx hb dX6_mostHeard_17 ?_
  refine tE (y := 36) (by decide) ?_
  refine bt_ne (tgt := 46) (X := 36) hx hb dX6_mostHeard_18 (by decide) rfl (by omega) ?_
  refine lv_iinc (v := 37) (lv' := [(4, .int 37), (3, .int 0), (0, .ref (a 34)), (1, .int 0), (2, .int x2)]) hx hb dX6_mostHeard_46 hl (k := 0) rfl rfl (by decide) rfl (fun ls hl => ?_)
  refine lv_goto (tgt := 5) hx hb dX6_mostHeard_49 (by decide) ?_
  refine lv_iload hx hb dX6_mostHeard_5 (lv_at hl 0 rfl) ?_
  refine lv_bipush (v := 64) hx hb dX6_mostHeard_7 (by decide) ?_
  refine cn_ge (X := 37) (Y := 64) hx hb dX6_mostHeard_9 rfl rfl (by omega) ?_ (tgt := 52) (by decide)
  refine lv_iload hx hb dX6_mostHeard_12 (lv_at hl 0 rfl) ?_
  refine lv_iload_n hx hb dX6_mostHeard_14 rfl (lv_at hl 3 rfl) ?_
  refine lv_iconst (v := (-1)) hx hb dX6_mostHeard_15 (by decide) ?_
  refine lv_ixor hx hb dX6_mostHeard_16 ?_
  refine tE (y := (-1)) (by decide) ?_
  refine lv_iand hx hb dX6_mostHeard_17 ?_
  refine tE (y := 37) (by decide) ?_
  refine bt_ne (tgt := 46) (X := 37) hx hb dX6_mostHeard_18 (by decide) rfl (by omega) ?_
  refine lv_iinc (v := 38) (lv' := [(4, .int 38), (3, .int 0), (0, .ref (a 34)), (1, .int 0), (2, .int x2)]) hx hb dX6_mostHeard_46 hl (k := 0) rfl rfl (by decide) rfl (fun ls hl => ?_)
  refine lv_goto (tgt := 5) hx hb dX6_mostHeard_49 (by decide) ?_
  refine lv_iload hx hb dX6_mostHeard_5 (lv_at hl 0 rfl) ?_
  refine lv_bipush (v := 64) hx hb dX6_mostHeard_7 (by decide) ?_
  refine cn_ge (X := 38) (Y := 64) hx hb dX6_mostHeard_9 rfl rfl (by omega) ?_ (tgt := 52) (by decide)
  refine lv_iload hx hb dX6_mostHeard_12 (lv_at hl 0 rfl) ?_
  refine lv_iload_n hx hb dX6_mostHeard_14 rfl (lv_at hl 3 rfl) ?_
  refine lv_iconst (v := (-1)) hx hb dX6_mostHeard_15 (by decide) ?_
  refine lv_ixor hx hb dX6_mostHeard_16 ?_
  refine tE (y := (-1)) (by decide) ?_
  refine lv_iand hx hb dX6_mostHeard_17 ?_
  refine tE (y := 38) (by decide) ?_
  refine bt_ne (tgt := 46) (X := 38) hx hb dX6_mostHeard_18 (by decide) rfl (by omega) ?_
  refine lv_iinc (v := 39) (lv' := [(4, .int 39), (3, .int 0), (0, .ref (a 34)), (1, .int 0), (2, .int x2)]) hx hb dX6_mostHeard_46 hl (k := 0) rfl rfl (by decide) rfl (fun ls hl => ?_)
  refine lv_goto (tgt := 5) hx hb dX6_mostHeard_49 (by decide) ?_
  refine lv_iload hx hb dX6_mostHeard_5 (lv_at hl 0 rfl) ?_
  refine lv_bipush (v := 64) hx hb dX6_mostHeard_7 (by decide) ?_
  refine cn_ge (X := 39) (Y := 64) hx hb dX6_mostHeard_9 rfl rfl (by omega) ?_ (tgt := 52) (by decide)
  refine lv_iload hx hb dX6_mostHeard_12 (lv_at hl 0 rfl) ?_
  refine lv_iload_n hx hb dX6_mostHeard_14 rfl (lv_at hl 3 rfl) ?_
  refine lv_iconst (v := (-1)) hx hb dX6_mostHeard_15 (by decide) ?_
  refine lv_ixor hx hb dX6_mostHeard_16 ?_
  refine tE (y := (-1)) (by decide) ?_
  refine lv_iand hx hb dX6_mostHeard_17 ?_
  refine tE (y := 39) (by decide) ?_
  refine bt_ne (tgt := 46) (X := 39) hx hb dX6_mostHeard_18 (by decide) rfl (by omega) ?_
  refine lv_iinc (v := 40) (lv' := [(4, .int 40), (3, .int 0), (0, .ref (a 34)), (1, .int 0), (2, .int x2)]) hx hb dX6_mostHeard_46 hl (k := 0) rfl rfl (by decide) rfl (fun ls hl => ?_)
  refine lv_goto (tgt := 5) hx hb dX6_mostHeard_49 (by decide) ?_
  refine lv_iload hx hb dX6_mostHeard_5 (lv_at hl 0 rfl) ?_
  refine lv_bipush (v := 64) hx hb dX6_mostHeard_7 (by decide) ?_
  refine cn_ge (X := 40) (Y := 64) hx hb dX6_mostHeard_9 rfl rfl (by omega) ?_ (tgt := 52) (by decide)
  refine lv_iload hx hb dX6_mostHeard_12 (lv_at hl 0 rfl) ?_
  refine lv_iload_n hx hb dX6_mostHeard_14 rfl (lv_at hl 3 rfl) ?_
  refine lv_iconst (v := (-1)) hx hb dX6_mostHeard_15 (by decide) ?_
  refine lv_ixor hx hb dX6_mostHeard_16 ?_
  refine tE (y := (-1)) (by decide) ?_
  refine lv_iand hx hb dX6_mostHeard_17 ?_
  refine tE (y := 40) (by decide) ?_
  refine bt_ne (tgt := 46) (X := 40) hx hb dX6_mostHeard_18 (by decide) rfl (by omega) ?_
  refine lv_iinc (v := 41) (lv' := [(4, .int 41), (3, .int 0), (0, .ref (a 34)), (1, .int 0), (2, .int x2)]) hx hb dX6_mostHeard_46 hl (k := 0) rfl rfl (by decide) rfl (fun ls hl => ?_)
  refine lv_goto (tgt := 5) hx hb dX6_mostHeard_49 (by decide) ?_
  refine lv_iload hx hb dX6_mostHeard_5 (lv_at hl 0 rfl) ?_
  refine lv_bipush (v := 64) hx hb dX6_mostHeard_7 (by decide) ?_
  refine cn_ge (X := 41) (Y := 64) hx hb dX6_mostHeard_9 rfl rfl (by omega) ?_ (tgt := 52) (by decide)
  refine lv_iload hx hb dX6_mostHeard_12 (lv_at hl 0 rfl) ?_
  refine lv_iload_n hx hb dX6_mostHeard_14 rfl (lv_at hl 3 rfl) ?_
  refine lv_iconst (v := (-1)) hx hb dX6_mostHeard_15 (by decide) ?_
  refine lv_ixor hx hb dX6_mostHeard_16 ?_
  refine tE (y := (-1)) (by decide) ?_
  refine lv_iand hx hb dX6_mostHeard_17 ?_
  refine tE (y := 41) (by decide) ?_
  refine bt_ne (tgt := 46) (X := 41) hx hb dX6_mostHeard_18 (by decide) rfl (by omega) ?_
  refine lv_iinc (v := 42) (lv' := [(4, .int 42), (3, .int 0), (0, .ref (a 34)), (1, .int 0), (2, .int x2)]) hx hb dX6_mostHeard_46 hl (k := 0) rfl rfl (by decide) rfl (fun ls hl => ?_)
  refine lv_goto (tgt := 5) hx hb dX6_mostHeard_49 (by decide) ?_
  refine lv_iload hx hb dX6_mostHeard_5 (lv_at hl 0 rfl) ?_
  refine lv_bipush (v := 64) hx hb dX6_mostHeard_7 (by decide) ?_
  refine cn_ge (X := 42) (Y := 64) hx hb dX6_mostHeard_9 rfl rfl (by omega) ?_ (tgt := 52) (by decide)
  refine lv_iload hx hb dX6_mostHeard_12 (lv_at hl 0 rfl) ?_
  refine lv_iload_n hx hb dX6_mostHeard_14 rfl (lv_at hl 3 rfl) ?_
  refine lv_iconst (v := (-1)) hx hb dX6_mostHeard_15 (by decide) ?_
  refine lv_ixor hx hb dX6_mostHeard_16 ?_
  refine tE (y := (-1)) (by decide) ?_
  refine lv_iand hx hb dX6_mostHeard_17 ?_
  refine tE (y := 42) (by decide) ?_
  refine bt_ne (tgt := 46) (X := 42) hx hb dX6_mostHeard_18 (by decide) rfl (by omega) ?_
  refine lv_iinc (v := 43) (lv' := [(4, .int 43), (3, .int 0), (0, .ref (a 34)), (1, .int 0), (2, .int x2)]) hx hb dX6_mostHeard_46 hl (k := 0) rfl rfl (by decide) rfl (fun ls hl => ?_)
  refine lv_goto (tgt := 5) hx hb dX6_mostHeard_49 (by decide) ?_
  refine lv_iload hx hb dX6_mostHeard_5 (lv_at hl 0 rfl) ?_
  refine lv_bipush (v := 64) hx hb dX6_mostHeard_7 (by decide) ?_
  refine cn_ge (X := 43) (Y := 64) hx hb dX6_mostHeard_9 rfl rfl (by omega) ?_ (tgt := 52) (by decide)
  refine lv_iload hx hb dX6_mostHeard_12 (lv_at hl 0 rfl) ?_
  refine lv_iload_n hx hb dX6_mostHeard_14 rfl (lv_at hl 3 rfl) ?_
  refine lv_iconst (v := (-1)) hx hb dX6_mostHeard_15 (by decide) ?_
  refine lv_ixor hx hb dX6_mostHeard_16 ?_
  refine tE (y := (-1)) (by decide) ?_
  refine lv_iand hx hb dX6_mostHeard_17 ?_
  refine tE (y := 43) (by decide) ?_
  refine bt_ne (tgt := 46) (X := 43) hx hb dX6_mostHeard_18 (by decide) rfl (by omega) ?_
  refine lv_iinc (v := 44) (lv' := [(4, .int 44), (3, .int 0), (0, .ref (a 34)), (1, .int 0), (2, .int x2)]) hx hb dX6_mostHeard_46 hl (k := 0) rfl rfl (by decide) rfl (fun ls hl => ?_)
  refine lv_goto (tgt := 5) hx hb dX6_mostHeard_49 (by decide) ?_
  refine lv_iload hx hb dX6_mostHeard_5 (lv_at hl 0 rfl) ?_
  refine lv_bipush (v := 64) hx hb dX6_mostHeard_7 (by decide) ?_
  refine cn_ge (X := 44) (Y := 64) hx hb dX6_mostHeard_9 rfl rfl (by omega) ?_ (tgt := 52) (by decide)
  refine lv_iload hx hb dX6_mostHeard_12 (lv_at hl 0 rfl) ?_
  refine lv_iload_n hx hb dX6_mostHeard_14 rfl (lv_at hl 3 rfl) ?_
  refine lv_iconst (v := (-1)) hx hb dX6_mostHeard_15 (by decide) ?_
  refine lv_ixor hx hb dX6_mostHeard_16 ?_
  refine tE (y := (-1)) (by decide) ?_
  refine lv_iand hx hb dX6_mostHeard_17 ?_
  refine tE (y := 44) (by decide) ?_
  refine bt_ne (tgt := 46) (X := 44) hx hb dX6_mostHeard_18 (by decide) rfl (by omega) ?_
  refine lv_iinc (v := 45) (lv' := [(4, .int 45), (3, .int 0), (0, .ref (a 34)), (1, .int 0), (2, .int x2)]) hx hb dX6_mostHeard_46 hl (k := 0) rfl rfl (by decide) rfl (fun ls hl => ?_)
  refine lv_goto (tgt := 5) hx hb dX6_mostHeard_49 (by decide) ?_
  refine lv_iload hx hb dX6_mostHeard_5 (lv_at hl 0 rfl) ?_
  refine lv_bipush (v := 64) hx hb dX6_mostHeard_7 (by decide) ?_
  refine cn_ge (X := 45) (Y := 64) hx hb dX6_mostHeard_9 rfl rfl (by omega) ?_ (tgt := 52) (by decide)
  refine lv_iload hx hb dX6_mostHeard_12 (lv_at hl 0 rfl) ?_
  refine lv_iload_n hx hb dX6_mostHeard_14 rfl (lv_at hl 3 rfl) ?_
  refine lv_iconst (v := (-1)) hx hb dX6_mostHeard_15 (by decide) ?_
  refine lv_ixor hx hb dX6_mostHeard_16 ?_
  refine tE (y := (-1)) (by decide) ?_
  refine lv_iand hx hb dX6_mostHeard_17 ?_
  refine tE (y := 45) (by decide) ?_
  refine bt_ne (tgt := 46) (X := 45) hx hb dX6_mostHeard_18 (by decide) rfl (by omega) ?_
  refine lv_iinc (v := 46) (lv' := [(4, .int 46), (3, .int 0), (0, .ref (a 34)), (1, .int 0), (2, .int x2)]) hx hb dX6_mostHeard_46 hl (k := 0) rfl rfl (by decide) rfl (fun ls hl => ?_)
  refine lv_goto (tgt := 5) hx hb dX6_mostHeard_49 (by decide) ?_
  refine lv_iload hx hb dX6_mostHeard_5 (lv_at hl 0 rfl) ?_
  refine lv_bipush (v := 64) hx hb dX6_mostHeard_7 (by decide) ?_
  refine cn_ge (X := 46) (Y := 64) hx hb dX6_mostHeard_9 rfl rfl (by omega) ?_ (tgt := 52) (by decide)
  refine lv_iload hx hb dX6_mostHeard_12 (lv_at hl 0 rfl) ?_
  refine lv_iload_n hx hb dX6_mostHeard_14 rfl (lv_at hl 3 rfl) ?_
  refine lv_iconst (v := (-1)) hx hb dX6_mostHeard_15 (by decide) ?_
  refine lv_ixor hx hb dX6_mostHeard_16 ?_
  refine tE (y := (-1)) (by decide) ?_
  refine lv_iand hx hb dX6_mostHeard_17 ?_
  refine tE (y := 46) (by decide) ?_
  refine bt_ne (tgt := 46) (X := 46) hx hb dX6_mostHeard_18 (by decide) rfl (by omega) ?_
  refine lv_iinc (v := 47) (lv' := [(4, .int 47), (3, .int 0), (0, .ref (a 34)), (1, .int 0), (2, .int x2)]) hx hb dX6_mostHeard_46 hl (k := 0) rfl rfl (by decide) rfl (fun ls hl => ?_)
  refine lv_goto (tgt := 5) hx hb dX6_mostHeard_49 (by decide) ?_
  refine lv_iload hx hb dX6_mostHeard_5 (lv_at hl 0 rfl) ?_
  refine lv_bipush (v := 64) hx hb dX6_mostHeard_7 (by decide) ?_
  refine cn_ge (X := 47) (Y := 64) hx hb dX6_mostHeard_9 rfl rfl (by omega) ?_ (tgt := 52) (by decide)
  refine lv_iload hx hb dX6_mostHeard_12 (lv_at hl 0 rfl) ?_
  refine lv_iload_n hx hb dX6_mostHeard_14 rfl (lv_at hl 3 rfl) ?_
  refine lv_iconst (v := (-1)) hx hb dX6_mostHeard_15 (by decide) ?_
  refine lv_ixor hx hb dX6_mostHeard_16 ?_
  refine tE (y := (-1)) (by decide) ?_
  refine lv_iand hx hb dX6_mostHeard_17 ?_
  refine tE (y := 47) (by decide) ?_
  refine bt_ne (tgt := 46) (X := 47) hx hb dX6_mostHeard_18 (by decide) rfl (by omega) ?_
  refine lv_iinc (v := 48) (lv' := [(4, .int 48), (3, .int 0), (0, .ref (a 34)), (1, .int 0), (2, .int x2)]) hx hb dX6_mostHeard_46 hl (k := 0) rfl rfl (by decide) rfl (fun ls hl => ?_)
  refine lv_goto (tgt := 5) hx hb dX6_mostHeard_49 (by decide) ?_
  refine lv_iload hx hb dX6_mostHeard_5 (lv_at hl 0 rfl) ?_
  refine lv_bipush (v := 64) hx hb dX6_mostHeard_7 (by decide) ?_
  refine cn_ge (X := 48) (Y := 64) hx hb dX6_mostHeard_9 rfl rfl (by omega) ?_ (tgt := 52) (by decide)
  refine lv_iload hx hb dX6_mostHeard_12 (lv_at hl 0 rfl) ?_
  refine lv_iload_n hx hb dX6_mostHeard_14 rfl (lv_at hl 3 rfl) ?_
  refine lv_iconst (v := (-1)) hx hb dX6_mostHeard_15 (by decide) ?_
  refine lv_ixor hx hb dX6_mostHeard_16 ?_
  refine tE (y := (-1)) (by decide) ?_
  refine lv_iand hx hb dX6_mostHeard_17 ?_
  refine tE (y := 48) (by decide) ?_
  refine bt_ne (tgt := 46) (X := 48) hx hb dX6_mostHeard_18 (by decide) rfl (by omega) ?_
  refine lv_iinc (v := 49) (lv' := [(4, .int 49), (3, .int 0), (0, .ref (a 34)), (1, .int 0), (2, .int x2)]) hx hb dX6_mostHeard_46 hl (k := 0) rfl rfl (by decide) rfl (fun ls hl => ?_)
  refine lv_goto (tgt := 5) hx hb dX6_mostHeard_49 (by decide) ?_
  refine lv_iload hx hb dX6_mostHeard_5 (lv_at hl 0 rfl) ?_
  refine lv_bipush (v := 64) hx hb dX6_mostHeard_7 (by decide) ?_
  refine cn_ge (X := 49) (Y := 64) hx hb dX6_mostHeard_9 rfl rfl (by omega) ?_ (tgt := 52) (by decide)
  refine lv_iload hx hb dX6_mostHeard_12 (lv_at hl 0 rfl) ?_
  refine lv_iload_n hx hb dX6_mostHeard_14 rfl (lv_at hl 3 rfl) ?_
  refine lv_iconst (v := (-1)) hx hb dX6_mostHeard_15 (by decide) ?_
  refine lv_ixor hx hb dX6_mostHeard_16 ?_
  refine tE (y := (-1)) (by decide) ?_
  refine lv_iand hx hb dX6_mostHeard_17 ?_
  refine tE (y := 49) (by decide) ?_
  refine bt_ne (tgt := 46) (X := 49) hx hb dX6_mostHeard_18 (by decide) rfl (by omega) ?_
  refine lv_iinc (v := 50) (lv' := [(4, .int 50), (3, .int 0), (0, .ref (a 34)), (1, .int 0), (2, .int x2)]) hx hb dX6_mostHeard_46 hl (k := 0) rfl rfl (by decide) rfl (fun ls hl => ?_)
  refine lv_goto (tgt := 5) hx hb dX6_mostHeard_49 (by decide) ?_
  refine lv_iload hx hb dX6_mostHeard_5 (lv_at hl 0 rfl) ?_
  refine lv_bipush (v := 64) hx hb dX6_mostHeard_7 (by decide) ?_
  refine cn_ge (X := 50) (Y := 64) hx hb dX6_mostHeard_9 rfl rfl (by omega) ?_ (tgt := 52) (by decide)
  refine lv_iload hx hb dX6_mostHeard_12 (lv_at hl 0 rfl) ?_
  refine lv_iload_n hx hb dX6_mostHeard_14 rfl (lv_at hl 3 rfl) ?_
  refine lv_iconst (v := (-1)) hx hb dX6_mostHeard_15 (by decide) ?_
  refine lv_ixor hx hb dX6_mostHeard_16 ?_
  refine tE (y := (-1)) (by decide) ?_
  refine lv_iand hx hb dX6_mostHeard_17 ?_
  refine tE (y := 50) (by decide) ?_
  refine bt_ne (tgt := 46) (X := 50) hx hb dX6_mostHeard_18 (by decide) rfl (by omega) ?_
  refine lv_iinc (v := 51) (lv' := [(4, .int 51), (3, .int 0), (0, .ref (a 34)), (1, .int 0), (2, .int x2)]) hx hb dX6_mostHeard_46 hl (k := 0) rfl rfl (by decide) rfl (fun ls hl => ?_)
  refine lv_goto (tgt := 5) hx hb dX6_mostHeard_49 (by decide) ?_
  refine lv_iload hx hb dX6_mostHeard_5 (lv_at hl 0 rfl) ?_
  refine lv_bipush (v := 64) hx hb dX6_mostHeard_7 (by decide) ?_
  refine cn_ge (X := 51) (Y := 64) hx hb dX6_mostHeard_9 rfl rfl (by omega) ?_ (tgt := 52) (by decide)
  refine lv_iload hx hb dX6_mostHeard_12 (lv_at hl 0 rfl) ?_
  refine lv_iload_n hx hb dX6_mostHeard_14 rfl (lv_at hl 3 rfl) ?_
  refine lv_iconst (v := (-1)) hx hb dX6_mostHeard_15 (by decide) ?_
  refine lv_ixor hx hb dX6_mostHeard_16 ?_
  refine tE (y := (-1)) (by decide) ?_
  refine lv_iand hx hb dX6_mostHeard_17 ?_
  refine tE (y := 51) (by decide) ?_
  refine bt_ne (tgt := 46) (X := 51) hx hb dX6_mostHeard_18 (by decide) rfl (by omega) ?_
  refine lv_iinc (v := 52) (lv' := [(4, .int 52), (3, .int 0), (0, .ref (a 34)), (1, .int 0), (2, .int x2)]) hx hb dX6_mostHeard_46 hl (k := 0) rfl rfl (by decide) rfl (fun ls hl => ?_)
  refine lv_goto (tgt := 5) hx hb dX6_mostHeard_49 (by decide) ?_
  refine lv_iload hx hb dX6_mostHeard_5 (lv_at hl 0 rfl) ?_
  refine lv_bipush (v := 64) hx hb dX6_mostHeard_7 (by decide) ?_
  refine cn_ge (X := 52) (Y := 64) hx hb dX6_mostHeard_9 rfl rfl (by omega) ?_ (tgt := 52) (by decide)
  refine lv_iload hx hb dX6_mostHeard_12 (lv_at hl 0 rfl) ?_
  refine lv_iload_n hx hb dX6_mostHeard_14 rfl (lv_at hl 3 rfl) ?_
  refine lv_iconst (v := (-1)) hx hb dX6_mostHeard_15 (by decide) ?_
  refine lv_ixor hx hb dX6_mostHeard_16 ?_
  refine tE (y := (-1)) (by decide) ?_
  refine lv_iand hx hb dX6_mostHeard_17 ?_
  refine tE (y := 52) (by decide) ?_
  refine bt_ne (tgt := 46) (X := 52) hx hb dX6_mostHeard_18 (by decide) rfl (by omega) ?_
  refine lv_iinc (v := 53) (lv' := [(4, .int 53), (3, .int 0), (0, .ref (a 34)), (1, .int 0), (2, .int x2)]) hx hb dX6_mostHeard_46 hl (k := 0) rfl rfl (by decide) rfl (fun ls hl => ?_)
  refine lv_goto (tgt := 5) hx hb dX6_mostHeard_49 (by decide) ?_
  refine lv_iload hx hb dX6_mostHeard_5 (lv_at hl 0 rfl) ?_
  refine lv_bipush (v := 64) hx hb dX6_mostHeard_7 (by decide) ?_
  refine cn_ge (X := 53) (Y := 64) hx hb dX6_mostHeard_9 rfl rfl (by omega) ?_ (tgt := 52) (by decide)
  refine lv_iload hx hb dX6_mostHeard_12 (lv_at hl 0 rfl) ?_
  refine lv_iload_n hx hb dX6_mostHeard_14 rfl (lv_at hl 3 rfl) ?_
  refine lv_iconst (v := (-1)) hx hb dX6_mostHeard_15 (by decide) ?_
  refine lv_ixor hx hb dX6_mostHeard_16 ?_
  refine tE (y := (-1)) (by decide) ?_
  refine lv_iand hx hb dX6_mostHeard_17 ?_
  refine tE (y := 53) (by decide) ?_
  refine bt_ne (tgt := 46) (X := 53) hx hb dX6_mostHeard_18 (by decide) rfl (by omega) ?_
  refine lv_iinc (v := 54) (lv' := [(4, .int 54), (3, .int 0), (0, .ref (a 34)), (1, .int 0), (2, .int x2)]) hx hb dX6_mostHeard_46 hl (k := 0) rfl rfl (by decide) rfl (fun ls hl => ?_)
  refine lv_goto (tgt := 5) hx hb dX6_mostHeard_49 (by decide) ?_
  refine lv_iload hx hb dX6_mostHeard_5 (lv_at hl 0 rfl) ?_
  refine lv_bipush (v := 64) hx hb dX6_mostHeard_7 (by decide) ?_
  refine cn_ge (X := 54) (Y := 64) hx hb dX6_mostHeard_9 rfl rfl (by omega) ?_ (tgt := 52) (by decide)
  refine lv_iload hx hb dX6_mostHeard_12 (lv_at hl 0 rfl) ?_
  refine lv_iload_n hx hb dX6_mostHeard_14 rfl (lv_at hl 3 rfl) ?_
  refine lv_iconst (v := (-1)) hx hb dX6_mostHeard_15 (by decide) ?_
  refine lv_ixor hx hb dX6_mostHeard_16 ?_
  refine tE (y := (-1)) (by decide) ?_
  refine lv_iand hx hb dX6_mostHeard_17 ?_
  refine tE (y := 54) (by decide) ?_
  refine bt_ne (tgt := 46) (X := 54) hx hb dX6_mostHeard_18 (by decide) rfl (by omega) ?_
  refine lv_iinc (v := 55) (lv' := [(4, .int 55), (3, .int 0), (0, .ref (a 34)), (1, .int 0), (2, .int x2)]) hx hb dX6_mostHeard_46 hl (k := 0) rfl rfl (by decide) rfl (fun ls hl => ?_)
  refine lv_goto (tgt := 5) hx hb dX6_mostHeard_49 (by decide) ?_
  refine lv_iload hx hb dX6_mostHeard_5 (lv_at hl 0 rfl) ?_
  refine lv_bipush (v := 64) hx hb dX6_mostHeard_7 (by decide) ?_
  refine cn_ge (X := 55) (Y := 64) hx hb dX6_mostHeard_9 rfl rfl (by omega) ?_ (tgt := 52) (by decide)
  refine lv_iload hx hb dX6_mostHeard_12 (lv_at hl 0 rfl) ?_
  refine lv_iload_n hx hb dX6_mostHeard_14 rfl (lv_at hl 3 rfl) ?_
  refine lv_iconst (v := (-1)) hx hb dX6_mostHeard_15 (by decide) ?_
  refine lv_ixor hx hb dX6_mostHeard_16 ?_
  refine tE (y := (-1)) (by decide) ?_
  refine lv_iand hx hb dX6_mostHeard_17 ?_
  refine tE (y := 55) (by decide) ?_
  refine bt_ne (tgt := 46) (X := 55) hx hb dX6_mostHeard_18 (by decide) rfl (by omega) ?_
  refine lv_iinc (v := 56) (lv' := [(4, .int 56), (3, .int 0), (0, .ref (a 34)), (1, .int 0), (2, .int x2)]) hx hb dX6_mostHeard_46 hl (k := 0) rfl rfl (by decide) rfl (fun ls hl => ?_)
  refine lv_goto (tgt := 5) hx hb dX6_mostHeard_49 (by decide) ?_
  refine lv_iload hx hb dX6_mostHeard_5 (lv_at hl 0 rfl) ?_
  refine lv_bipush (v := 64) hx hb dX6_mostHeard_7 (by decide) ?_
  refine cn_ge (X := 56) (Y := 64) hx hb dX6_mostHeard_9 rfl rfl (by omega) ?_ (tgt := 52) (by decide)
  refine lv_iload hx hb dX6_mostHeard_12 (lv_at hl 0 rfl) ?_
  refine lv_iload_n hx hb dX6_mostHeard_14 rfl (lv_at hl 3 rfl) ?_
  refine lv_iconst (v := (-1)) hx hb dX6_mostHeard_15 (by decide) ?_
  refine lv_ixor hx hb dX6_mostHeard_16 ?_
  refine tE (y := (-1)) (by decide) ?_
  refine lv_iand hx hb dX6_mostHeard_17 ?_
  refine tE (y := 56) (by decide) ?_
  refine bt_ne (tgt := 46) (X := 56) hx hb dX6_mostHeard_18 (by decide) rfl (by omega) ?_
  refine lv_iinc (v := 57) (lv' := [(4, .int 57), (3, .int 0), (0, .ref (a 34)), (1, .int 0), (2, .int x2)]) hx hb dX6_mostHeard_46 hl (k := 0) rfl rfl (by decide) rfl (fun ls hl => ?_)
  refine lv_goto (tgt := 5) hx hb dX6_mostHeard_49 (by decide) ?_
  refine lv_iload hx hb dX6_mostHeard_5 (lv_at hl 0 rfl) ?_
  refine lv_bipush (v := 64) hx hb dX6_mostHeard_7 (by decide) ?_
  refine cn_ge (X := 57) (Y := 64) hx hb dX6_mostHeard_9 rfl rfl (by omega) ?_ (tgt := 52) (by decide)
  refine lv_iload hx hb dX6_mostHeard_12 (lv_at hl 0 rfl) ?_
  refine lv_iload_n hx hb dX6_mostHeard_14 rfl (lv_at hl 3 rfl) ?_
  refine lv_iconst (v := (-1)) hx hb dX6_mostHeard_15 (by decide) ?_
  refine lv_ixor hx hb dX6_mostHeard_16 ?_
  refine tE (y := (-1)) (by decide) ?_
  refine lv_iand hx hb dX6_mostHeard_17 ?_
  refine tE (y := 57) (by decide) ?_
  refine bt_ne (tgt := 46) (X := 57) hx hb dX6_mostHeard_18 (by decide) rfl (by omega) ?_
  refine lv_iinc (v := 58) (lv' := [(4, .int 58), (3, .int 0), (0, .ref (a 34)), (1, .int 0), (2, .int x2)]) hx hb dX6_mostHeard_46 hl (k := 0) rfl rfl (by decide) rfl (fun ls hl => ?_)
  refine lv_goto (tgt := 5) hx hb dX6_mostHeard_49 (by decide) ?_
  refine lv_iload hx hb dX6_mostHeard_5 (lv_at hl 0 rfl) ?_
  refine lv_bipush (v := 64) hx hb dX6_mostHeard_7 (by decide) ?_
  refine cn_ge (X := 58) (Y := 64) hx hb dX6_mostHeard_9 rfl rfl (by omega) ?_ (tgt := 52) (by decide)
  refine lv_iload hx hb dX6_mostHeard_12 (lv_at hl 0 rfl) ?_
  refine lv_iload_n hx hb dX6_mostHeard_14 rfl (lv_at hl 3 rfl) ?_
  refine lv_iconst (v := (-1)) hx hb dX6_mostHeard_15 (by decide) ?_
  refine lv_ixor hx hb dX6_mostHeard_16 ?_
  refine tE (y := (-1)) (by decide) ?_
  refine lv_iand hx hb dX6_mostHeard_17 ?_
  refine tE (y := 58) (by decide) ?_
  refine bt_ne (tgt := 46) (X := 58) hx hb dX6_mostHeard_18 (by decide) rfl (by omega) ?_
  refine lv_iinc (v := 59) (lv' := [(4, .int 59), (3, .int 0), (0, .ref (a 34)), (1, .int 0), (2, .int x2)]) hx hb dX6_mostHeard_46 hl (k := 0) rfl rfl (by decide) rfl (fun ls hl => ?_)
  refine lv_goto (tgt := 5) hx hb dX6_mostHeard_49 (by decide) ?_
  refine lv_iload hx hb dX6_mostHeard_5 (lv_at hl 0 rfl) ?_
  refine lv_bipush (v := 64) hx hb dX6_mostHeard_7 (by decide) ?_
  refine cn_ge (X := 59) (Y := 64) hx hb dX6_mostHeard_9 rfl rfl (by omega) ?_ (tgt := 52) (by decide)
  refine lv_iload hx hb dX6_mostHeard_12 (lv_at hl 0 rfl) ?_
  refine lv_iload_n hx hb dX6_mostHeard_14 rfl (lv_at hl 3 rfl) ?_
  refine lv_iconst (v := (-1)) hx hb dX6_mostHeard_15 (by decide) ?_
  refine lv_ixor hx hb dX6_mostHeard_16 ?_
  refine tE (y := (-1)) (by decide) ?_
  refine lv_iand hx hb dX6_mostHeard_17 ?_
  refine tE (y := 59) (by decide) ?_
  refine bt_ne (tgt := 46) (X := 59) hx hb dX6_mostHeard_18 (by decide) rfl (by omega) ?_
  refine lv_iinc (v := 60) (lv' := [(4, .int 60), (3, .int 0), (0, .ref (a 34)), (1, .int 0), (2, .int x2)]) hx hb dX6_mostHeard_46 hl (k := 0) rfl rfl (by decide) rfl (fun ls hl => ?_)
  refine lv_goto (tgt := 5) hx hb dX6_mostHeard_49 (by decide) ?_
  refine lv_iload hx hb dX6_mostHeard_5 (lv_at hl 0 rfl) ?_
  refine lv_bipush (v := 64) hx hb dX6_mostHeard_7 (by decide) ?_
  refine cn_ge (X := 60) (Y := 64) hx hb dX6_mostHeard_9 rfl rfl (by omega) ?_ (tgt := 52) (by decide)
  refine lv_iload hx hb dX6_mostHeard_12 (lv_at hl 0 rfl) ?_
  refine lv_iload_n hx hb dX6_mostHeard_14 rfl (lv_at hl 3 rfl) ?_
  refine lv_iconst (v := (-1)) hx hb dX6_mostHeard_15 (by decide) ?_
  refine lv_ixor hx hb dX6_mostHeard_16 ?_
  refine tE (y := (-1)) (by decide) ?_
  refine lv_iand hx hb dX6_mostHeard_17 ?_
  refine tE (y := 60) (by decide) ?_
  refine bt_ne (tgt := 46) (X := 60) hx hb dX6_mostHeard_18 (by decide) rfl (by omega) ?_
  refine lv_iinc (v := 61) (lv' := [(4, .int 61), (3, .int 0), (0, .ref (a 34)), (1, .int 0), (2, .int x2)]) hx hb dX6_mostHeard_46 hl (k := 0) rfl rfl (by decide) rfl (fun ls hl => ?_)
  refine lv_goto (tgt := 5) hx hb dX6_mostHeard_49 (by decide) ?_
  refine lv_iload hx hb dX6_mostHeard_5 (lv_at hl 0 rfl) ?_
  refine lv_bipush (v := 64) hx hb dX6_mostHeard_7 (by decide) ?_
  refine cn_ge (X := 61) (Y := 64) hx hb dX6_mostHeard_9 rfl rfl (by omega) ?_ (tgt := 52) (by decide)
  refine lv_iload hx hb dX6_mostHeard_12 (lv_at hl 0 rfl) ?_
  refine lv_iload_n hx hb dX6_mostHeard_14 rfl (lv_at hl 3 rfl) ?_
  refine lv_iconst (v := (-1)) hx hb dX6_mostHeard_15 (by decide) ?_
  refine lv_ixor hx hb dX6_mostHeard_16 ?_
  refine tE (y := (-1)) (by decide) ?_
  refine lv_iand hx hb dX6_mostHeard_17 ?_
  refine tE (y := 61) (by decide) ?_
  refine bt_ne (tgt := 46) (X := 61) hx hb dX6_mostHeard_18 (by decide) rfl (by omega) ?_
  refine lv_iinc (v := 62) (lv' := [(4, .int 62), (3, .int 0), (0, .ref (a 34)), (1, .int 0), (2, .int x2)]) hx hb dX6_mostHeard_46 hl (k := 0) rfl rfl (by decide) rfl (fun ls hl => ?_)
  refine lv_goto (tgt := 5) hx hb dX6_mostHeard_49 (by decide) ?_
  refine lv_iload hx hb dX6_mostHeard_5 (lv_at hl 0 rfl) ?_
  refine lv_bipush (v := 64) hx hb dX6_mostHeard_7 (by decide) ?_
  refine cn_ge (X := 62) (Y := 64) hx hb dX6_mostHeard_9 rfl rfl (by omega) ?_ (tgt := 52) (by decide)
  refine lv_iload hx hb dX6_mostHeard_12 (lv_at hl 0 rfl) ?_
  refine lv_iload_n hx hb dX6_mostHeard_14 rfl (lv_at hl 3 rfl) ?_
  refine lv_iconst (v := (-1)) hx hb dX6_mostHeard_15 (by decide) ?_
  refine lv_ixor hx hb dX6_mostHeard_16 ?_
  refine tE (y := (-1)) (by decide) ?_
  refine lv_iand hx hb dX6_mostHeard_17 ?_
  refine tE (y := 62) (by decide) ?_
  refine bt_ne (tgt := 46) (X := 62) hx hb dX6_mostHeard_18 (by decide) rfl (by omega) ?_
  refine lv_iinc (v := 63) (lv' := [(4, .int 63), (3, .int 0), (0, .ref (a 34)), (1, .int 0), (2, .int x2)]) hx hb dX6_mostHeard_46 hl (k := 0) rfl rfl (by decide) rfl (fun ls hl => ?_)
  refine lv_goto (tgt := 5) hx hb dX6_mostHeard_49 (by decide) ?_
  refine lv_iload hx hb dX6_mostHeard_5 (lv_at hl 0 rfl) ?_
  refine lv_bipush (v := 64) hx hb dX6_mostHeard_7 (by decide) ?_
  refine cn_ge (X := 63) (Y := 64) hx hb dX6_mostHeard_9 rfl rfl (by omega) ?_ (tgt := 52) (by decide)
  refine lv_iload hx hb dX6_mostHeard_12 (lv_at hl 0 rfl) ?_
  refine lv_iload_n hx hb dX6_mostHeard_14 rfl (lv_at hl 3 rfl) ?_
  refine lv_iconst (v := (-1)) hx hb dX6_mostHeard_15 (by decide) ?_
  refine lv_ixor hx hb dX6_mostHeard_16 ?_
  refine tE (y := (-1)) (by decide) ?_
  refine lv_iand hx hb dX6_mostHeard_17 ?_
  refine tE (y := 63) (by decide) ?_
  refine bt_ne (tgt := 46) (X := 63) hx hb dX6_mostHeard_18 (by decide) rfl (by omega) ?_
  refine lv_iinc (v := 64) (lv' := [(4, .int 64), (3, .int 0), (0, .ref (a 34)), (1, .int 0), (2, .int x2)]) hx hb dX6_mostHeard_46 hl (k := 0) rfl rfl (by decide) rfl (fun ls hl => ?_)
  refine lv_goto (tgt := 5) hx hb dX6_mostHeard_49 (by decide) ?_
  refine lv_iload hx hb dX6_mostHeard_5 (lv_at hl 0 rfl) ?_
  refine lv_bipush (v := 64) hx hb dX6_mostHeard_7 (by decide) ?_
  refine ct_ge (tgt := 52) (X := 64) (Y := 64) hx hb dX6_mostHeard_9 (by decide) rfl rfl (by omega) ?_
  refine lv_iload_n hx hb dX6_mostHeard_52 rfl (lv_at hl 1 rfl) ?_
  refine hret _ _ _ _ _ _ dX6_mostHeard_53 rfl ?_ hO
  exact ⟨rfl, rfl⟩
theorem dX10_term_0 : decode cX10_term 0 = .ok (.iload_n 1, 1) := by decide +kernel
theorem dX10_term_1 : decode cX10_term 1 = .ok (.ifCond .lt 9, 3) := by decide +kernel
theorem dX10_term_4 : decode cX10_term 4 = .ok (.iload_n 1, 1) := by decide +kernel
theorem dX10_term_5 : decode cX10_term 5 = .ok (.bipush 30, 2) := by decide +kernel
theorem dX10_term_7 : decode cX10_term 7 = .ok (.if_icmp .le 5, 3) := by decide +kernel
theorem dX10_term_10 : decode cX10_term 10 = .ok (.iconst (-1), 1) := by decide +kernel
theorem dX10_term_11 : decode cX10_term 11 = .ok (.ireturn, 1) := by decide +kernel
theorem dX10_term_12 : decode cX10_term 12 = .ok (.aload_n 0, 1) := by decide +kernel
theorem dX10_term_13 : decode cX10_term 13 = .ok (.getfield 62, 3) := by decide +kernel
theorem dX10_term_16 : decode cX10_term 16 = .ok (.invokevirtual 226, 3) := by decide +kernel
theorem dX10_term_19 : decode cX10_term 19 = .ok (.aload_n 0, 1) := by decide +kernel
theorem dX10_term_20 : decode cX10_term 20 = .ok (.getfield 62, 3) := by decide +kernel
theorem dX10_term_23 : decode cX10_term 23 = .ok (.aload_n 0, 1) := by decide +kernel
theorem dX10_term_24 : decode cX10_term 24 = .ok (.getfield 37, 3) := by decide +kernel
theorem dX10_term_27 : decode cX10_term 27 = .ok (.invokevirtual 192, 3) := by decide +kernel
theorem dX10_term_30 : decode cX10_term 30 = .ok (.iload_n 1, 1) := by decide +kernel
theorem dX10_term_31 : decode cX10_term 31 = .ok (.invokevirtual 233, 3) := by decide +kernel
theorem dX10_term_34 : decode cX10_term 34 = .ok (.ireturn, 1) := by decide +kernel
theorem wd_1066 : (Cond.code ⟨"WebCourt", "term", "(I)I"⟩ prog_1_method_24_code (2 : Nat) (Option.some FieldType.int)) ∈ gtb := gtb_c4 237 (by decide +kernel) rfl
theorem wd_473 : (Cond.fieldLink "WebCourt" (62 : Nat) "WebCourt" "rounds" "LWebCourt$Rounds;") ∈ gtb := gtb_c2 124 (by decide +kernel) rfl
theorem gf_RX10_62 {p : Program} {l : Launch} {e : Env} {R : Room} {s : State} {m : MethodId} {args : Array Value} {below : List Frame} {meth : Method} {c : Code} {H : Heap} {locs : List Loc} {cells slots : Nat} {Q : State → Prop} {cc : ByteArray} {pc nL : Nat} {ls : Array Slot} {rest : List Value} {D : va_G} {cy : Nat → ClassId} {A : Nat → Prop} {ws : va_W} {b : Nat} {fs : List Value} {v : Value} (C : Cx p s m args c cc nL RX10 D cy A) (hO : Wo D A ws s.heap H locs) (q0 : Nat) (he : ws[q0]? = some (b, .inr (10, fs))) (hv : fs[5]? = some v) (hdg : decode cc pc = .ok (.getfield 62, 3)) (kk : W p l e R s m args below meth c H locs cells slots Q (F0 m (pc + 3) ls (v :: rest))) : W p l e R s m args below meth c H locs cells slots Q (F0 m pc ls (.ref b :: rest)) := gF (k := 5) C hO q0 he rfl inFX10 (by decide) wd_473 rfl hv hdg kk
theorem wd_1035 : (Cond.methodLink "WebCourt" (226 : Nat) ⟨"WebCourt$Rounds", "measure", "()V"⟩) ∈ gtb := gtb_c4 206 (by decide +kernel) rfl
theorem wd_1036 : (Cond.instanceMethod ⟨"WebCourt$Rounds", "measure", "()V"⟩) ∈ gtb := gtb_c4 207 (by decide +kernel) rfl
theorem wd_1037 : (Cond.selects "WebCourt$Rounds" ⟨"WebCourt$Rounds", "measure", "()V"⟩ ⟨"WebCourt$Rounds", "measure", "()V"⟩) ∈ gtb := gtb_c4 208 (by decide +kernel) rfl
theorem wd_118 : (Cond.initialized "WebCourt$Rounds") ∈ gtb := gtb_c1 9 (by decide +kernel) rfl
theorem hd_yX6_measure : yX6_measure.cls = RX6 ∧ yX6_measure.cls ≠ "java/lang/invoke/MethodHandle" ∧ yX6_measure.cls ≠ "java/lang/invoke/VarHandle" ∧ (parseMethodDescriptor yX6_measure.desc).map (fun d => d.parameters.length) = some 0 := by decide +kernel
theorem wd_1067 : (Cond.methodLink "WebCourt" (233 : Nat) ⟨"WebCourt$Rounds", "mostHeard", "(II)I"⟩) ∈ gtb := gtb_c4 238 (by decide +kernel) rfl
theorem wd_1068 : (Cond.instanceMethod ⟨"WebCourt$Rounds", "mostHeard", "(II)I"⟩) ∈ gtb := gtb_c4 239 (by decide +kernel) rfl
theorem wd_1069 : (Cond.selects "WebCourt$Rounds" ⟨"WebCourt$Rounds", "mostHeard", "(II)I"⟩ ⟨"WebCourt$Rounds", "mostHeard", "(II)I"⟩) ∈ gtb := gtb_c5 0 (by decide +kernel) rfl
theorem hd_yX6_mostHeard : yX6_mostHeard.cls = RX6 ∧ yX6_mostHeard.cls ≠ "java/lang/invoke/MethodHandle" ∧ yX6_mostHeard.cls ≠ "java/lang/invoke/VarHandle" ∧ (parseMethodDescriptor yX6_mostHeard.desc).map (fun d => d.parameters.length) = some 2 := by decide +kernel
set_option maxHeartbeats 4000000 in
set_option maxRecDepth 100000 in
theorem T_X10_term (l : Launch) (D : va_G) (cy : Nat → ClassId) (a : Nat → Nat) (u : St) (hI_3_10 : fI u 3 10 = 0) (hI_3_12 : fI u 3 12 = 0) (hR_0 : fR u 0 = a 3) (x1 : Int32)  : Mi l D cy (cW cy a) yX10_term (.code yX10_term cX10_term 2 (some .int)) (rmo 3 72) [.ref (a 0), .int x1] u (fun (r : Int32) (u' : St) => r = q_term x1) := by
  refine Mi.of (own := RX10) rfl (by decide) (Nat.le_of_ble_eq_true rfl) ?_
  intro p e s m below meth c A Q ls C hret hO hl
  obtain ⟨hx, hb, hml, hown, ht, hK, hA⟩ := id C
  have hl : lv_has ls 2 [(0, .ref (a 0)), (1, .int x1)] := hl
  refine lv_iload_n hx hb dX10_term_0 rfl (lv_at hl 1 rfl) ?_
  refine bs_lt (tgt := 10) (X := (x1).toInt) hx hb dX10_term_1 (by decide) rfl (fun c1 => ?_) (fun c1 => ?_)
  · refine lv_iconst (v := (-1)) hx hb dX10_term_10 (by decide) ?_
    refine hret _ _ _ _ _ _ dX10_term_11 rfl ?_ hO
    exact (by unfold q_term; have z0 : (0 : Int32).toInt = 0 := rfl; have z1 : (-1 : Int32).toInt = -1 := rfl; split <;> first | rfl | (exact i32_eq.mpr (by omega)) | (exfalso; omega))
  · refine lv_iload_n hx hb dX10_term_4 rfl (lv_at hl 1 rfl) ?_
    refine lv_bipush (v := 30) hx hb dX10_term_5 (by decide) ?_
    refine cs_le (tgt := 12) (X := (x1).toInt) (Y := 30) hx hb dX10_term_7 (by decide) rfl rfl (fun c2 => ?_) (fun c2 => ?_)
    · refine lv_aload_n hx hb dX10_term_12 rfl (lv_at hl 0 rfl) ?_
      refine gf_RX10_62 (v := .ref (a 34)) C hO 0 cW_0 rfl dX10_term_13 ?_
      refine cVv (w := cW cy a) (As := []) (rest := []) C hO (T_X6_measure l D cy a _ (by exact hI_3_10) (by exact hI_3_12) (by exact hR_0)) (cwV 0 ht (gV wd_1035 wd_1036 wd_1037 wd_118 wd_1038) rfl rfl rfl hd_yX6_measure ⟨Nat.le_of_ble_eq_true rfl, Nat.le_of_ble_eq_true rfl⟩) 34 rfl cW_34 rfl rfl hl.1 (Nat.le_of_ble_eq_true rfl) dX10_term_16 rfl ⟨Nat.zero_le _, Nat.zero_le _⟩ (fun u4 H locs hp5 hO => ?_)
      obtain ⟨hR_0_u4, hI_3_12_u4⟩ := hp5
      refine lv_aload_n hx hb dX10_term_19 rfl (lv_at hl 0 rfl) ?_
      refine gf_RX10_62 (v := .ref (a 34)) C hO 0 cW_0 rfl dX10_term_20 ?_
      refine lv_aload_n hx hb dX10_term_23 rfl (lv_at hl 0 rfl) ?_
      refine gf_RX10_37 (v := .ref (a 28)) C hO 0 cW_0 rfl dX10_term_24 ?_
      refine cVi (w := cW cy a) (As := []) (rest := [.ref (a 34)]) C hO (T_X2_held l D cy a _ (by exact hI_3_12_u4) (by exact hR_0_u4)) (cwV 0 ht (gV wd_962 wd_858 wd_859 wd_115 wd_860) rfl rfl rfl hd_yX2_held ⟨Nat.le_of_ble_eq_true rfl, Nat.le_of_ble_eq_true rfl⟩) 28 rfl cW_28 rfl rfl hl.1 (Nat.le_of_ble_eq_true rfl) dX10_term_27 rfl ⟨Nat.zero_le _, Nat.zero_le _⟩ (fun r6 u7 H locs hp8 hO => ?_)
      obtain ⟨hr6, hu7⟩ := hp8
      subst hr6
      rw [hu7] at hO
      refine lv_iload_n hx hb dX10_term_30 rfl (lv_at hl 1 rfl) ?_
      refine cVi (w := cW cy a) (As := [.int 0, .int x1]) (rest := []) C hO (T_X6_mostHeard_0 l D cy a _ (x1)) (cwV 2 ht (gV wd_1067 wd_1068 wd_1069 wd_118 wd_1070) rfl rfl rfl hd_yX6_mostHeard ⟨Nat.le_of_ble_eq_true rfl, Nat.le_of_ble_eq_true rfl⟩) 34 rfl cW_34 rfl rfl hl.1 (Nat.le_of_ble_eq_true rfl) dX10_term_31 rfl ⟨Nat.zero_le _, Nat.zero_le _⟩ (fun r9 u10 H locs hp11 hO => ?_)
      obtain ⟨hr9, hu10⟩ := hp11
      subst hr9
      rw [hu10] at hO
      refine hret _ _ _ _ _ _ dX10_term_34 rfl ?_ hO
      exact (by unfold q_term; have z0 : (0 : Int32).toInt = 0 := rfl; have z1 : (-1 : Int32).toInt = -1 := rfl; split <;> first | rfl | (exact i32_eq.mpr (by omega)) | (exfalso; omega))
    · refine lv_iconst (v := (-1)) hx hb dX10_term_10 (by decide) ?_
      refine hret _ _ _ _ _ _ dX10_term_11 rfl ?_ hO
      exact (by unfold q_term; have z0 : (0 : Int32).toInt = 0 := rfl; have z1 : (-1 : Int32).toInt = -1 := rfl; split <;> first | rfl | (exact i32_eq.mpr (by omega)) | (exfalso; omega))
end
section
theorem dX7_put_0 : decode cX7_put 0 = .ok (.bipush 24, 2) := by decide +kernel
theorem dX7_put_2 : decode cX7_put 2 = .ok (.istore_n 2, 1) := by decide +kernel
theorem dX7_put_3 : decode cX7_put 3 = .ok (.iload_n 2, 1) := by decide +kernel
theorem dX7_put_4 : decode cX7_put 4 = .ok (.ifCond .lt 42, 3) := by decide +kernel
theorem dX7_put_7 : decode cX7_put 7 = .ok (.aload_n 0, 1) := by decide +kernel
theorem dX7_put_8 : decode cX7_put 8 = .ok (.getfield 15, 3) := by decide +kernel
theorem dX7_put_11 : decode cX7_put 11 = .ok (.sipush 1600, 3) := by decide +kernel
theorem dX7_put_14 : decode cX7_put 14 = .ok (.if_icmp .ge 32, 3) := by decide +kernel
theorem dX7_put_17 : decode cX7_put 17 = .ok (.aload_n 0, 1) := by decide +kernel
theorem dX7_put_18 : decode cX7_put 18 = .ok (.getfield 9, 3) := by decide +kernel
theorem dX7_put_21 : decode cX7_put 21 = .ok (.aload_n 0, 1) := by decide +kernel
theorem dX7_put_22 : decode cX7_put 22 = .ok (.getfield 15, 3) := by decide +kernel
theorem dX7_put_25 : decode cX7_put 25 = .ok (.iload_n 1, 1) := by decide +kernel
theorem dX7_put_26 : decode cX7_put 26 = .ok (.iload_n 2, 1) := by decide +kernel
theorem dX7_put_27 : decode cX7_put 27 = .ok (.ishr, 1) := by decide +kernel
theorem dX7_put_28 : decode cX7_put 28 = .ok (.i2b, 1) := by decide +kernel
theorem dX7_put_29 : decode cX7_put 29 = .ok (.bastore, 1) := by decide +kernel
theorem dX7_put_30 : decode cX7_put 30 = .ok (.aload_n 0, 1) := by decide +kernel
theorem dX7_put_31 : decode cX7_put 31 = .ok (.dup, 1) := by decide +kernel
theorem dX7_put_32 : decode cX7_put 32 = .ok (.getfield 15, 3) := by decide +kernel
theorem dX7_put_35 : decode cX7_put 35 = .ok (.iconst 1, 1) := by decide +kernel
theorem dX7_put_36 : decode cX7_put 36 = .ok (.iadd, 1) := by decide +kernel
theorem dX7_put_37 : decode cX7_put 37 = .ok (.putfield 15, 3) := by decide +kernel
theorem dX7_put_40 : decode cX7_put 40 = .ok (.iinc 2 (-8), 3) := by decide +kernel
theorem dX7_put_43 : decode cX7_put 43 = .ok (.goto (-40), 3) := by decide +kernel
theorem dX7_put_46 : decode cX7_put 46 = .ok (.return_, 1) := by decide +kernel
theorem wd_515 : (Cond.code ⟨"WebCourt$Tape", "put", "(I)V"⟩ prog_9_method_2_code (3 : Nat) (Option.none : Option FieldType)) ∈ gtb := gtb_c2 166 (by decide +kernel) rfl
theorem wd_145 : (Cond.fieldLink "WebCourt$Tape" (15 : Nat) "WebCourt$Tape" "length" "I") ∈ gtb := gtb_c1 36 (by decide +kernel) rfl
theorem gf_RX7_15 {p : Program} {l : Launch} {e : Env} {R : Room} {s : State} {m : MethodId} {args : Array Value} {below : List Frame} {meth : Method} {c : Code} {H : Heap} {locs : List Loc} {cells slots : Nat} {Q : State → Prop} {cc : ByteArray} {pc nL : Nat} {ls : Array Slot} {rest : List Value} {D : va_G} {cy : Nat → ClassId} {A : Nat → Prop} {ws : va_W} {b : Nat} {fs : List Value} {v : Value} (C : Cx p s m args c cc nL RX7 D cy A) (hO : Wo D A ws s.heap H locs) (q0 : Nat) (he : ws[q0]? = some (b, .inr (7, fs))) (hv : fs[1]? = some v) (hdg : decode cc pc = .ok (.getfield 15, 3)) (kk : W p l e R s m args below meth c H locs cells slots Q (F0 m (pc + 3) ls (v :: rest))) : W p l e R s m args below meth c H locs cells slots Q (F0 m pc ls (.ref b :: rest)) := gF (k := 1) C hO q0 he rfl inFX7 (by decide) wd_145 rfl hv hdg kk
theorem wd_143 : (Cond.fieldLink "WebCourt$Tape" (9 : Nat) "WebCourt$Tape" "bytes" "[B") ∈ gtb := gtb_c1 34 (by decide +kernel) rfl
theorem gf_RX7_9 {p : Program} {l : Launch} {e : Env} {R : Room} {s : State} {m : MethodId} {args : Array Value} {below : List Frame} {meth : Method} {c : Code} {H : Heap} {locs : List Loc} {cells slots : Nat} {Q : State → Prop} {cc : ByteArray} {pc nL : Nat} {ls : Array Slot} {rest : List Value} {D : va_G} {cy : Nat → ClassId} {A : Nat → Prop} {ws : va_W} {b : Nat} {fs : List Value} {v : Value} (C : Cx p s m args c cc nL RX7 D cy A) (hO : Wo D A ws s.heap H locs) (q0 : Nat) (he : ws[q0]? = some (b, .inr (7, fs))) (hv : fs[0]? = some v) (hdg : decode cc pc = .ok (.getfield 9, 3)) (kk : W p l e R s m args below meth c H locs cells slots Q (F0 m (pc + 3) ls (v :: rest))) : W p l e R s m args below meth c H locs cells slots Q (F0 m pc ls (.ref b :: rest)) := gF (k := 0) C hO q0 he rfl inFX7 (by decide) wd_143 rfl hv hdg kk
theorem pf_RX7_15 {p : Program} {l : Launch} {e : Env} {R : Room} {s : State} {m : MethodId} {args : Array Value} {below : List Frame} {meth : Method} {c : Code} {H : Heap} {locs : List Loc} {cells slots : Nat} {Q : State → Prop} {cc : ByteArray} {pc nL : Nat} {ls : Array Slot} {rest : List Value} {D : va_G} {cy : Nat → ClassId} {A : Nat → Prop} {ws : va_W} {b : Nat} {fs : List Value} {v : Int32} {ws' : va_W} (C : Cx p s m args c cc nL RX7 D cy A) (hO : Wo D A ws s.heap H locs) (q0 : Nat) (he : ws[q0]? = some (b, .inr (7, fs))) (hlen : 1 < fs.length) (hw : ws.set q0 (b, .inr (7, fs.set 1 (.int v))) = ws') (hdg : decode cc pc = .ok (.putfield 15, 3)) (kk : ∀ (H : Heap) (locs : List Loc), Wo D A ws' s.heap H locs → W p l e R s m args below meth c H locs cells slots Q (F0 m (pc + 3) ls rest)) : W p l e R s m args below meth c H locs cells slots Q (F0 m pc ls (.int v :: .ref b :: rest)) := pF (k := 1) (ty := .int) C hO q0 he rfl inFX7 (by decide) wd_145 rfl tyX7 tyX7_ok nmX7 rfl (by decide +kernel) rfl rfl hlen hw hdg kk
set_option maxHeartbeats 4000000 in
set_option maxRecDepth 100000 in
theorem T_X7_put_0 (l : Launch) (D : va_G) (cy : Nat → ClassId) (a : Nat → Nat) (u : St) (hI_1_1 : fI u 1 1 = 0) (x1 : Int32)  : Mv l D cy (cW cy a) yX7_put (.code yX7_put cX7_put 3 none) (rmo 0 0) [.ref (a 1), .int x1] u (fun (u' : St) => fI u' 1 1 = 4) := by
  refine Mv.of (own := RX7) rfl (by decide) (Nat.le_of_ble_eq_true rfl) ?_
  intro p e s m below meth c A Q ls C hret hO hl
  obtain ⟨hx, hb, hml, hown, ht, hK, hA⟩ := id C
  have hl : lv_has ls 3 [(0, .ref (a 1)), (1, .int x1)] := hl
  refine lv_bipush (v := 24) hx hb dX7_put_0 (by decide) ?_
  refine lv_istore_n (lv' := [(2, .int 24), (0, .ref (a 1)), (1, .int x1)]) hx hb dX7_put_2 rfl hl (by decide) rfl (fun ls hl => ?_)
  refine lv_iload_n hx hb dX7_put_3 rfl (lv_at hl 0 rfl) ?_
  refine bn_lt (X := 24) hx hb dX7_put_4 rfl (by omega) ?_ (tgt := 46) (by decide)
  refine lv_aload_n hx hb dX7_put_7 rfl (lv_at hl 1 rfl) ?_
  refine gf_RX7_15 (v := .int 0) C hO 1 cW_1 (congrArg (fun z : Int32 => some (Value.int z)) hI_1_1) dX7_put_8 ?_
  refine lv_sipush (v := 1600) hx hb dX7_put_11 (by decide) ?_
  refine cn_ge (X := 0) (Y := 1600) hx hb dX7_put_14 rfl rfl (by omega) ?_ (tgt := 46) (by decide)
  refine lv_aload_n hx hb dX7_put_17 rfl (lv_at hl 1 rfl) ?_
  refine gf_RX7_9 (v := .ref (a 2)) C hO 1 cW_1 rfl dX7_put_18 ?_
  refine lv_aload_n hx hb dX7_put_21 rfl (lv_at hl 1 rfl) ?_
  refine gf_RX7_15 (v := .int 0) C hO 1 cW_1 (congrArg (fun z : Int32 => some (Value.int z)) hI_1_1) dX7_put_22 ?_
  refine lv_iload_n hx hb dX7_put_25 rfl (lv_at hl 2 rfl) ?_
  refine lv_iload_n hx hb dX7_put_26 rfl (lv_at hl 0 rfl) ?_
  refine lv_ishr hx hb dX7_put_27 ?_
  refine lv_topi (fun z1 ez1 => ?_)
  refine lv_i2b hx hb dX7_put_28 rfl ?_
  refine lv_topi (fun z2 ez2 => ?_)
  refine aBs C hO 2 cW_2 (i_in (X := 0) rfl (by omega) (by omega)) cW_s2 dX7_put_29 (fun H locs hO => ?_)
  refine lv_aload_n hx hb dX7_put_30 rfl (lv_at hl 1 rfl) ?_
  refine lv_dup hx hb dX7_put_31 rfl ?_
  refine gf_RX7_15 (v := .int 0) C hO 1 cW_1 (congrArg (fun z : Int32 => some (Value.int z)) hI_1_1) dX7_put_32 ?_
  refine lv_iconst (v := 1) hx hb dX7_put_35 (by decide) ?_
  refine lv_iadd hx hb dX7_put_36 ?_
  refine tE (y := 1) rfl ?_
  refine pf_RX7_15 C hO 1 cW_1 (Nat.le_of_ble_eq_true rfl) cW_s1_1 dX7_put_37 (fun H locs hO => ?_)
  refine lv_iinc (v := 16) (lv' := [(2, .int 16), (0, .ref (a 1)), (1, .int x1)]) hx hb dX7_put_40 hl (k := 0) rfl rfl (by decide) rfl (fun ls hl => ?_)
  refine lv_goto (tgt := 3) hx hb dX7_put_43 (by decide) ?_
  refine lv_iload_n hx hb dX7_put_3 rfl (lv_at hl 0 rfl) ?_
  refine bn_lt (X := 16) hx hb dX7_put_4 rfl (by omega) ?_ (tgt := 46) (by decide)
  refine lv_aload_n hx hb dX7_put_7 rfl (lv_at hl 1 rfl) ?_
  refine gf_RX7_15 (v := .int 1) C hO 1 cW_1 rfl dX7_put_8 ?_
  refine lv_sipush (v := 1600) hx hb dX7_put_11 (by decide) ?_
  refine cn_ge (X := 1) (Y := 1600) hx hb dX7_put_14 rfl rfl (by omega) ?_ (tgt := 46) (by decide)
  refine lv_aload_n hx hb dX7_put_17 rfl (lv_at hl 1 rfl) ?_
  refine gf_RX7_9 (v := .ref (a 2)) C hO 1 cW_1 rfl dX7_put_18 ?_
  refine lv_aload_n hx hb dX7_put_21 rfl (lv_at hl 1 rfl) ?_
  refine gf_RX7_15 (v := .int 1) C hO 1 cW_1 rfl dX7_put_22 ?_
  refine lv_iload_n hx hb dX7_put_25 rfl (lv_at hl 2 rfl) ?_
  refine lv_iload_n hx hb dX7_put_26 rfl (lv_at hl 0 rfl) ?_
  refine lv_ishr hx hb dX7_put_27 ?_
  refine lv_topi (fun z3 ez3 => ?_)
  refine lv_i2b hx hb dX7_put_28 rfl ?_
  refine lv_topi (fun z4 ez4 => ?_)
  refine aBs C hO 2 cW_2 (i_in (X := 1) rfl (by omega) (by omega)) cW_s2 dX7_put_29 (fun H locs hO => ?_)
  refine lv_aload_n hx hb dX7_put_30 rfl (lv_at hl 1 rfl) ?_
  refine lv_dup hx hb dX7_put_31 rfl ?_
  refine gf_RX7_15 (v := .int 1) C hO 1 cW_1 rfl dX7_put_32 ?_
  refine lv_iconst (v := 1) hx hb dX7_put_35 (by decide) ?_
  refine lv_iadd hx hb dX7_put_36 ?_
  refine tE (y := 2) rfl ?_
  refine pf_RX7_15 C hO 1 cW_1 (Nat.le_of_ble_eq_true rfl) cW_s1_1 dX7_put_37 (fun H locs hO => ?_)
  refine lv_iinc (v := 8) (lv' := [(2, .int 8), (0, .ref (a 1)), (1, .int x1)]) hx hb dX7_put_40 hl (k := 0) rfl rfl (by decide) rfl (fun ls hl => ?_)
  refine lv_goto (tgt := 3) hx hb dX7_put_43 (by decide) ?_
  refine lv_iload_n hx hb dX7_put_3 rfl (lv_at hl 0 rfl) ?_
  refine bn_lt (X := 8) hx hb dX7_put_4 rfl (by omega) ?_ (tgt := 46) (by decide)
  refine lv_aload_n hx hb dX7_put_7 rfl (lv_at hl 1 rfl) ?_
  refine gf_RX7_15 (v := .int 2) C hO 1 cW_1 rfl dX7_put_8 ?_
  refine lv_sipush (v := 1600) hx hb dX7_put_11 (by decide) ?_
  refine cn_ge (X := 2) (Y := 1600) hx hb dX7_put_14 rfl rfl (by omega) ?_ (tgt := 46) (by decide)
  refine lv_aload_n hx hb dX7_put_17 rfl (lv_at hl 1 rfl) ?_
  refine gf_RX7_9 (v := .ref (a 2)) C hO 1 cW_1 rfl dX7_put_18 ?_
  refine lv_aload_n hx hb dX7_put_21 rfl (lv_at hl 1 rfl) ?_
  refine gf_RX7_15 (v := .int 2) C hO 1 cW_1 rfl dX7_put_22 ?_
  refine lv_iload_n hx hb dX7_put_25 rfl (lv_at hl 2 rfl) ?_
  refine lv_iload_n hx hb dX7_put_26 rfl (lv_at hl 0 rfl) ?_
  refine lv_ishr hx hb dX7_put_27 ?_
  refine lv_topi (fun z5 ez5 => ?_)
  refine lv_i2b hx hb dX7_put_28 rfl ?_
  refine lv_topi (fun z6 ez6 => ?_)
  refine aBs C hO 2 cW_2 (i_in (X := 2) rfl (by omega) (by omega)) cW_s2 dX7_put_29 (fun H locs hO => ?_)
  refine lv_aload_n hx hb dX7_put_30 rfl (lv_at hl 1 rfl) ?_
  refine lv_dup hx hb dX7_put_31 rfl ?_
  refine gf_RX7_15 (v := .int 2) C hO 1 cW_1 rfl dX7_put_32 ?_
  refine lv_iconst (v := 1) hx hb dX7_put_35 (by decide) ?_
  refine lv_iadd hx hb dX7_put_36 ?_
  refine tE (y := 3) rfl ?_
  refine pf_RX7_15 C hO 1 cW_1 (Nat.le_of_ble_eq_true rfl) cW_s1_1 dX7_put_37 (fun H locs hO => ?_)
  refine lv_iinc (v := 0) (lv' := [(2, .int 0), (0, .ref (a 1)), (1, .int x1)]) hx hb dX7_put_40 hl (k := 0) rfl rfl (by decide) rfl (fun ls hl => ?_)
  refine lv_goto (tgt := 3) hx hb dX7_put_43 (by decide) ?_
  refine lv_iload_n hx hb dX7_put_3 rfl (lv_at hl 0 rfl) ?_
  refine bn_lt (X := 0) hx hb dX7_put_4 rfl (by omega) ?_ (tgt := 46) (by decide)
  refine lv_aload_n hx hb dX7_put_7 rfl (lv_at hl 1 rfl) ?_
  refine gf_RX7_15 (v := .int 3) C hO 1 cW_1 rfl dX7_put_8 ?_
  refine lv_sipush (v := 1600) hx hb dX7_put_11 (by decide) ?_
  refine cn_ge (X := 3) (Y := 1600) hx hb dX7_put_14 rfl rfl (by omega) ?_ (tgt := 46) (by decide)
  refine lv_aload_n hx hb dX7_put_17 rfl (lv_at hl 1 rfl) ?_
  refine gf_RX7_9 (v := .ref (a 2)) C hO 1 cW_1 rfl dX7_put_18 ?_
  refine lv_aload_n hx hb dX7_put_21 rfl (lv_at hl 1 rfl) ?_
  refine gf_RX7_15 (v := .int 3) C hO 1 cW_1 rfl dX7_put_22 ?_
  refine lv_iload_n hx hb dX7_put_25 rfl (lv_at hl 2 rfl) ?_
  refine lv_iload_n hx hb dX7_put_26 rfl (lv_at hl 0 rfl) ?_
  refine lv_ishr hx hb dX7_put_27 ?_
  refine lv_topi (fun z7 ez7 => ?_)
  refine lv_i2b hx hb dX7_put_28 rfl ?_
  refine lv_topi (fun z8 ez8 => ?_)
  refine aBs C hO 2 cW_2 (i_in (X := 3) rfl (by omega) (by omega)) cW_s2 dX7_put_29 (fun H locs hO => ?_)
  refine lv_aload_n hx hb dX7_put_30 rfl (lv_at hl 1 rfl) ?_
  refine lv_dup hx hb dX7_put_31 rfl ?_
  refine gf_RX7_15 (v := .int 3) C hO 1 cW_1 rfl dX7_put_32 ?_
  refine lv_iconst (v := 1) hx hb dX7_put_35 (by decide) ?_
  refine lv_iadd hx hb dX7_put_36 ?_
  refine tE (y := 4) rfl ?_
  refine pf_RX7_15 C hO 1 cW_1 (Nat.le_of_ble_eq_true rfl) cW_s1_1 dX7_put_37 (fun H locs hO => ?_)
  refine lv_iinc (v := (-8)) (lv' := [(2, .int (-8)), (0, .ref (a 1)), (1, .int x1)]) hx hb dX7_put_40 hl (k := 0) rfl rfl (by decide) rfl (fun ls hl => ?_)
  refine lv_goto (tgt := 3) hx hb dX7_put_43 (by decide) ?_
  refine lv_iload_n hx hb dX7_put_3 rfl (lv_at hl 0 rfl) ?_
  refine bt_lt (tgt := 46) (X := (-8)) hx hb dX7_put_4 (by decide) rfl (by omega) ?_
  refine hret _ _ _ _ _ dX7_put_46 ?_ hO
  exact rfl
set_option maxHeartbeats 4000000 in
set_option maxRecDepth 100000 in
theorem T_X7_put_4 (l : Launch) (D : va_G) (cy : Nat → ClassId) (a : Nat → Nat) (u : St) (hI_1_1 : fI u 1 1 = 4) (x1 : Int32)  : Mv l D cy (cW cy a) yX7_put (.code yX7_put cX7_put 3 none) (rmo 0 0) [.ref (a 1), .int x1] u (fun (u' : St) => fI u' 1 1 = 8) := by
  refine Mv.of (own := RX7) rfl (by decide) (Nat.le_of_ble_eq_true rfl) ?_
  intro p e s m below meth c A Q ls C hret hO hl
  obtain ⟨hx, hb, hml, hown, ht, hK, hA⟩ := id C
  have hl : lv_has ls 3 [(0, .ref (a 1)), (1, .int x1)] := hl
  refine lv_bipush (v := 24) hx hb dX7_put_0 (by decide) ?_
  refine lv_istore_n (lv' := [(2, .int 24), (0, .ref (a 1)), (1, .int x1)]) hx hb dX7_put_2 rfl hl (by decide) rfl (fun ls hl => ?_)
  refine lv_iload_n hx hb dX7_put_3 rfl (lv_at hl 0 rfl) ?_
  refine bn_lt (X := 24) hx hb dX7_put_4 rfl (by omega) ?_ (tgt := 46) (by decide)
  refine lv_aload_n hx hb dX7_put_7 rfl (lv_at hl 1 rfl) ?_
  refine gf_RX7_15 (v := .int 4) C hO 1 cW_1 (congrArg (fun z : Int32 => some (Value.int z)) hI_1_1) dX7_put_8 ?_
  refine lv_sipush (v := 1600) hx hb dX7_put_11 (by decide) ?_
  refine cn_ge (X := 4) (Y := 1600) hx hb dX7_put_14 rfl rfl (by omega) ?_ (tgt := 46) (by decide)
  refine lv_aload_n hx hb dX7_put_17 rfl (lv_at hl 1 rfl) ?_
  refine gf_RX7_9 (v := .ref (a 2)) C hO 1 cW_1 rfl dX7_put_18 ?_
  refine lv_aload_n hx hb dX7_put_21 rfl (lv_at hl 1 rfl) ?_
  refine gf_RX7_15 (v := .int 4) C hO 1 cW_1 (congrArg (fun z : Int32 => some (Value.int z)) hI_1_1) dX7_put_22 ?_
  refine lv_iload_n hx hb dX7_put_25 rfl (lv_at hl 2 rfl) ?_
  refine lv_iload_n hx hb dX7_put_26 rfl (lv_at hl 0 rfl) ?_
  refine lv_ishr hx hb dX7_put_27 ?_
  refine lv_topi (fun z1 ez1 => ?_)
  refine lv_i2b hx hb dX7_put_28 rfl ?_
  refine lv_topi (fun z2 ez2 => ?_)
  refine aBs C hO 2 cW_2 (i_in (X := 4) rfl (by omega) (by omega)) cW_s2 dX7_put_29 (fun H locs hO => ?_)
  refine lv_aload_n hx hb dX7_put_30 rfl (lv_at hl 1 rfl) ?_
  refine lv_dup hx hb dX7_put_31 rfl ?_
  refine gf_RX7_15 (v := .int 4) C hO 1 cW_1 (congrArg (fun z : Int32 => some (Value.int z)) hI_1_1) dX7_put_32 ?_
  refine lv_iconst (v := 1) hx hb dX7_put_35 (by decide) ?_
  refine lv_iadd hx hb dX7_put_36 ?_
  refine tE (y := 5) rfl ?_
  refine pf_RX7_15 C hO 1 cW_1 (Nat.le_of_ble_eq_true rfl) cW_s1_1 dX7_put_37 (fun H locs hO => ?_)
  refine lv_iinc (v := 16) (lv' := [(2, .int 16), (0, .ref (a 1)), (1, .int x1)]) hx hb dX7_put_40 hl (k := 0) rfl rfl (by decide) rfl (fun ls hl => ?_)
  refine lv_goto (tgt := 3) hx hb dX7_put_43 (by decide) ?_
  refine lv_iload_n hx hb dX7_put_3 rfl (lv_at hl 0 rfl) ?_
  refine bn_lt (X := 16) hx hb dX7_put_4 rfl (by omega) ?_ (tgt := 46) (by decide)
  refine lv_aload_n hx hb dX7_put_7 rfl (lv_at hl 1 rfl) ?_
  refine gf_RX7_15 (v := .int 5) C hO 1 cW_1 rfl dX7_put_8 ?_
  refine lv_sipush (v := 1600) hx hb dX7_put_11 (by decide) ?_
  refine cn_ge (X := 5) (Y := 1600) hx hb dX7_put_14 rfl rfl (by omega) ?_ (tgt := 46) (by decide)
  refine lv_aload_n hx hb dX7_put_17 rfl (lv_at hl 1 rfl) ?_
  refine gf_RX7_9 (v := .ref (a 2)) C hO 1 cW_1 rfl dX7_put_18 ?_
  refine lv_aload_n hx hb dX7_put_21 rfl (lv_at hl 1 rfl) ?_
  refine gf_RX7_15 (v := .int 5) C hO 1 cW_1 rfl dX7_put_22 ?_
  refine lv_iload_n hx hb dX7_put_25 rfl (lv_at hl 2 rfl) ?_
  refine lv_iload_n hx hb dX7_put_26 rfl (lv_at hl 0 rfl) ?_
  refine lv_ishr hx hb dX7_put_27 ?_
  refine lv_topi (fun z3 ez3 => ?_)
  refine lv_i2b hx hb dX7_put_28 rfl ?_
  refine lv_topi (fun z4 ez4 => ?_)
  refine aBs C hO 2 cW_2 (i_in (X := 5) rfl (by omega) (by omega)) cW_s2 dX7_put_29 (fun H locs hO => ?_)
  refine lv_aload_n hx hb dX7_put_30 rfl (lv_at hl 1 rfl) ?_
  refine lv_dup hx hb dX7_put_31 rfl ?_
  refine gf_RX7_15 (v := .int 5) C hO 1 cW_1 rfl dX7_put_32 ?_
  refine lv_iconst (v := 1) hx hb dX7_put_35 (by decide) ?_
  refine lv_iadd hx hb dX7_put_36 ?_
  refine tE (y := 6) rfl ?_
  refine pf_RX7_15 C hO 1 cW_1 (Nat.le_of_ble_eq_true rfl) cW_s1_1 dX7_put_37 (fun H locs hO => ?_)
  refine lv_iinc (v := 8) (lv' := [(2, .int 8), (0, .ref (a 1)), (1, .int x1)]) hx hb dX7_put_40 hl (k := 0) rfl rfl (by decide) rfl (fun ls hl => ?_)
  refine lv_goto (tgt := 3) hx hb dX7_put_43 (by decide) ?_
  refine lv_iload_n hx hb dX7_put_3 rfl (lv_at hl 0 rfl) ?_
  refine bn_lt (X := 8) hx hb dX7_put_4 rfl (by omega) ?_ (tgt := 46) (by decide)
  refine lv_aload_n hx hb dX7_put_7 rfl (lv_at hl 1 rfl) ?_
  refine gf_RX7_15 (v := .int 6) C hO 1 cW_1 rfl dX7_put_8 ?_
  refine lv_sipush (v := 1600) hx hb dX7_put_11 (by decide) ?_
  refine cn_ge (X := 6) (Y := 1600) hx hb dX7_put_14 rfl rfl (by omega) ?_ (tgt := 46) (by decide)
  refine lv_aload_n hx hb dX7_put_17 rfl (lv_at hl 1 rfl) ?_
  refine gf_RX7_9 (v := .ref (a 2)) C hO 1 cW_1 rfl dX7_put_18 ?_
  refine lv_aload_n hx hb dX7_put_21 rfl (lv_at hl 1 rfl) ?_
  refine gf_RX7_15 (v := .int 6) C hO 1 cW_1 rfl dX7_put_22 ?_
  refine lv_iload_n hx hb dX7_put_25 rfl (lv_at hl 2 rfl) ?_
  refine lv_iload_n hx hb dX7_put_26 rfl (lv_at hl 0 rfl) ?_
  refine lv_ishr hx hb dX7_put_27 ?_
  refine lv_topi (fun z5 ez5 => ?_)
  refine lv_i2b hx hb dX7_put_28 rfl ?_
  refine lv_topi (fun z6 ez6 => ?_)
  refine aBs C hO 2 cW_2 (i_in (X := 6) rfl (by omega) (by omega)) cW_s2 dX7_put_29 (fun H locs hO => ?_)
  refine lv_aload_n hx hb dX7_put_30 rfl (lv_at hl 1 rfl) ?_
  refine lv_dup hx hb dX7_put_31 rfl ?_
  refine gf_RX7_15 (v := .int 6) C hO 1 cW_1 rfl dX7_put_32 ?_
  refine lv_iconst (v := 1) hx hb dX7_put_35 (by decide) ?_
  refine lv_iadd hx hb dX7_put_36 ?_
  refine tE (y := 7) rfl ?_
  refine pf_RX7_15 C hO 1 cW_1 (Nat.le_of_ble_eq_true rfl) cW_s1_1 dX7_put_37 (fun H locs hO => ?_)
  refine lv_iinc (v := 0) (lv' := [(2, .int 0), (0, .ref (a 1)), (1, .int x1)]) hx hb dX7_put_40 hl (k := 0) rfl rfl (by decide) rfl (fun ls hl => ?_)
  refine lv_goto (tgt := 3) hx hb dX7_put_43 (by decide) ?_
  refine lv_iload_n hx hb dX7_put_3 rfl (lv_at hl 0 rfl) ?_
  refine bn_lt (X := 0) hx hb dX7_put_4 rfl (by omega) ?_ (tgt := 46) (by decide)
  refine lv_aload_n hx hb dX7_put_7 rfl (lv_at hl 1 rfl) ?_
  refine gf_RX7_15 (v := .int 7) C hO 1 cW_1 rfl dX7_put_8 ?_
  refine lv_sipush (v := 1600) hx hb dX7_put_11 (by decide) ?_
  refine cn_ge (X := 7) (Y := 1600) hx hb dX7_put_14 rfl rfl (by omega) ?_ (tgt := 46) (by decide)
  refine lv_aload_n hx hb dX7_put_17 rfl (lv_at hl 1 rfl) ?_
  refine gf_RX7_9 (v := .ref (a 2)) C hO 1 cW_1 rfl dX7_put_18 ?_
  refine lv_aload_n hx hb dX7_put_21 rfl (lv_at hl 1 rfl) ?_
  refine gf_RX7_15 (v := .int 7) C hO 1 cW_1 rfl dX7_put_22 ?_
  refine lv_iload_n hx hb dX7_put_25 rfl (lv_at hl 2 rfl) ?_
  refine lv_iload_n hx hb dX7_put_26 rfl (lv_at hl 0 rfl) ?_
  refine lv_ishr hx hb dX7_put_27 ?_
  refine lv_topi (fun z7 ez7 => ?_)
  refine lv_i2b hx hb dX7_put_28 rfl ?_
  refine lv_topi (fun z8 ez8 => ?_)
  refine aBs C hO 2 cW_2 (i_in (X := 7) rfl (by omega) (by omega)) cW_s2 dX7_put_29 (fun H locs hO => ?_)
  refine lv_aload_n hx hb dX7_put_30 rfl (lv_at hl 1 rfl) ?_
  refine lv_dup hx hb dX7_put_31 rfl ?_
  refine gf_RX7_15 (v := .int 7) C hO 1 cW_1 rfl dX7_put_32 ?_
  refine lv_iconst (v := 1) hx hb dX7_put_35 (by decide) ?_
  refine lv_iadd hx hb dX7_put_36 ?_
  refine tE (y := 8) rfl ?_
  refine pf_RX7_15 C hO 1 cW_1 (Nat.le_of_ble_eq_true rfl) cW_s1_1 dX7_put_37 (fun H locs hO => ?_)
  refine lv_iinc (v := (-8)) (lv' := [(2, .int (-8)), (0, .ref (a 1)), (1, .int x1)]) hx hb dX7_put_40 hl (k := 0) rfl rfl (by decide) rfl (fun ls hl => ?_)
  refine lv_goto (tgt := 3) hx hb dX7_put_43 (by decide) ?_
  refine lv_iload_n hx hb dX7_put_3 rfl (lv_at hl 0 rfl) ?_
  refine bt_lt (tgt := 46) (X := (-8)) hx hb dX7_put_4 (by decide) rfl (by omega) ?_
  refine hret _ _ _ _ _ dX7_put_46 ?_ hO
  exact rfl
set_option maxHeartbeats 4000000 in
set_option maxRecDepth 100000 in
theorem T_X7_put_8 (l : Launch) (D : va_G) (cy : Nat → ClassId) (a : Nat → Nat) (u : St) (hI_1_1 : fI u 1 1 = 8) (x1 : Int32)  : Mv l D cy (cW cy a) yX7_put (.code yX7_put cX7_put 3 none) (rmo 0 0) [.ref (a 1), .int x1] u (fun (u' : St) => fI u' 1 1 = 12) := by
  refine Mv.of (own := RX7) rfl (by decide) (Nat.le_of_ble_eq_true rfl) ?_
  intro p e s m below meth c A Q ls C hret hO hl
  obtain ⟨hx, hb, hml, hown, ht, hK, hA⟩ := id C
  have hl : lv_has ls 3 [(0, .ref (a 1)), (1, .int x1)] := hl
  refine lv_bipush (v := 24) hx hb dX7_put_0 (by decide) ?_
  refine lv_istore_n (lv' := [(2, .int 24), (0, .ref (a 1)), (1, .int x1)]) hx hb dX7_put_2 rfl hl (by decide) rfl (fun ls hl => ?_)
  refine lv_iload_n hx hb dX7_put_3 rfl (lv_at hl 0 rfl) ?_
  refine bn_lt (X := 24) hx hb dX7_put_4 rfl (by omega) ?_ (tgt := 46) (by decide)
  refine lv_aload_n hx hb dX7_put_7 rfl (lv_at hl 1 rfl) ?_
  refine gf_RX7_15 (v := .int 8) C hO 1 cW_1 (congrArg (fun z : Int32 => some (Value.int z)) hI_1_1) dX7_put_8 ?_
  refine lv_sipush (v := 1600) hx hb dX7_put_11 (by decide) ?_
  refine cn_ge (X := 8) (Y := 1600) hx hb dX7_put_14 rfl rfl (by omega) ?_ (tgt := 46) (by decide)
  refine lv_aload_n hx hb dX7_put_17 rfl (lv_at hl 1 rfl) ?_
  refine gf_RX7_9 (v := .ref (a 2)) C hO 1 cW_1 rfl dX7_put_18 ?_
  refine lv_aload_n hx hb dX7_put_21 rfl (lv_at hl 1 rfl) ?_
  refine gf_RX7_15 (v := .int 8) C hO 1 cW_1 (congrArg (fun z : Int32 => some (Value.int z)) hI_1_1) dX7_put_22 ?_
  refine lv_iload_n hx hb dX7_put_25 rfl (lv_at hl 2 rfl) ?_
  refine lv_iload_n hx hb dX7_put_26 rfl (lv_at hl 0 rfl) ?_
  refine lv_ishr hx hb dX7_put_27 ?_
  refine lv_topi (fun z1 ez1 => ?_)
  refine lv_i2b hx hb dX7_put_28 rfl ?_
  refine lv_topi (fun z2 ez2 => ?_)
  refine aBs C hO 2 cW_2 (i_in (X := 8) rfl (by omega) (by omega)) cW_s2 dX7_put_29 (fun H locs hO => ?_)
  refine lv_aload_n hx hb dX7_put_30 rfl (lv_at hl 1 rfl) ?_
  refine lv_dup hx hb dX7_put_31 rfl ?_
  refine gf_RX7_15 (v := .int 8) C hO 1 cW_1 (congrArg (fun z : Int32 => some (Value.int z)) hI_1_1) dX7_put_32 ?_
  refine lv_iconst (v := 1) hx hb dX7_put_35 (by decide) ?_
  refine lv_iadd hx hb dX7_put_36 ?_
  refine tE (y := 9) rfl ?_
  refine pf_RX7_15 C hO 1 cW_1 (Nat.le_of_ble_eq_true rfl) cW_s1_1 dX7_put_37 (fun H locs hO => ?_)
  refine lv_iinc (v := 16) (lv' := [(2, .int 16), (0, .ref (a 1)), (1, .int x1)]) hx hb dX7_put_40 hl (k := 0) rfl rfl (by decide) rfl (fun ls hl => ?_)
  refine lv_goto (tgt := 3) hx hb dX7_put_43 (by decide) ?_
  refine lv_iload_n hx hb dX7_put_3 rfl (lv_at hl 0 rfl) ?_
  refine bn_lt (X := 16) hx hb dX7_put_4 rfl (by omega) ?_ (tgt := 46) (by decide)
  refine lv_aload_n hx hb dX7_put_7 rfl (lv_at hl 1 rfl) ?_
  refine gf_RX7_15 (v := .int 9) C hO 1 cW_1 rfl dX7_put_8 ?_
  refine lv_sipush (v := 1600) hx hb dX7_put_11 (by decide) ?_
  refine cn_ge (X := 9) (Y := 1600) hx hb dX7_put_14 rfl rfl (by omega) ?_ (tgt := 46) (by decide)
  refine lv_aload_n hx hb dX7_put_17 rfl (lv_at hl 1 rfl) ?_
  refine gf_RX7_9 (v := .ref (a 2)) C hO 1 cW_1 rfl dX7_put_18 ?_
  refine lv_aload_n hx hb dX7_put_21 rfl (lv_at hl 1 rfl) ?_
  refine gf_RX7_15 (v := .int 9) C hO 1 cW_1 rfl dX7_put_22 ?_
  refine lv_iload_n hx hb dX7_put_25 rfl (lv_at hl 2 rfl) ?_
  refine lv_iload_n hx hb dX7_put_26 rfl (lv_at hl 0 rfl) ?_
  refine lv_ishr hx hb dX7_put_27 ?_
  refine lv_topi (fun z3 ez3 => ?_)
  refine lv_i2b hx hb dX7_put_28 rfl ?_
  refine lv_topi (fun z4 ez4 => ?_)
  refine aBs C hO 2 cW_2 (i_in (X := 9) rfl (by omega) (by omega)) cW_s2 dX7_put_29 (fun H locs hO => ?_)
  refine lv_aload_n hx hb dX7_put_30 rfl (lv_at hl 1 rfl) ?_
  refine lv_dup hx hb dX7_put_31 rfl ?_
  refine gf_RX7_15 (v := .int 9) C hO 1 cW_1 rfl dX7_put_32 ?_
  refine lv_iconst (v := 1) hx hb dX7_put_35 (by decide) ?_
  refine lv_iadd hx hb dX7_put_36 ?_
  refine tE (y := 10) rfl ?_
  refine pf_RX7_15 C hO 1 cW_1 (Nat.le_of_ble_eq_true rfl) cW_s1_1 dX7_put_37 (fun H locs hO => ?_)
  refine lv_iinc (v := 8) (lv' := [(2, .int 8), (0, .ref (a 1)), (1, .int x1)]) hx hb dX7_put_40 hl (k := 0) rfl rfl (by decide) rfl (fun ls hl => ?_)
  refine lv_goto (tgt := 3) hx hb dX7_put_43 (by decide) ?_
  refine lv_iload_n hx hb dX7_put_3 rfl (lv_at hl 0 rfl) ?_
  refine bn_lt (X := 8) hx hb dX7_put_4 rfl (by omega) ?_ (tgt := 46) (by decide)
  refine lv_aload_n hx hb dX7_put_7 rfl (lv_at hl 1 rfl) ?_
  refine gf_RX7_15 (v := .int 10) C hO 1 cW_1 rfl dX7_put_8 ?_
  refine lv_sipush (v := 1600) hx hb dX7_put_11 (by decide) ?_
  refine cn_ge (X := 10) (Y := 1600) hx hb dX7_put_14 rfl rfl (by omega) ?_ (tgt := 46) (by decide)
  refine lv_aload_n hx hb dX7_put_17 rfl (lv_at hl 1 rfl) ?_
  refine gf_RX7_9 (v := .ref (a 2)) C hO 1 cW_1 rfl dX7_put_18 ?_
  refine lv_aload_n hx hb dX7_put_21 rfl (lv_at hl 1 rfl) ?_
  refine gf_RX7_15 (v := .int 10) C hO 1 cW_1 rfl dX7_put_22 ?_
  refine lv_iload_n hx hb dX7_put_25 rfl (lv_at hl 2 rfl) ?_
  refine lv_iload_n hx hb dX7_put_26 rfl (lv_at hl 0 rfl) ?_
  refine lv_ishr hx hb dX7_put_27 ?_
  refine lv_topi (fun z5 ez5 => ?_)
  refine lv_i2b hx hb dX7_put_28 rfl ?_
  refine lv_topi (fun z6 ez6 => ?_)
  refine aBs C hO 2 cW_2 (i_in (X := 10) rfl (by omega) (by omega)) cW_s2 dX7_put_29 (fun H locs hO => ?_)
  refine lv_aload_n hx hb dX7_put_30 rfl (lv_at hl 1 rfl) ?_
  refine lv_dup hx hb dX7_put_31 rfl ?_
  refine gf_RX7_15 (v := .int 10) C hO 1 cW_1 rfl dX7_put_32 ?_
  refine lv_iconst (v := 1) hx hb dX7_put_35 (by decide) ?_
  refine lv_iadd hx hb dX7_put_36 ?_
  refine tE (y := 11) rfl ?_
  refine pf_RX7_15 C hO 1 cW_1 (Nat.le_of_ble_eq_true rfl) cW_s1_1 dX7_put_37 (fun H locs hO => ?_)
  refine lv_iinc (v := 0) (lv' := [(2, .int 0), (0, .ref (a 1)), (1, .int x1)]) hx hb dX7_put_40 hl (k := 0) rfl rfl (by decide) rfl (fun ls hl => ?_)
  refine lv_goto (tgt := 3) hx hb dX7_put_43 (by decide) ?_
  refine lv_iload_n hx hb dX7_put_3 rfl (lv_at hl 0 rfl) ?_
  refine bn_lt (X := 0) hx hb dX7_put_4 rfl (by omega) ?_ (tgt := 46) (by decide)
  refine lv_aload_n hx hb dX7_put_7 rfl (lv_at hl 1 rfl) ?_
  refine gf_RX7_15 (v := .int 11) C hO 1 cW_1 rfl dX7_put_8 ?_
  refine lv_sipush (v := 1600) hx hb dX7_put_11 (by decide) ?_
  refine cn_ge (X := 11) (Y := 1600) hx hb dX7_put_14 rfl rfl (by omega) ?_ (tgt := 46) (by decide)
  refine lv_aload_n hx hb dX7_put_17 rfl (lv_at hl 1 rfl) ?_
  refine gf_RX7_9 (v := .ref (a 2)) C hO 1 cW_1 rfl dX7_put_18 ?_
  refine lv_aload_n hx hb dX7_put_21 rfl (lv_at hl 1 rfl) ?_
  refine gf_RX7_15 (v := .int 11) C hO 1 cW_1 rfl dX7_put_22 ?_
  refine lv_iload_n hx hb dX7_put_25 rfl (lv_at hl 2 rfl) ?_
  refine lv_iload_n hx hb dX7_put_26 rfl (lv_at hl 0 rfl) ?_
  refine lv_ishr hx hb dX7_put_27 ?_
  refine lv_topi (fun z7 ez7 => ?_)
  refine lv_i2b hx hb dX7_put_28 rfl ?_
  refine lv_topi (fun z8 ez8 => ?_)
  refine aBs C hO 2 cW_2 (i_in (X := 11) rfl (by omega) (by omega)) cW_s2 dX7_put_29 (fun H locs hO => ?_)
  refine lv_aload_n hx hb dX7_put_30 rfl (lv_at hl 1 rfl) ?_
  refine lv_dup hx hb dX7_put_31 rfl ?_
  refine gf_RX7_15 (v := .int 11) C hO 1 cW_1 rfl dX7_put_32 ?_
  refine lv_iconst (v := 1) hx hb dX7_put_35 (by decide) ?_
  refine lv_iadd hx hb dX7_put_36 ?_
  refine tE (y := 12) rfl ?_
  refine pf_RX7_15 C hO 1 cW_1 (Nat.le_of_ble_eq_true rfl) cW_s1_1 dX7_put_37 (fun H locs hO => ?_)
  refine lv_iinc (v := (-8)) (lv' := [(2, .int (-8)), (0, .ref (a 1)), (1, .int x1)]) hx hb dX7_put_40 hl (k := 0) rfl rfl (by decide) rfl (fun ls hl => ?_)
  refine lv_goto (tgt := 3) hx hb dX7_put_43 (by decide) ?_
  refine lv_iload_n hx hb dX7_put_3 rfl (lv_at hl 0 rfl) ?_
  refine bt_lt (tgt := 46) (X := (-8)) hx hb dX7_put_4 (by decide) rfl (by omega) ?_
  refine hret _ _ _ _ _ dX7_put_46 ?_ hO
  exact rfl
set_option maxHeartbeats 4000000 in
set_option maxRecDepth 100000 in
theorem T_X7_put_12 (l : Launch) (D : va_G) (cy : Nat → ClassId) (a : Nat → Nat) (u : St) (hI_1_1 : fI u 1 1 = 12) (x1 : Int32)  : Mv l D cy (cW cy a) yX7_put (.code yX7_put cX7_put 3 none) (rmo 0 0) [.ref (a 1), .int x1] u (fun (u' : St) => fI u' 1 1 = 16) := by
  refine Mv.of (own := RX7) rfl (by decide) (Nat.le_of_ble_eq_true rfl) ?_
  intro p e s m below meth c A Q ls C hret hO hl
  obtain ⟨hx, hb, hml, hown, ht, hK, hA⟩ := id C
  have hl : lv_has ls 3 [(0, .ref (a 1)), (1, .int x1)] := hl
  refine lv_bipush (v := 24) hx hb dX7_put_0 (by decide) ?_
  refine lv_istore_n (lv' := [(2, .int 24), (0, .ref (a 1)), (1, .int x1)]) hx hb dX7_put_2 rfl hl (by decide) rfl (fun ls hl => ?_)
  refine lv_iload_n hx hb dX7_put_3 rfl (lv_at hl 0 rfl) ?_
  refine bn_lt (X := 24) hx hb dX7_put_4 rfl (by omega) ?_ (tgt := 46) (by decide)
  refine lv_aload_n hx hb dX7_put_7 rfl (lv_at hl 1 rfl) ?_
  refine gf_RX7_15 (v := .int 12) C hO 1 cW_1 (congrArg (fun z : Int32 => some (Value.int z)) hI_1_1) dX7_put_8 ?_
  refine lv_sipush (v := 1600) hx hb dX7_put_11 (by decide) ?_
  refine cn_ge (X := 12) (Y := 1600) hx hb dX7_put_14 rfl rfl (by omega) ?_ (tgt := 46) (by decide)
  refine lv_aload_n hx hb dX7_put_17 rfl (lv_at hl 1 rfl) ?_
  refine gf_RX7_9 (v := .ref (a 2)) C hO 1 cW_1 rfl dX7_put_18 ?_
  refine lv_aload_n hx hb dX7_put_21 rfl (lv_at hl 1 rfl) ?_
  refine gf_RX7_15 (v := .int 12) C hO 1 cW_1 (congrArg (fun z : Int32 => some (Value.int z)) hI_1_1) dX7_put_22 ?_
  refine lv_iload_n hx hb dX7_put_25 rfl (lv_at hl 2 rfl) ?_
  refine lv_iload_n hx hb dX7_put_26 rfl (lv_at hl 0 rfl) ?_
  refine lv_ishr hx hb dX7_put_27 ?_
  refine lv_topi (fun z1 ez1 => ?_)
  refine lv_i2b hx hb dX7_put_28 rfl ?_
  refine lv_topi (fun z2 ez2 => ?_)
  refine aBs C hO 2 cW_2 (i_in (X := 12) rfl (by omega) (by omega)) cW_s2 dX7_put_29 (fun H locs hO => ?_)
  refine lv_aload_n hx hb dX7_put_30 rfl (lv_at hl 1 rfl) ?_
  refine lv_dup hx hb dX7_put_31 rfl ?_
  refine gf_RX7_15 (v := .int 12) C hO 1 cW_1 (congrArg (fun z : Int32 => some (Value.int z)) hI_1_1) dX7_put_32 ?_
  refine lv_iconst (v := 1) hx hb dX7_put_35 (by decide) ?_
  refine lv_iadd hx hb dX7_put_36 ?_
  refine tE (y := 13) rfl ?_
  refine pf_RX7_15 C hO 1 cW_1 (Nat.le_of_ble_eq_true rfl) cW_s1_1 dX7_put_37 (fun H locs hO => ?_)
  refine lv_iinc (v := 16) (lv' := [(2, .int 16), (0, .ref (a 1)), (1, .int x1)]) hx hb dX7_put_40 hl (k := 0) rfl rfl (by decide) rfl (fun ls hl => ?_)
  refine lv_goto (tgt := 3) hx hb dX7_put_43 (by decide) ?_
  refine lv_iload_n hx hb dX7_put_3 rfl (lv_at hl 0 rfl) ?_
  refine bn_lt (X := 16) hx hb dX7_put_4 rfl (by omega) ?_ (tgt := 46) (by decide)
  refine lv_aload_n hx hb dX7_put_7 rfl (lv_at hl 1 rfl) ?_
  refine gf_RX7_15 (v := .int 13) C hO 1 cW_1 rfl dX7_put_8 ?_
  refine lv_sipush (v := 1600) hx hb dX7_put_11 (by decide) ?_
  refine cn_ge (X := 13) (Y := 1600) hx hb dX7_put_14 rfl rfl (by omega) ?_ (tgt := 46) (by decide)
  refine lv_aload_n hx hb dX7_put_17 rfl (lv_at hl 1 rfl) ?_
  refine gf_RX7_9 (v := .ref (a 2)) C hO 1 cW_1 rfl dX7_put_18 ?_
  refine lv_aload_n hx hb dX7_put_21 rfl (lv_at hl 1 rfl) ?_
  refine gf_RX7_15 (v := .int 13) C hO 1 cW_1 rfl dX7_put_22 ?_
  refine lv_iload_n hx hb dX7_put_25 rfl (lv_at hl 2 rfl) ?_
  refine lv_iload_n hx hb dX7_put_26 rfl (lv_at hl 0 rfl) ?_
  refine lv_ishr hx hb dX7_put_27 ?_
  refine lv_topi (fun z3 ez3 => ?_)
  refine lv_i2b hx hb dX7_put_28 rfl ?_
  refine lv_topi (fun z4 ez4 => ?_)
  refine aBs C hO 2 cW_2 (i_in (X := 13) rfl (by omega) (by omega)) cW_s2 dX7_put_29 (fun H locs hO => ?_)
  refine lv_aload_n hx hb dX7_put_30 rfl (lv_at hl 1 rfl) ?_
  refine lv_dup hx hb dX7_put_31 rfl ?_
  refine gf_RX7_15 (v := .int 13) C hO 1 cW_1 rfl dX7_put_32 ?_
  refine lv_iconst (v := 1) hx hb dX7_put_35 (by decide) ?_
  refine lv_iadd hx hb dX7_put_36 ?_
  refine tE (y := 14) rfl ?_
  refine pf_RX7_15 C hO 1 cW_1 (Nat.le_of_ble_eq_true rfl) cW_s1_1 dX7_put_37 (fun H locs hO => ?_)
  refine lv_iinc (v := 8) (lv' := [(2, .int 8), (0, .ref (a 1)), (1, .int x1)]) hx hb dX7_put_40 hl (k := 0) rfl rfl (by decide) rfl (fun ls hl => ?_)
  refine lv_goto (tgt := 3) hx hb dX7_put_43 (by decide) ?_
  refine lv_iload_n hx hb dX7_put_3 rfl (lv_at hl 0 rfl) ?_
  refine bn_lt (X := 8) hx hb dX7_put_4 rfl (by omega) ?_ (tgt := 46) (by decide)
  refine lv_aload_n hx hb dX7_put_7 rfl (lv_at hl 1 rfl) ?_
  refine gf_RX7_15 (v := .int 14) C hO 1 cW_1 rfl dX7_put_8 ?_
  refine lv_sipush (v := 1600) hx hb dX7_put_11 (by decide) ?_
  refine cn_ge (X := 14) (Y := 1600) hx hb dX7_put_14 rfl rfl (by omega) ?_ (tgt := 46) (by decide)
  refine lv_aload_n hx hb dX7_put_17 rfl (lv_at hl 1 rfl) ?_
  refine gf_RX7_9 (v := .ref (a 2)) C hO 1 cW_1 rfl dX7_put_18 ?_
  refine lv_aload_n hx hb dX7_put_21 rfl (lv_at hl 1 rfl) ?_
  refine gf_RX7_15 (v := .int 14) C hO 1 cW_1 rfl dX7_put_22 ?_
  refine lv_iload_n hx hb dX7_put_25 rfl (lv_at hl 2 rfl) ?_
  refine lv_iload_n hx hb dX7_put_26 rfl (lv_at hl 0 rfl) ?_
  refine lv_ishr hx hb dX7_put_27 ?_
  refine lv_topi (fun z5 ez5 => ?_)
  refine lv_i2b hx hb dX7_put_28 rfl ?_
  refine lv_topi (fun z6 ez6 => ?_)
  refine aBs C hO 2 cW_2 (i_in (X := 14) rfl (by omega) (by omega)) cW_s2 dX7_put_29 (fun H locs hO => ?_)
  refine lv_aload_n hx hb dX7_put_30 rfl (lv_at hl 1 rfl) ?_
  refine lv_dup hx hb dX7_put_31 rfl ?_
  refine gf_RX7_15 (v := .int 14) C hO 1 cW_1 rfl dX7_put_32 ?_
  refine lv_iconst (v := 1) hx hb dX7_put_35 (by decide) ?_
  refine lv_iadd hx hb dX7_put_36 ?_
  refine tE (y := 15) rfl ?_
  refine pf_RX7_15 C hO 1 cW_1 (Nat.le_of_ble_eq_true rfl) cW_s1_1 dX7_put_37 (fun H locs hO => ?_)
  refine lv_iinc (v := 0) (lv' := [(2, .int 0), (0, .ref (a 1)), (1, .int x1)]) hx hb dX7_put_40 hl (k := 0) rfl rfl (by decide) rfl (fun ls hl => ?_)
  refine lv_goto (tgt := 3) hx hb dX7_put_43 (by decide) ?_
  refine lv_iload_n hx hb dX7_put_3 rfl (lv_at hl 0 rfl) ?_
  refine bn_lt (X := 0) hx hb dX7_put_4 rfl (by omega) ?_ (tgt := 46) (by decide)
  refine lv_aload_n hx hb dX7_put_7 rfl (lv_at hl 1 rfl) ?_
  refine gf_RX7_15 (v := .int 15) C hO 1 cW_1 rfl dX7_put_8 ?_
  refine lv_sipush (v := 1600) hx hb dX7_put_11 (by decide) ?_
  refine cn_ge (X := 15) (Y := 1600) hx hb dX7_put_14 rfl rfl (by omega) ?_ (tgt := 46) (by decide)
  refine lv_aload_n hx hb dX7_put_17 rfl (lv_at hl 1 rfl) ?_
  refine gf_RX7_9 (v := .ref (a 2)) C hO 1 cW_1 rfl dX7_put_18 ?_
  refine lv_aload_n hx hb dX7_put_21 rfl (lv_at hl 1 rfl) ?_
  refine gf_RX7_15 (v := .int 15) C hO 1 cW_1 rfl dX7_put_22 ?_
  refine lv_iload_n hx hb dX7_put_25 rfl (lv_at hl 2 rfl) ?_
  refine lv_iload_n hx hb dX7_put_26 rfl (lv_at hl 0 rfl) ?_
  refine lv_ishr hx hb dX7_put_27 ?_
  refine lv_topi (fun z7 ez7 => ?_)
  refine lv_i2b hx hb dX7_put_28 rfl ?_
  refine lv_topi (fun z8 ez8 => ?_)
  refine aBs C hO 2 cW_2 (i_in (X := 15) rfl (by omega) (by omega)) cW_s2 dX7_put_29 (fun H locs hO => ?_)
  refine lv_aload_n hx hb dX7_put_30 rfl (lv_at hl 1 rfl) ?_
  refine lv_dup hx hb dX7_put_31 rfl ?_
  refine gf_RX7_15 (v := .int 15) C hO 1 cW_1 rfl dX7_put_32 ?_
  refine lv_iconst (v := 1) hx hb dX7_put_35 (by decide) ?_
  refine lv_iadd hx hb dX7_put_36 ?_
  refine tE (y := 16) rfl ?_
  refine pf_RX7_15 C hO 1 cW_1 (Nat.le_of_ble_eq_true rfl) cW_s1_1 dX7_put_37 (fun H locs hO => ?_)
  refine lv_iinc (v := (-8)) (lv' := [(2, .int (-8)), (0, .ref (a 1)), (1, .int x1)]) hx hb dX7_put_40 hl (k := 0) rfl rfl (by decide) rfl (fun ls hl => ?_)
  refine lv_goto (tgt := 3) hx hb dX7_put_43 (by decide) ?_
  refine lv_iload_n hx hb dX7_put_3 rfl (lv_at hl 0 rfl) ?_
  refine bt_lt (tgt := 46) (X := (-8)) hx hb dX7_put_4 (by decide) rfl (by omega) ?_
  refine hret _ _ _ _ _ dX7_put_46 ?_ hO
  exact rfl
set_option maxHeartbeats 4000000 in
set_option maxRecDepth 100000 in
theorem T_X7_put_16 (l : Launch) (D : va_G) (cy : Nat → ClassId) (a : Nat → Nat) (u : St) (hI_1_1 : fI u 1 1 = 16) (x1 : Int32)  : Mv l D cy (cW cy a) yX7_put (.code yX7_put cX7_put 3 none) (rmo 0 0) [.ref (a 1), .int x1] u (fun (u' : St) => fI u' 1 1 = 20) := by
  refine Mv.of (own := RX7) rfl (by decide) (Nat.le_of_ble_eq_true rfl) ?_
  intro p e s m below meth c A Q ls C hret hO hl
  obtain ⟨hx, hb, hml, hown, ht, hK, hA⟩ := id C
  have hl : lv_has ls 3 [(0, .ref (a 1)), (1, .int x1)] := hl
  refine lv_bipush (v := 24) hx hb dX7_put_0 (by decide) ?_
  refine lv_istore_n (lv' := [(2, .int 24), (0, .ref (a 1)), (1, .int x1)]) hx hb dX7_put_2 rfl hl (by decide) rfl (fun ls hl => ?_)
  refine lv_iload_n hx hb dX7_put_3 rfl (lv_at hl 0 rfl) ?_
  refine bn_lt (X := 24) hx hb dX7_put_4 rfl (by omega) ?_ (tgt := 46) (by decide)
  refine lv_aload_n hx hb dX7_put_7 rfl (lv_at hl 1 rfl) ?_
  refine gf_RX7_15 (v := .int 16) C hO 1 cW_1 (congrArg (fun z : Int32 => some (Value.int z)) hI_1_1) dX7_put_8 ?_
  refine lv_sipush (v := 1600) hx hb dX7_put_11 (by decide) ?_
  refine cn_ge (X := 16) (Y := 1600) hx hb dX7_put_14 rfl rfl (by omega) ?_ (tgt := 46) (by decide)
  refine lv_aload_n hx hb dX7_put_17 rfl (lv_at hl 1 rfl) ?_
  refine gf_RX7_9 (v := .ref (a 2)) C hO 1 cW_1 rfl dX7_put_18 ?_
  refine lv_aload_n hx hb dX7_put_21 rfl (lv_at hl 1 rfl) ?_
  refine gf_RX7_15 (v := .int 16) C hO 1 cW_1 (congrArg (fun z : Int32 => some (Value.int z)) hI_1_1) dX7_put_22 ?_
  refine lv_iload_n hx hb dX7_put_25 rfl (lv_at hl 2 rfl) ?_
  refine lv_iload_n hx hb dX7_put_26 rfl (lv_at hl 0 rfl) ?_
  refine lv_ishr hx hb dX7_put_27 ?_
  refine lv_topi (fun z1 ez1 => ?_)
  refine lv_i2b hx hb dX7_put_28 rfl ?_
  refine lv_topi (fun z2 ez2 => ?_)
  refine aBs C hO 2 cW_2 (i_in (X := 16) rfl (by omega) (by omega)) cW_s2 dX7_put_29 (fun H locs hO => ?_)
  refine lv_aload_n hx hb dX7_put_30 rfl (lv_at hl 1 rfl) ?_
  refine lv_dup hx hb dX7_put_31 rfl ?_
  refine gf_RX7_15 (v := .int 16) C hO 1 cW_1 (congrArg (fun z : Int32 => some (Value.int z)) hI_1_1) dX7_put_32 ?_
  refine lv_iconst (v := 1) hx hb dX7_put_35 (by decide) ?_
  refine lv_iadd hx hb dX7_put_36 ?_
  refine tE (y := 17) rfl ?_
  refine pf_RX7_15 C hO 1 cW_1 (Nat.le_of_ble_eq_true rfl) cW_s1_1 dX7_put_37 (fun H locs hO => ?_)
  refine lv_iinc (v := 16) (lv' := [(2, .int 16), (0, .ref (a 1)), (1, .int x1)]) hx hb dX7_put_40 hl (k := 0) rfl rfl (by decide) rfl (fun ls hl => ?_)
  refine lv_goto (tgt := 3) hx hb dX7_put_43 (by decide) ?_
  refine lv_iload_n hx hb dX7_put_3 rfl (lv_at hl 0 rfl) ?_
  refine bn_lt (X := 16) hx hb dX7_put_4 rfl (by omega) ?_ (tgt := 46) (by decide)
  refine lv_aload_n hx hb dX7_put_7 rfl (lv_at hl 1 rfl) ?_
  refine gf_RX7_15 (v := .int 17) C hO 1 cW_1 rfl dX7_put_8 ?_
  refine lv_sipush (v := 1600) hx hb dX7_put_11 (by decide) ?_
  refine cn_ge (X := 17) (Y := 1600) hx hb dX7_put_14 rfl rfl (by omega) ?_ (tgt := 46) (by decide)
  refine lv_aload_n hx hb dX7_put_17 rfl (lv_at hl 1 rfl) ?_
  refine gf_RX7_9 (v := .ref (a 2)) C hO 1 cW_1 rfl dX7_put_18 ?_
  refine lv_aload_n hx hb dX7_put_21 rfl (lv_at hl 1 rfl) ?_
  refine gf_RX7_15 (v := .int 17) C hO 1 cW_1 rfl dX7_put_22 ?_
  refine lv_iload_n hx hb dX7_put_25 rfl (lv_at hl 2 rfl) ?_
  refine lv_iload_n hx hb dX7_put_26 rfl (lv_at hl 0 rfl) ?_
  refine lv_ishr hx hb dX7_put_27 ?_
  refine lv_topi (fun z3 ez3 => ?_)
  refine lv_i2b hx hb dX7_put_28 rfl ?_
  refine lv_topi (fun z4 ez4 => ?_)
  refine aBs C hO 2 cW_2 (i_in (X := 17) rfl (by omega) (by omega)) cW_s2 dX7_put_29 (fun H locs hO => ?_)
  refine lv_aload_n hx hb dX7_put_30 rfl (lv_at hl 1 rfl) ?_
  refine lv_dup hx hb dX7_put_31 rfl ?_
  refine gf_RX7_15 (v := .int 17) C hO 1 cW_1 rfl dX7_put_32 ?_
  refine lv_iconst (v := 1) hx hb dX7_put_35 (by decide) ?_
  refine lv_iadd hx hb dX7_put_36 ?_
  refine tE (y := 18) rfl ?_
  refine pf_RX7_15 C hO 1 cW_1 (Nat.le_of_ble_eq_true rfl) cW_s1_1 dX7_put_37 (fun H locs hO => ?_)
  refine lv_iinc (v := 8) (lv' := [(2, .int 8), (0, .ref (a 1)), (1, .int x1)]) hx hb dX7_put_40 hl (k := 0) rfl rfl (by decide) rfl (fun ls hl => ?_)
  refine lv_goto (tgt := 3) hx hb dX7_put_43 (by decide) ?_
  refine lv_iload_n hx hb dX7_put_3 rfl (lv_at hl 0 rfl) ?_
  refine bn_lt (X := 8) hx hb dX7_put_4 rfl (by omega) ?_ (tgt := 46) (by decide)
  refine lv_aload_n hx hb dX7_put_7 rfl (lv_at hl 1 rfl) ?_
  refine gf_RX7_15 (v := .int 18) C hO 1 cW_1 rfl dX7_put_8 ?_
  refine lv_sipush (v := 1600) hx hb dX7_put_11 (by decide) ?_
  refine cn_ge (X := 18) (Y := 1600) hx hb dX7_put_14 rfl rfl (by omega) ?_ (tgt := 46) (by decide)
  refine lv_aload_n hx hb dX7_put_17 rfl (lv_at hl 1 rfl) ?_
  refine gf_RX7_9 (v := .ref (a 2)) C hO 1 cW_1 rfl dX7_put_18 ?_
  refine lv_aload_n hx hb dX7_put_21 rfl (lv_at hl 1 rfl) ?_
  refine gf_RX7_15 (v := .int 18) C hO 1 cW_1 rfl dX7_put_22 ?_
  refine lv_iload_n hx hb dX7_put_25 rfl (lv_at hl 2 rfl) ?_
  refine lv_iload_n hx hb dX7_put_26 rfl (lv_at hl 0 rfl) ?_
  refine lv_ishr hx hb dX7_put_27 ?_
  refine lv_topi (fun z5 ez5 => ?_)
  refine lv_i2b hx hb dX7_put_28 rfl ?_
  refine lv_topi (fun z6 ez6 => ?_)
  refine aBs C hO 2 cW_2 (i_in (X := 18) rfl (by omega) (by omega)) cW_s2 dX7_put_29 (fun H locs hO => ?_)
  refine lv_aload_n hx hb dX7_put_30 rfl (lv_at hl 1 rfl) ?_
  refine lv_dup hx hb dX7_put_31 rfl ?_
  refine gf_RX7_15 (v := .int 18) C hO 1 cW_1 rfl dX7_put_32 ?_
  refine lv_iconst (v := 1) hx hb dX7_put_35 (by decide) ?_
  refine lv_iadd hx hb dX7_put_36 ?_
  refine tE (y := 19) rfl ?_
  refine pf_RX7_15 C hO 1 cW_1 (Nat.le_of_ble_eq_true rfl) cW_s1_1 dX7_put_37 (fun H locs hO => ?_)
  refine lv_iinc (v := 0) (lv' := [(2, .int 0), (0, .ref (a 1)), (1, .int x1)]) hx hb dX7_put_40 hl (k := 0) rfl rfl (by decide) rfl (fun ls hl => ?_)
  refine lv_goto (tgt := 3) hx hb dX7_put_43 (by decide) ?_
  refine lv_iload_n hx hb dX7_put_3 rfl (lv_at hl 0 rfl) ?_
  refine bn_lt (X := 0) hx hb dX7_put_4 rfl (by omega) ?_ (tgt := 46) (by decide)
  refine lv_aload_n hx hb dX7_put_7 rfl (lv_at hl 1 rfl) ?_
  refine gf_RX7_15 (v := .int 19) C hO 1 cW_1 rfl dX7_put_8 ?_
  refine lv_sipush (v := 1600) hx hb dX7_put_11 (by decide) ?_
  refine cn_ge (X := 19) (Y := 1600) hx hb dX7_put_14 rfl rfl (by omega) ?_ (tgt := 46) (by decide)
  refine lv_aload_n hx hb dX7_put_17 rfl (lv_at hl 1 rfl) ?_
  refine gf_RX7_9 (v := .ref (a 2)) C hO 1 cW_1 rfl dX7_put_18 ?_
  refine lv_aload_n hx hb dX7_put_21 rfl (lv_at hl 1 rfl) ?_
  refine gf_RX7_15 (v := .int 19) C hO 1 cW_1 rfl dX7_put_22 ?_
  refine lv_iload_n hx hb dX7_put_25 rfl (lv_at hl 2 rfl) ?_
  refine lv_iload_n hx hb dX7_put_26 rfl (lv_at hl 0 rfl) ?_
  refine lv_ishr hx hb dX7_put_27 ?_
  refine lv_topi (fun z7 ez7 => ?_)
  refine lv_i2b hx hb dX7_put_28 rfl ?_
  refine lv_topi (fun z8 ez8 => ?_)
  refine aBs C hO 2 cW_2 (i_in (X := 19) rfl (by omega) (by omega)) cW_s2 dX7_put_29 (fun H locs hO => ?_)
  refine lv_aload_n hx hb dX7_put_30 rfl (lv_at hl 1 rfl) ?_
  refine lv_dup hx hb dX7_put_31 rfl ?_
  refine gf_RX7_15 (v := .int 19) C hO 1 cW_1 rfl dX7_put_32 ?_
  refine lv_iconst (v := 1) hx hb dX7_put_35 (by decide) ?_
  refine lv_iadd hx hb dX7_put_36 ?_
  refine tE (y := 20) rfl ?_
  refine pf_RX7_15 C hO 1 cW_1 (Nat.le_of_ble_eq_true rfl) cW_s1_1 dX7_put_37 (fun H locs hO => ?_)
  refine lv_iinc (v := (-8)) (lv' := [(2, .int (-8)), (0, .ref (a 1)), (1, .int x1)]) hx hb dX7_put_40 hl (k := 0) rfl rfl (by decide) rfl (fun ls hl => ?_)
  refine lv_goto (tgt := 3) hx hb dX7_put_43 (by decide) ?_
  refine lv_iload_n hx hb dX7_put_3 rfl (lv_at hl 0 rfl) ?_
  refine bt_lt (tgt := 46) (X := (-8)) hx hb dX7_put_4 (by decide) rfl (by omega) ?_
  refine hret _ _ _ _ _ dX7_put_46 ?_ hO
  exact rfl
theorem dX10_feed_0 : decode cX10_feed 0 = .ok (.aload_n 0, 1) := by decide +kernel
theorem dX10_feed_1 : decode cX10_feed 1 = .ok (.getfield 12, 3) := by decide +kernel
theorem dX10_feed_4 : decode cX10_feed 4 = .ok (.getfield 89, 3) := by decide +kernel
theorem dX10_feed_7 : decode cX10_feed 7 = .ok (.bipush 20, 2) := by decide +kernel
theorem dX10_feed_9 : decode cX10_feed 9 = .ok (.iadd, 1) := by decide +kernel
theorem dX10_feed_10 : decode cX10_feed 10 = .ok (.sipush 1600, 3) := by decide +kernel
theorem dX10_feed_13 : decode cX10_feed 13 = .ok (.if_icmp .le 5, 3) := by decide +kernel
theorem dX10_feed_16 : decode cX10_feed 16 = .ok (.iconst (-1), 1) := by decide +kernel
theorem dX10_feed_17 : decode cX10_feed 17 = .ok (.ireturn, 1) := by decide +kernel
theorem dX10_feed_18 : decode cX10_feed 18 = .ok (.aload_n 0, 1) := by decide +kernel
theorem dX10_feed_19 : decode cX10_feed 19 = .ok (.getfield 12, 3) := by decide +kernel
theorem dX10_feed_22 : decode cX10_feed 22 = .ok (.iload_n 1, 1) := by decide +kernel
theorem dX10_feed_23 : decode cX10_feed 23 = .ok (.invokevirtual 93, 3) := by decide +kernel
theorem dX10_feed_26 : decode cX10_feed 26 = .ok (.aload_n 0, 1) := by decide +kernel
theorem dX10_feed_27 : decode cX10_feed 27 = .ok (.getfield 12, 3) := by decide +kernel
theorem dX10_feed_30 : decode cX10_feed 30 = .ok (.iload_n 2, 1) := by decide +kernel
theorem dX10_feed_31 : decode cX10_feed 31 = .ok (.invokevirtual 93, 3) := by decide +kernel
theorem dX10_feed_34 : decode cX10_feed 34 = .ok (.aload_n 0, 1) := by decide +kernel
theorem dX10_feed_35 : decode cX10_feed 35 = .ok (.getfield 12, 3) := by decide +kernel
theorem dX10_feed_38 : decode cX10_feed 38 = .ok (.iload_n 3, 1) := by decide +kernel
theorem dX10_feed_39 : decode cX10_feed 39 = .ok (.invokevirtual 93, 3) := by decide +kernel
theorem dX10_feed_42 : decode cX10_feed 42 = .ok (.aload_n 0, 1) := by decide +kernel
theorem dX10_feed_43 : decode cX10_feed 43 = .ok (.getfield 12, 3) := by decide +kernel
theorem dX10_feed_46 : decode cX10_feed 46 = .ok (.iload 4, 2) := by decide +kernel
theorem dX10_feed_48 : decode cX10_feed 48 = .ok (.invokevirtual 93, 3) := by decide +kernel
theorem dX10_feed_51 : decode cX10_feed 51 = .ok (.aload_n 0, 1) := by decide +kernel
theorem dX10_feed_52 : decode cX10_feed 52 = .ok (.getfield 12, 3) := by decide +kernel
theorem dX10_feed_55 : decode cX10_feed 55 = .ok (.iload 5, 2) := by decide +kernel
theorem dX10_feed_57 : decode cX10_feed 57 = .ok (.invokevirtual 93, 3) := by decide +kernel
theorem dX10_feed_60 : decode cX10_feed 60 = .ok (.aload_n 0, 1) := by decide +kernel
theorem dX10_feed_61 : decode cX10_feed 61 = .ok (.getfield 12, 3) := by decide +kernel
theorem dX10_feed_64 : decode cX10_feed 64 = .ok (.getfield 89, 3) := by decide +kernel
theorem dX10_feed_67 : decode cX10_feed 67 = .ok (.ireturn, 1) := by decide +kernel
theorem wd_511 : (Cond.code ⟨"WebCourt", "feed", "(IIIII)I"⟩ prog_1_method_2_code (6 : Nat) (Option.some FieldType.int)) ∈ gtb := gtb_c2 162 (by decide +kernel) rfl
theorem wd_512 : (Cond.methodLink "WebCourt" (93 : Nat) ⟨"WebCourt$Tape", "put", "(I)V"⟩) ∈ gtb := gtb_c2 163 (by decide +kernel) rfl
theorem wd_513 : (Cond.instanceMethod ⟨"WebCourt$Tape", "put", "(I)V"⟩) ∈ gtb := gtb_c2 164 (by decide +kernel) rfl
theorem wd_514 : (Cond.selects "WebCourt$Tape" ⟨"WebCourt$Tape", "put", "(I)V"⟩ ⟨"WebCourt$Tape", "put", "(I)V"⟩) ∈ gtb := gtb_c2 165 (by decide +kernel) rfl
theorem wd_111 : (Cond.initialized "WebCourt$Tape") ∈ gtb := gtb_c1 2 (by decide +kernel) rfl
theorem hd_yX7_put : yX7_put.cls = RX7 ∧ yX7_put.cls ≠ "java/lang/invoke/MethodHandle" ∧ yX7_put.cls ≠ "java/lang/invoke/VarHandle" ∧ (parseMethodDescriptor yX7_put.desc).map (fun d => d.parameters.length) = some 1 := by decide +kernel
set_option maxHeartbeats 4000000 in
set_option maxRecDepth 100000 in
theorem T_X10_feed (l : Launch) (D : va_G) (cy : Nat → ClassId) (a : Nat → Nat) (u : St) (hI_1_1 : fI u 1 1 = 0) (x1 : Int32) (x2 : Int32) (x3 : Int32) (x4 : Int32) (x5 : Int32)  : Mi l D cy (cW cy a) yX10_feed (.code yX10_feed cX10_feed 6 (some .int)) (rmo 1 22) [.ref (a 0), .int x1, .int x2, .int x3, .int x4, .int x5] u (fun (r : Int32) (u' : St) => r = 20) := by
  refine Mi.of (own := RX10) rfl (by decide) (Nat.le_of_ble_eq_true rfl) ?_
  intro p e s m below meth c A Q ls C hret hO hl
  obtain ⟨hx, hb, hml, hown, ht, hK, hA⟩ := id C
  have hl : lv_has ls 6 [(0, .ref (a 0)), (1, .int x1), (2, .int x2), (3, .int x3), (4, .int x4), (5, .int x5)] := hl
  refine lv_aload_n hx hb dX10_feed_0 rfl (lv_at hl 0 rfl) ?_
  refine gf_RX10_12 (v := .ref (a 1)) C hO 0 cW_0 rfl dX10_feed_1 ?_
  refine gf_RX10_89 (v := .int 0) C hO 1 cW_1 (congrArg (fun z : Int32 => some (Value.int z)) hI_1_1) dX10_feed_4 ?_
  refine lv_bipush (v := 20) hx hb dX10_feed_7 (by decide) ?_
  refine lv_iadd hx hb dX10_feed_9 ?_
  refine tE (y := 20) rfl ?_
  refine lv_sipush (v := 1600) hx hb dX10_feed_10 (by decide) ?_
  refine ct_le (tgt := 18) (X := 20) (Y := 1600) hx hb dX10_feed_13 (by decide) rfl rfl (by omega) ?_
  refine lv_aload_n hx hb dX10_feed_18 rfl (lv_at hl 0 rfl) ?_
  refine gf_RX10_12 (v := .ref (a 1)) C hO 0 cW_0 rfl dX10_feed_19 ?_
  refine lv_iload_n hx hb dX10_feed_22 rfl (lv_at hl 1 rfl) ?_
  refine cVv (w := cW cy a) (As := [.int x1]) (rest := []) C hO (T_X7_put_0 l D cy a _ (by exact hI_1_1) (x1)) (cwV 1 ht (gV wd_512 wd_513 wd_514 wd_111 wd_515) rfl rfl rfl hd_yX7_put ⟨Nat.le_of_ble_eq_true rfl, Nat.le_of_ble_eq_true rfl⟩) 1 rfl cW_1 rfl rfl hl.1 (Nat.le_of_ble_eq_true rfl) dX10_feed_23 rfl ⟨Nat.zero_le _, Nat.zero_le _⟩ (fun u2 H locs hp3 hO => ?_)
  have hI_1_1_u2 := hp3
  refine lv_aload_n hx hb dX10_feed_26 rfl (lv_at hl 0 rfl) ?_
  refine gf_RX10_12 (v := .ref (a 1)) C hO 0 cW_0 rfl dX10_feed_27 ?_
  refine lv_iload_n hx hb dX10_feed_30 rfl (lv_at hl 2 rfl) ?_
  refine cVv (w := cW cy a) (As := [.int x2]) (rest := []) C hO (T_X7_put_4 l D cy a _ (by exact hI_1_1_u2) (x2)) (cwV 1 ht (gV wd_512 wd_513 wd_514 wd_111 wd_515) rfl rfl rfl hd_yX7_put ⟨Nat.le_of_ble_eq_true rfl, Nat.le_of_ble_eq_true rfl⟩) 1 rfl cW_1 rfl rfl hl.1 (Nat.le_of_ble_eq_true rfl) dX10_feed_31 rfl ⟨Nat.zero_le _, Nat.zero_le _⟩ (fun u5 H locs hp6 hO => ?_)
  have hI_1_1_u5 := hp6
  refine lv_aload_n hx hb dX10_feed_34 rfl (lv_at hl 0 rfl) ?_
  refine gf_RX10_12 (v := .ref (a 1)) C hO 0 cW_0 rfl dX10_feed_35 ?_
  refine lv_iload_n hx hb dX10_feed_38 rfl (lv_at hl 3 rfl) ?_
  refine cVv (w := cW cy a) (As := [.int x3]) (rest := []) C hO (T_X7_put_8 l D cy a _ (by exact hI_1_1_u5) (x3)) (cwV 1 ht (gV wd_512 wd_513 wd_514 wd_111 wd_515) rfl rfl rfl hd_yX7_put ⟨Nat.le_of_ble_eq_true rfl, Nat.le_of_ble_eq_true rfl⟩) 1 rfl cW_1 rfl rfl hl.1 (Nat.le_of_ble_eq_true rfl) dX10_feed_39 rfl ⟨Nat.zero_le _, Nat.zero_le _⟩ (fun u8 H locs hp9 hO => ?_)
  have hI_1_1_u8 := hp9
  refine lv_aload_n hx hb dX10_feed_42 rfl (lv_at hl 0 rfl) ?_
  refine gf_RX10_12 (v := .ref (a 1)) C hO 0 cW_0 rfl dX10_feed_43 ?_
  refine lv_iload hx hb dX10_feed_46 (lv_at hl 4 rfl) ?_
  refine cVv (w := cW cy a) (As := [.int x4]) (rest := []) C hO (T_X7_put_12 l D cy a _ (by exact hI_1_1_u8) (x4)) (cwV 1 ht (gV wd_512 wd_513 wd_514 wd_111 wd_515) rfl rfl rfl hd_yX7_put ⟨Nat.le_of_ble_eq_true rfl, Nat.le_of_ble_eq_true rfl⟩) 1 rfl cW_1 rfl rfl hl.1 (Nat.le_of_ble_eq_true rfl) dX10_feed_48 rfl ⟨Nat.zero_le _, Nat.zero_le _⟩ (fun u11 H locs hp12 hO => ?_)
  have hI_1_1_u11 := hp12
  refine lv_aload_n hx hb dX10_feed_51 rfl (lv_at hl 0 rfl) ?_
  refine gf_RX10_12 (v := .ref (a 1)) C hO 0 cW_0 rfl dX10_feed_52 ?_
  refine lv_iload hx hb dX10_feed_55 (lv_at hl 5 rfl) ?_
  refine cVv (w := cW cy a) (As := [.int x5]) (rest := []) C hO (T_X7_put_16 l D cy a _ (by exact hI_1_1_u11) (x5)) (cwV 1 ht (gV wd_512 wd_513 wd_514 wd_111 wd_515) rfl rfl rfl hd_yX7_put ⟨Nat.le_of_ble_eq_true rfl, Nat.le_of_ble_eq_true rfl⟩) 1 rfl cW_1 rfl rfl hl.1 (Nat.le_of_ble_eq_true rfl) dX10_feed_57 rfl ⟨Nat.zero_le _, Nat.zero_le _⟩ (fun u14 H locs hp15 hO => ?_)
  have hI_1_1_u14 := hp15
  refine lv_aload_n hx hb dX10_feed_60 rfl (lv_at hl 0 rfl) ?_
  refine gf_RX10_12 (v := .ref (a 1)) C hO 0 cW_0 rfl dX10_feed_61 ?_
  refine gf_RX10_89 (v := .int 20) C hO 1 cW_1 (congrArg (fun z : Int32 => some (Value.int z)) hI_1_1_u14) dX10_feed_64 ?_
  refine hret _ _ _ _ _ _ dX10_feed_67 rfl ?_ hO
  exact rfl
theorem dX10_end_0 : decode cX10_end 0 = .ok (.iload_n 1, 1) := by decide +kernel
theorem dX10_end_1 : decode cX10_end 1 = .ok (.ifCond .lt 14, 3) := by decide +kernel
theorem dX10_end_4 : decode cX10_end 4 = .ok (.iload_n 1, 1) := by decide +kernel
theorem dX10_end_5 : decode cX10_end 5 = .ok (.aload_n 0, 1) := by decide +kernel
theorem dX10_end_6 : decode cX10_end 6 = .ok (.getfield 12, 3) := by decide +kernel
theorem dX10_end_9 : decode cX10_end 9 = .ok (.getfield 89, 3) := by decide +kernel
theorem dX10_end_12 : decode cX10_end 12 = .ok (.if_icmp .le 5, 3) := by decide +kernel
theorem dX10_end_15 : decode cX10_end 15 = .ok (.iconst (-1), 1) := by decide +kernel
theorem dX10_end_16 : decode cX10_end 16 = .ok (.ireturn, 1) := by decide +kernel
theorem dX10_end_17 : decode cX10_end 17 = .ok (.aload_n 0, 1) := by decide +kernel
theorem dX10_end_18 : decode cX10_end 18 = .ok (.getfield 12, 3) := by decide +kernel
theorem dX10_end_21 : decode cX10_end 21 = .ok (.iload_n 1, 1) := by decide +kernel
theorem dX10_end_22 : decode cX10_end 22 = .ok (.putfield 89, 3) := by decide +kernel
theorem dX10_end_25 : decode cX10_end 25 = .ok (.iload_n 1, 1) := by decide +kernel
theorem dX10_end_26 : decode cX10_end 26 = .ok (.ireturn, 1) := by decide +kernel
theorem wd_519 : (Cond.code ⟨"WebCourt", "end", "(I)I"⟩ prog_1_method_3_code (2 : Nat) (Option.some FieldType.int)) ∈ gtb := gtb_c2 170 (by decide +kernel) rfl
theorem pf_RX10_89 {p : Program} {l : Launch} {e : Env} {R : Room} {s : State} {m : MethodId} {args : Array Value} {below : List Frame} {meth : Method} {c : Code} {H : Heap} {locs : List Loc} {cells slots : Nat} {Q : State → Prop} {cc : ByteArray} {pc nL : Nat} {ls : Array Slot} {rest : List Value} {D : va_G} {cy : Nat → ClassId} {A : Nat → Prop} {ws : va_W} {b : Nat} {fs : List Value} {v : Int32} {ws' : va_W} (C : Cx p s m args c cc nL RX10 D cy A) (hO : Wo D A ws s.heap H locs) (q0 : Nat) (he : ws[q0]? = some (b, .inr (7, fs))) (hlen : 1 < fs.length) (hw : ws.set q0 (b, .inr (7, fs.set 1 (.int v))) = ws') (hdg : decode cc pc = .ok (.putfield 89, 3)) (kk : ∀ (H : Heap) (locs : List Loc), Wo D A ws' s.heap H locs → W p l e R s m args below meth c H locs cells slots Q (F0 m (pc + 3) ls rest)) : W p l e R s m args below meth c H locs cells slots Q (F0 m pc ls (.int v :: .ref b :: rest)) := pF (k := 1) (ty := .int) C hO q0 he rfl inFX7 (by decide) wd_144 rfl tyX7 tyX7_ok nmX7 rfl (by decide +kernel) rfl rfl hlen hw hdg kk
set_option maxHeartbeats 4000000 in
set_option maxRecDepth 100000 in
theorem T_X10_end (l : Launch) (D : va_G) (cy : Nat → ClassId) (a : Nat → Nat) (u : St) (hI_1_1 : fI u 1 1 = 0) (x1 : Int32)  : Mi l D cy (cW cy a) yX10_end (.code yX10_end cX10_end 2 (some .int)) (rmo 0 0) [.ref (a 0), .int x1] u (fun (r : Int32) (u' : St) => r = q_end x1) := by
  refine Mi.of (own := RX10) rfl (by decide) (Nat.le_of_ble_eq_true rfl) ?_
  intro p e s m below meth c A Q ls C hret hO hl
  obtain ⟨hx, hb, hml, hown, ht, hK, hA⟩ := id C
  have hl : lv_has ls 2 [(0, .ref (a 0)), (1, .int x1)] := hl
  refine lv_iload_n hx hb dX10_end_0 rfl (lv_at hl 1 rfl) ?_
  refine bs_lt (tgt := 15) (X := (x1).toInt) hx hb dX10_end_1 (by decide) rfl (fun c1 => ?_) (fun c1 => ?_)
  · refine lv_iconst (v := (-1)) hx hb dX10_end_15 (by decide) ?_
    refine hret _ _ _ _ _ _ dX10_end_16 rfl ?_ hO
    exact (by unfold q_end; have z0 : (0 : Int32).toInt = 0 := rfl; have z1 : (-1 : Int32).toInt = -1 := rfl; split <;> first | rfl | (exact i32_eq.mpr (by omega)) | (exfalso; omega))
  · refine lv_iload_n hx hb dX10_end_4 rfl (lv_at hl 1 rfl) ?_
    refine lv_aload_n hx hb dX10_end_5 rfl (lv_at hl 0 rfl) ?_
    refine gf_RX10_12 (v := .ref (a 1)) C hO 0 cW_0 rfl dX10_end_6 ?_
    refine gf_RX10_89 (v := .int 0) C hO 1 cW_1 (congrArg (fun z : Int32 => some (Value.int z)) hI_1_1) dX10_end_9 ?_
    refine cs_le (tgt := 17) (X := (x1).toInt) (Y := 0) hx hb dX10_end_12 (by decide) rfl rfl (fun c2 => ?_) (fun c2 => ?_)
    · refine lv_aload_n hx hb dX10_end_17 rfl (lv_at hl 0 rfl) ?_
      refine gf_RX10_12 (v := .ref (a 1)) C hO 0 cW_0 rfl dX10_end_18 ?_
      refine lv_iload_n hx hb dX10_end_21 rfl (lv_at hl 1 rfl) ?_
      refine pf_RX10_89 C hO 1 cW_1 (Nat.le_of_ble_eq_true rfl) cW_s1_1 dX10_end_22 (fun H locs hO => ?_)
      refine lv_iload_n hx hb dX10_end_25 rfl (lv_at hl 1 rfl) ?_
      refine hret _ _ _ _ _ _ dX10_end_26 rfl ?_ hO
      exact (by unfold q_end; have z0 : (0 : Int32).toInt = 0 := rfl; have z1 : (-1 : Int32).toInt = -1 := rfl; split <;> first | rfl | (exact i32_eq.mpr (by omega)) | (exfalso; omega))
    · refine lv_iconst (v := (-1)) hx hb dX10_end_15 (by decide) ?_
      refine hret _ _ _ _ _ _ dX10_end_16 rfl ?_ hO
      exact (by unfold q_end; have z0 : (0 : Int32).toInt = 0 := rfl; have z1 : (-1 : Int32).toInt = -1 := rfl; split <;> first | rfl | (exact i32_eq.mpr (by omega)) | (exfalso; omega))
theorem dX10_fault_0 : decode cX10_fault 0 = .ok (.iload_n 1, 1) := by decide +kernel
theorem dX10_fault_1 : decode cX10_fault 1 = .ok (.ifCond .ne 11, 3) := by decide +kernel
theorem dX10_fault_4 : decode cX10_fault 4 = .ok (.aload_n 0, 1) := by decide +kernel
theorem dX10_fault_5 : decode cX10_fault 5 = .ok (.getfield 28, 3) := by decide +kernel
theorem dX10_fault_8 : decode cX10_fault 8 = .ok (.getfield 120, 3) := by decide +kernel
theorem dX10_fault_11 : decode cX10_fault 11 = .ok (.ireturn, 1) := by decide +kernel
theorem dX10_fault_12 : decode cX10_fault 12 = .ok (.iload_n 1, 1) := by decide +kernel
theorem dX10_fault_13 : decode cX10_fault 13 = .ok (.iconst 1, 1) := by decide +kernel
theorem dX10_fault_14 : decode cX10_fault 14 = .ok (.if_icmp .ne 13, 3) := by decide +kernel
theorem dX10_fault_17 : decode cX10_fault 17 = .ok (.aload_n 0, 1) := by decide +kernel
theorem dX10_fault_18 : decode cX10_fault 18 = .ok (.getfield 28, 3) := by decide +kernel
theorem dX10_fault_21 : decode cX10_fault 21 = .ok (.getfield 123, 3) := by decide +kernel
theorem dX10_fault_24 : decode cX10_fault 24 = .ok (.goto 4, 3) := by decide +kernel
theorem dX10_fault_27 : decode cX10_fault 27 = .ok (.iconst (-1), 1) := by decide +kernel
theorem dX10_fault_28 : decode cX10_fault 28 = .ok (.ireturn, 1) := by decide +kernel
theorem wd_812 : (Cond.code ⟨"WebCourt", "fault", "(I)I"⟩ prog_1_method_5_code (2 : Nat) (Option.some FieldType.int)) ∈ gtb := gtb_c3 223 (by decide +kernel) rfl
theorem wd_469 : (Cond.fieldLink "WebCourt" (28 : Nat) "WebCourt" "reader" "LWebCourt$Reader;") ∈ gtb := gtb_c2 120 (by decide +kernel) rfl
theorem gf_RX10_28 {p : Program} {l : Launch} {e : Env} {R : Room} {s : State} {m : MethodId} {args : Array Value} {below : List Frame} {meth : Method} {c : Code} {H : Heap} {locs : List Loc} {cells slots : Nat} {Q : State → Prop} {cc : ByteArray} {pc nL : Nat} {ls : Array Slot} {rest : List Value} {D : va_G} {cy : Nat → ClassId} {A : Nat → Prop} {ws : va_W} {b : Nat} {fs : List Value} {v : Value} (C : Cx p s m args c cc nL RX10 D cy A) (hO : Wo D A ws s.heap H locs) (q0 : Nat) (he : ws[q0]? = some (b, .inr (10, fs))) (hv : fs[1]? = some v) (hdg : decode cc pc = .ok (.getfield 28, 3)) (kk : W p l e R s m args below meth c H locs cells slots Q (F0 m (pc + 3) ls (v :: rest))) : W p l e R s m args below meth c H locs cells slots Q (F0 m pc ls (.ref b :: rest)) := gF (k := 1) C hO q0 he rfl inFX10 (by decide) wd_469 rfl hv hdg kk
theorem wd_337 : (Cond.fieldLink "WebCourt" (123 : Nat) "WebCourt$Reader" "place" "I") ∈ gtb := gtb_c1 228 (by decide +kernel) rfl
theorem wd_338 : (Cond.laysFinal "WebCourt$Reader" "WebCourt$Reader" "tape" "LWebCourt$Tape;") ∈ gtb := gtb_c1 229 (by decide +kernel) rfl
theorem wd_340 : (Cond.lays "WebCourt$Reader" "WebCourt$Reader" "web" "LWebCourt$Web;") ∈ gtb := gtb_c1 231 (by decide +kernel) rfl
theorem wd_342 : (Cond.lays "WebCourt$Reader" "WebCourt$Reader" "fault" "I") ∈ gtb := gtb_c1 233 (by decide +kernel) rfl
theorem wd_344 : (Cond.lays "WebCourt$Reader" "WebCourt$Reader" "place" "I") ∈ gtb := gtb_c1 235 (by decide +kernel) rfl
theorem inFX5 : ∀ w ∈ u_ws RX5 TX5 4, w ∈ gtb := by
  show ∀ w ∈ [u_lay RX5 TX5 0, u_lay RX5 TX5 1, u_lay RX5 TX5 2, u_lay RX5 TX5 3], w ∈ gtb
  exact List.forall_mem_cons.mpr ⟨wd_338, List.forall_mem_cons.mpr ⟨wd_340, List.forall_mem_cons.mpr ⟨wd_342, List.forall_mem_cons.mpr ⟨wd_344, fun _ h => absurd h List.not_mem_nil⟩⟩⟩⟩
theorem gf_RX10_123 {p : Program} {l : Launch} {e : Env} {R : Room} {s : State} {m : MethodId} {args : Array Value} {below : List Frame} {meth : Method} {c : Code} {H : Heap} {locs : List Loc} {cells slots : Nat} {Q : State → Prop} {cc : ByteArray} {pc nL : Nat} {ls : Array Slot} {rest : List Value} {D : va_G} {cy : Nat → ClassId} {A : Nat → Prop} {ws : va_W} {b : Nat} {fs : List Value} {v : Value} (C : Cx p s m args c cc nL RX10 D cy A) (hO : Wo D A ws s.heap H locs) (q0 : Nat) (he : ws[q0]? = some (b, .inr (5, fs))) (hv : fs[3]? = some v) (hdg : decode cc pc = .ok (.getfield 123, 3)) (kk : W p l e R s m args below meth c H locs cells slots Q (F0 m (pc + 3) ls (v :: rest))) : W p l e R s m args below meth c H locs cells slots Q (F0 m pc ls (.ref b :: rest)) := gF (k := 3) C hO q0 he rfl inFX5 (by decide) wd_337 rfl hv hdg kk
theorem wd_335 : (Cond.fieldLink "WebCourt" (120 : Nat) "WebCourt$Reader" "fault" "I") ∈ gtb := gtb_c1 226 (by decide +kernel) rfl
theorem gf_RX10_120 {p : Program} {l : Launch} {e : Env} {R : Room} {s : State} {m : MethodId} {args : Array Value} {below : List Frame} {meth : Method} {c : Code} {H : Heap} {locs : List Loc} {cells slots : Nat} {Q : State → Prop} {cc : ByteArray} {pc nL : Nat} {ls : Array Slot} {rest : List Value} {D : va_G} {cy : Nat → ClassId} {A : Nat → Prop} {ws : va_W} {b : Nat} {fs : List Value} {v : Value} (C : Cx p s m args c cc nL RX10 D cy A) (hO : Wo D A ws s.heap H locs) (q0 : Nat) (he : ws[q0]? = some (b, .inr (5, fs))) (hv : fs[2]? = some v) (hdg : decode cc pc = .ok (.getfield 120, 3)) (kk : W p l e R s m args below meth c H locs cells slots Q (F0 m (pc + 3) ls (v :: rest))) : W p l e R s m args below meth c H locs cells slots Q (F0 m pc ls (.ref b :: rest)) := gF (k := 2) C hO q0 he rfl inFX5 (by decide) wd_335 rfl hv hdg kk
set_option maxHeartbeats 4000000 in
set_option maxRecDepth 100000 in
theorem T_X10_fault (l : Launch) (D : va_G) (cy : Nat → ClassId) (a : Nat → Nat) (u : St) (hI_27_2 : fI u 27 2 = 0) (hI_27_3 : fI u 27 3 = (-1)) (x1 : Int32)  : Mi l D cy (cW cy a) yX10_fault (.code yX10_fault cX10_fault 2 (some .int)) (rmo 0 0) [.ref (a 0), .int x1] u (fun (r : Int32) (u' : St) => r = q_end x1 ∧ u' = u) := by
  refine Mi.of (own := RX10) rfl (by decide) (Nat.le_of_ble_eq_true rfl) ?_
  intro p e s m below meth c A Q ls C hret hO hl
  obtain ⟨hx, hb, hml, hown, ht, hK, hA⟩ := id C
  have hl : lv_has ls 2 [(0, .ref (a 0)), (1, .int x1)] := hl
  refine lv_iload_n hx hb dX10_fault_0 rfl (lv_at hl 1 rfl) ?_
  refine bs_ne (tgt := 12) (X := (x1).toInt) hx hb dX10_fault_1 (by decide) rfl (fun c1 => ?_) (fun c1 => ?_)
  · refine lv_iload_n hx hb dX10_fault_12 rfl (lv_at hl 1 rfl) ?_
    refine lv_iconst (v := 1) hx hb dX10_fault_13 (by decide) ?_
    refine cs_ne (tgt := 27) (X := (x1).toInt) (Y := 1) hx hb dX10_fault_14 (by decide) rfl rfl (fun c2 => ?_) (fun c2 => ?_)
    · refine lv_iconst (v := (-1)) hx hb dX10_fault_27 (by decide) ?_
      refine hret _ _ _ _ _ _ dX10_fault_28 rfl ?_ hO
      exact ⟨(by unfold q_end; have z0 : (0 : Int32).toInt = 0 := rfl; have z1 : (-1 : Int32).toInt = -1 := rfl; split <;> first | rfl | (exact i32_eq.mpr (by omega)) | (exfalso; omega)), rfl⟩
    · refine lv_aload_n hx hb dX10_fault_17 rfl (lv_at hl 0 rfl) ?_
      refine gf_RX10_28 (v := .ref (a 27)) C hO 0 cW_0 rfl dX10_fault_18 ?_
      refine gf_RX10_123 (v := .int (-1)) C hO 27 cW_27 (congrArg (fun z : Int32 => some (Value.int z)) hI_27_3) dX10_fault_21 ?_
      refine lv_goto (tgt := 28) hx hb dX10_fault_24 (by decide) ?_
      refine hret _ _ _ _ _ _ dX10_fault_28 rfl ?_ hO
      exact ⟨(by unfold q_end; have z0 : (0 : Int32).toInt = 0 := rfl; have z1 : (-1 : Int32).toInt = -1 := rfl; split <;> first | rfl | (exact i32_eq.mpr (by omega)) | (exfalso; omega)), rfl⟩
  · refine lv_aload_n hx hb dX10_fault_4 rfl (lv_at hl 0 rfl) ?_
    refine gf_RX10_28 (v := .ref (a 27)) C hO 0 cW_0 rfl dX10_fault_5 ?_
    refine gf_RX10_120 (v := .int 0) C hO 27 cW_27 (congrArg (fun z : Int32 => some (Value.int z)) hI_27_2) dX10_fault_8 ?_
    refine hret _ _ _ _ _ _ dX10_fault_11 rfl ?_ hO
    exact ⟨(by unfold q_end; have z0 : (0 : Int32).toInt = 0 := rfl; have z1 : (-1 : Int32).toInt = -1 := rfl; split <;> first | rfl | (exact i32_eq.mpr (by omega)) | (exfalso; omega)), rfl⟩
theorem dX7_advance_0 : decode cX7_advance 0 = .ok (.aload_n 0, 1) := by decide +kernel
theorem dX7_advance_1 : decode cX7_advance 1 = .ok (.getfield 19, 3) := by decide +kernel
theorem dX7_advance_4 : decode cX7_advance 4 = .ok (.aload_n 0, 1) := by decide +kernel
theorem dX7_advance_5 : decode cX7_advance 5 = .ok (.getfield 15, 3) := by decide +kernel
theorem dX7_advance_8 : decode cX7_advance 8 = .ok (.if_icmp .ge 31, 3) := by decide +kernel
theorem dX7_advance_11 : decode cX7_advance 11 = .ok (.aload_n 0, 1) := by decide +kernel
theorem dX7_advance_12 : decode cX7_advance 12 = .ok (.getfield 9, 3) := by decide +kernel
theorem dX7_advance_15 : decode cX7_advance 15 = .ok (.aload_n 0, 1) := by decide +kernel
theorem dX7_advance_16 : decode cX7_advance 16 = .ok (.getfield 19, 3) := by decide +kernel
theorem dX7_advance_19 : decode cX7_advance 19 = .ok (.baload, 1) := by decide +kernel
theorem dX7_advance_20 : decode cX7_advance 20 = .ok (.invokestatic 25, 3) := by decide +kernel
theorem dX7_advance_23 : decode cX7_advance 23 = .ok (.ifCond .eq 16, 3) := by decide +kernel
theorem dX7_advance_26 : decode cX7_advance 26 = .ok (.aload_n 0, 1) := by decide +kernel
theorem dX7_advance_27 : decode cX7_advance 27 = .ok (.dup, 1) := by decide +kernel
theorem dX7_advance_28 : decode cX7_advance 28 = .ok (.getfield 19, 3) := by decide +kernel
theorem dX7_advance_31 : decode cX7_advance 31 = .ok (.iconst 1, 1) := by decide +kernel
theorem dX7_advance_32 : decode cX7_advance 32 = .ok (.iadd, 1) := by decide +kernel
theorem dX7_advance_33 : decode cX7_advance 33 = .ok (.putfield 19, 3) := by decide +kernel
theorem dX7_advance_36 : decode cX7_advance 36 = .ok (.goto (-36), 3) := by decide +kernel
theorem dX7_advance_39 : decode cX7_advance 39 = .ok (.aload_n 0, 1) := by decide +kernel
theorem dX7_advance_40 : decode cX7_advance 40 = .ok (.aload_n 0, 1) := by decide +kernel
theorem dX7_advance_41 : decode cX7_advance 41 = .ok (.getfield 19, 3) := by decide +kernel
theorem dX7_advance_44 : decode cX7_advance 44 = .ok (.putfield 29, 3) := by decide +kernel
theorem dX7_advance_47 : decode cX7_advance 47 = .ok (.aload_n 0, 1) := by decide +kernel
theorem dX7_advance_48 : decode cX7_advance 48 = .ok (.getfield 19, 3) := by decide +kernel
theorem dX7_advance_51 : decode cX7_advance 51 = .ok (.aload_n 0, 1) := by decide +kernel
theorem dX7_advance_52 : decode cX7_advance 52 = .ok (.getfield 15, 3) := by decide +kernel
theorem dX7_advance_55 : decode cX7_advance 55 = .ok (.if_icmp .lt 13, 3) := by decide +kernel
theorem dX7_advance_58 : decode cX7_advance 58 = .ok (.aload_n 0, 1) := by decide +kernel
theorem dX7_advance_59 : decode cX7_advance 59 = .ok (.sipush 202, 3) := by decide +kernel
theorem dX7_advance_62 : decode cX7_advance 62 = .ok (.putfield 32, 3) := by decide +kernel
theorem dX7_advance_65 : decode cX7_advance 65 = .ok (.goto 119, 3) := by decide +kernel
theorem dX7_advance_68 : decode cX7_advance 68 = .ok (.aload_n 0, 1) := by decide +kernel
theorem dX7_advance_69 : decode cX7_advance 69 = .ok (.getfield 9, 3) := by decide +kernel
theorem dX7_advance_72 : decode cX7_advance 72 = .ok (.aload_n 0, 1) := by decide +kernel
theorem dX7_advance_73 : decode cX7_advance 73 = .ok (.getfield 19, 3) := by decide +kernel
theorem dX7_advance_76 : decode cX7_advance 76 = .ok (.baload, 1) := by decide +kernel
theorem dX7_advance_77 : decode cX7_advance 77 = .ok (.invokestatic 35, 3) := by decide +kernel
theorem dX7_advance_80 : decode cX7_advance 80 = .ok (.ifCond .eq 38, 3) := by decide +kernel
theorem dX7_advance_83 : decode cX7_advance 83 = .ok (.aload_n 0, 1) := by decide +kernel
theorem dX7_advance_84 : decode cX7_advance 84 = .ok (.invokevirtual 38, 3) := by decide +kernel
theorem dX7_advance_87 : decode cX7_advance 87 = .ok (.aload_n 0, 1) := by decide +kernel
theorem dX7_advance_88 : decode cX7_advance 88 = .ok (.aload_n 0, 1) := by decide +kernel
theorem dX7_advance_89 : decode cX7_advance 89 = .ok (.getfield 19, 3) := by decide +kernel
theorem dX7_advance_92 : decode cX7_advance 92 = .ok (.aload_n 0, 1) := by decide +kernel
theorem dX7_advance_93 : decode cX7_advance 93 = .ok (.getfield 29, 3) := by decide +kernel
theorem dX7_advance_96 : decode cX7_advance 96 = .ok (.isub, 1) := by decide +kernel
theorem dX7_advance_97 : decode cX7_advance 97 = .ok (.bipush 8, 2) := by decide +kernel
theorem dX7_advance_99 : decode cX7_advance 99 = .ok (.if_icmp .le 9, 3) := by decide +kernel
theorem dX7_advance_102 : decode cX7_advance 102 = .ok (.sipush 203, 3) := by decide +kernel
theorem dX7_advance_105 : decode cX7_advance 105 = .ok (.goto 7, 3) := by decide +kernel
theorem dX7_advance_108 : decode cX7_advance 108 = .ok (.aload_n 0, 1) := by decide +kernel
theorem dX7_advance_109 : decode cX7_advance 109 = .ok (.invokevirtual 41, 3) := by decide +kernel
theorem dX7_advance_112 : decode cX7_advance 112 = .ok (.putfield 32, 3) := by decide +kernel
theorem dX7_advance_115 : decode cX7_advance 115 = .ok (.goto 69, 3) := by decide +kernel
theorem dX7_advance_118 : decode cX7_advance 118 = .ok (.aload_n 0, 1) := by decide +kernel
theorem dX7_advance_119 : decode cX7_advance 119 = .ok (.getfield 9, 3) := by decide +kernel
theorem dX7_advance_122 : decode cX7_advance 122 = .ok (.aload_n 0, 1) := by decide +kernel
theorem dX7_advance_123 : decode cX7_advance 123 = .ok (.getfield 19, 3) := by decide +kernel
theorem dX7_advance_126 : decode cX7_advance 126 = .ok (.baload, 1) := by decide +kernel
theorem dX7_advance_127 : decode cX7_advance 127 = .ok (.invokestatic 45, 3) := by decide +kernel
theorem dX7_advance_130 : decode cX7_advance 130 = .ok (.ifCond .eq 10, 3) := by decide +kernel
theorem dX7_advance_133 : decode cX7_advance 133 = .ok (.aload_n 0, 1) := by decide +kernel
theorem dX7_advance_134 : decode cX7_advance 134 = .ok (.invokevirtual 48, 3) := by decide +kernel
theorem dX7_advance_137 : decode cX7_advance 137 = .ok (.goto 47, 3) := by decide +kernel
theorem dX7_advance_140 : decode cX7_advance 140 = .ok (.aload_n 0, 1) := by decide +kernel
theorem dX7_advance_141 : decode cX7_advance 141 = .ok (.aload_n 0, 1) := by decide +kernel
theorem dX7_advance_142 : decode cX7_advance 142 = .ok (.getfield 9, 3) := by decide +kernel
theorem dX7_advance_145 : decode cX7_advance 145 = .ok (.aload_n 0, 1) := by decide +kernel
theorem dX7_advance_146 : decode cX7_advance 146 = .ok (.getfield 19, 3) := by decide +kernel
theorem dX7_advance_149 : decode cX7_advance 149 = .ok (.baload, 1) := by decide +kernel
theorem dX7_advance_150 : decode cX7_advance 150 = .ok (.invokestatic 51, 3) := by decide +kernel
theorem dX7_advance_153 : decode cX7_advance 153 = .ok (.ifCond .eq 15, 3) := by decide +kernel
theorem dX7_advance_156 : decode cX7_advance 156 = .ok (.aload_n 0, 1) := by decide +kernel
theorem dX7_advance_157 : decode cX7_advance 157 = .ok (.getfield 9, 3) := by decide +kernel
theorem dX7_advance_160 : decode cX7_advance 160 = .ok (.aload_n 0, 1) := by decide +kernel
theorem dX7_advance_161 : decode cX7_advance 161 = .ok (.getfield 19, 3) := by decide +kernel
theorem dX7_advance_164 : decode cX7_advance 164 = .ok (.baload, 1) := by decide +kernel
theorem dX7_advance_165 : decode cX7_advance 165 = .ok (.goto 6, 3) := by decide +kernel
theorem dX7_advance_168 : decode cX7_advance 168 = .ok (.sipush 203, 3) := by decide +kernel
theorem dX7_advance_171 : decode cX7_advance 171 = .ok (.putfield 32, 3) := by decide +kernel
theorem dX7_advance_174 : decode cX7_advance 174 = .ok (.aload_n 0, 1) := by decide +kernel
theorem dX7_advance_175 : decode cX7_advance 175 = .ok (.dup, 1) := by decide +kernel
theorem dX7_advance_176 : decode cX7_advance 176 = .ok (.getfield 19, 3) := by decide +kernel
theorem dX7_advance_179 : decode cX7_advance 179 = .ok (.iconst 1, 1) := by decide +kernel
theorem dX7_advance_180 : decode cX7_advance 180 = .ok (.iadd, 1) := by decide +kernel
theorem dX7_advance_181 : decode cX7_advance 181 = .ok (.putfield 19, 3) := by decide +kernel
theorem dX7_advance_184 : decode cX7_advance 184 = .ok (.return_, 1) := by decide +kernel
theorem wd_543 : (Cond.code ⟨"WebCourt$Tape", "advance", "()V"⟩ prog_9_method_4_code (1 : Nat) (Option.none : Option FieldType)) ∈ gtb := gtb_c2 194 (by decide +kernel) rfl
theorem wd_146 : (Cond.fieldLink "WebCourt$Tape" (19 : Nat) "WebCourt$Tape" "next" "I") ∈ gtb := gtb_c1 37 (by decide +kernel) rfl
theorem gf_RX7_19 {p : Program} {l : Launch} {e : Env} {R : Room} {s : State} {m : MethodId} {args : Array Value} {below : List Frame} {meth : Method} {c : Code} {H : Heap} {locs : List Loc} {cells slots : Nat} {Q : State → Prop} {cc : ByteArray} {pc nL : Nat} {ls : Array Slot} {rest : List Value} {D : va_G} {cy : Nat → ClassId} {A : Nat → Prop} {ws : va_W} {b : Nat} {fs : List Value} {v : Value} (C : Cx p s m args c cc nL RX7 D cy A) (hO : Wo D A ws s.heap H locs) (q0 : Nat) (he : ws[q0]? = some (b, .inr (7, fs))) (hv : fs[2]? = some v) (hdg : decode cc pc = .ok (.getfield 19, 3)) (kk : W p l e R s m args below meth c H locs cells slots Q (F0 m (pc + 3) ls (v :: rest))) : W p l e R s m args below meth c H locs cells slots Q (F0 m pc ls (.ref b :: rest)) := gF (k := 2) C hO q0 he rfl inFX7 (by decide) wd_146 rfl hv hdg kk
theorem wd_148 : (Cond.fieldLink "WebCourt$Tape" (29 : Nat) "WebCourt$Tape" "start" "I") ∈ gtb := gtb_c1 39 (by decide +kernel) rfl
theorem pf_RX7_29 {p : Program} {l : Launch} {e : Env} {R : Room} {s : State} {m : MethodId} {args : Array Value} {below : List Frame} {meth : Method} {c : Code} {H : Heap} {locs : List Loc} {cells slots : Nat} {Q : State → Prop} {cc : ByteArray} {pc nL : Nat} {ls : Array Slot} {rest : List Value} {D : va_G} {cy : Nat → ClassId} {A : Nat → Prop} {ws : va_W} {b : Nat} {fs : List Value} {v : Int32} {ws' : va_W} (C : Cx p s m args c cc nL RX7 D cy A) (hO : Wo D A ws s.heap H locs) (q0 : Nat) (he : ws[q0]? = some (b, .inr (7, fs))) (hlen : 3 < fs.length) (hw : ws.set q0 (b, .inr (7, fs.set 3 (.int v))) = ws') (hdg : decode cc pc = .ok (.putfield 29, 3)) (kk : ∀ (H : Heap) (locs : List Loc), Wo D A ws' s.heap H locs → W p l e R s m args below meth c H locs cells slots Q (F0 m (pc + 3) ls rest)) : W p l e R s m args below meth c H locs cells slots Q (F0 m pc ls (.int v :: .ref b :: rest)) := pF (k := 3) (ty := .int) C hO q0 he rfl inFX7 (by decide) wd_148 rfl tyX7 tyX7_ok nmX7 rfl (by decide +kernel) rfl rfl hlen hw hdg kk
theorem wd_150 : (Cond.fieldLink "WebCourt$Tape" (32 : Nat) "WebCourt$Tape" "kind" "I") ∈ gtb := gtb_c1 41 (by decide +kernel) rfl
theorem pf_RX7_32 {p : Program} {l : Launch} {e : Env} {R : Room} {s : State} {m : MethodId} {args : Array Value} {below : List Frame} {meth : Method} {c : Code} {H : Heap} {locs : List Loc} {cells slots : Nat} {Q : State → Prop} {cc : ByteArray} {pc nL : Nat} {ls : Array Slot} {rest : List Value} {D : va_G} {cy : Nat → ClassId} {A : Nat → Prop} {ws : va_W} {b : Nat} {fs : List Value} {v : Int32} {ws' : va_W} (C : Cx p s m args c cc nL RX7 D cy A) (hO : Wo D A ws s.heap H locs) (q0 : Nat) (he : ws[q0]? = some (b, .inr (7, fs))) (hlen : 4 < fs.length) (hw : ws.set q0 (b, .inr (7, fs.set 4 (.int v))) = ws') (hdg : decode cc pc = .ok (.putfield 32, 3)) (kk : ∀ (H : Heap) (locs : List Loc), Wo D A ws' s.heap H locs → W p l e R s m args below meth c H locs cells slots Q (F0 m (pc + 3) ls rest)) : W p l e R s m args below meth c H locs cells slots Q (F0 m pc ls (.int v :: .ref b :: rest)) := pF (k := 4) (ty := .int) C hO q0 he rfl inFX7 (by decide) wd_150 rfl tyX7 tyX7_ok nmX7 rfl (by decide +kernel) rfl rfl hlen hw hdg kk
set_option maxHeartbeats 4000000 in
set_option maxRecDepth 100000 in
theorem T_X7_advance (l : Launch) (D : va_G) (cy : Nat → ClassId) (a : Nat → Nat) (u : St) (hI_1_1 : fI u 1 1 = 0) (hI_1_2 : fI u 1 2 = 0)   : Mv l D cy (cW cy a) yX7_advance (.code yX7_advance cX7_advance 1 none) (rmo 0 0) [.ref (a 1)] u (fun (u' : St) => u' = (sI (sI u 1 3 0) 1 4 202)) := by
  refine Mv.of (own := RX7) rfl (by decide) (Nat.le_of_ble_eq_true rfl) ?_
  intro p e s m below meth c A Q ls C hret hO hl
  obtain ⟨hx, hb, hml, hown, ht, hK, hA⟩ := id C
  have hl : lv_has ls 1 [(0, .ref (a 1))] := hl
  refine lv_aload_n hx hb dX7_advance_0 rfl (lv_at hl 0 rfl) ?_
  refine gf_RX7_19 (v := .int 0) C hO 1 cW_1 (congrArg (fun z : Int32 => some (Value.int z)) hI_1_2) dX7_advance_1 ?_
  refine lv_aload_n hx hb dX7_advance_4 rfl (lv_at hl 0 rfl) ?_
  refine gf_RX7_15 (v := .int 0) C hO 1 cW_1 (congrArg (fun z : Int32 => some (Value.int z)) hI_1_1) dX7_advance_5 ?_
  refine ct_ge (tgt := 39) (X := 0) (Y := 0) hx hb dX7_advance_8 (by decide) rfl rfl (by omega) ?_
  refine lv_aload_n hx hb dX7_advance_39 rfl (lv_at hl 0 rfl) ?_
  refine lv_aload_n hx hb dX7_advance_40 rfl (lv_at hl 0 rfl) ?_
  refine gf_RX7_19 (v := .int 0) C hO 1 cW_1 (congrArg (fun z : Int32 => some (Value.int z)) hI_1_2) dX7_advance_41 ?_
  refine pf_RX7_29 C hO 1 cW_1 (Nat.le_of_ble_eq_true rfl) cW_s1_3 dX7_advance_44 (fun H locs hO => ?_)
  refine lv_aload_n hx hb dX7_advance_47 rfl (lv_at hl 0 rfl) ?_
  refine gf_RX7_19 (v := .int 0) C hO 1 cW_1 (congrArg (fun z : Int32 => some (Value.int z)) hI_1_2) dX7_advance_48 ?_
  refine lv_aload_n hx hb dX7_advance_51 rfl (lv_at hl 0 rfl) ?_
  refine gf_RX7_15 (v := .int 0) C hO 1 cW_1 (congrArg (fun z : Int32 => some (Value.int z)) hI_1_1) dX7_advance_52 ?_
  refine cn_lt (X := 0) (Y := 0) hx hb dX7_advance_55 rfl rfl (by omega) ?_ (tgt := 68) (by decide)
  refine lv_aload_n hx hb dX7_advance_58 rfl (lv_at hl 0 rfl) ?_
  refine lv_sipush (v := 202) hx hb dX7_advance_59 (by decide) ?_
  refine pf_RX7_32 C hO 1 cW_1 (Nat.le_of_ble_eq_true rfl) cW_s1_4 dX7_advance_62 (fun H locs hO => ?_)
  refine lv_goto (tgt := 184) hx hb dX7_advance_65 (by decide) ?_
  refine hret _ _ _ _ _ dX7_advance_184 ?_ hO
  exact rfl
theorem dX7_rewind_0 : decode cX7_rewind 0 = .ok (.aload_n 0, 1) := by decide +kernel
theorem dX7_rewind_1 : decode cX7_rewind 1 = .ok (.iconst 0, 1) := by decide +kernel
theorem dX7_rewind_2 : decode cX7_rewind 2 = .ok (.putfield 19, 3) := by decide +kernel
theorem dX7_rewind_5 : decode cX7_rewind 5 = .ok (.aload_n 0, 1) := by decide +kernel
theorem dX7_rewind_6 : decode cX7_rewind 6 = .ok (.invokevirtual 22, 3) := by decide +kernel
theorem dX7_rewind_9 : decode cX7_rewind 9 = .ok (.return_, 1) := by decide +kernel
theorem wd_539 : (Cond.code ⟨"WebCourt$Tape", "rewind", "()V"⟩ prog_9_method_3_code (1 : Nat) (Option.none : Option FieldType)) ∈ gtb := gtb_c2 190 (by decide +kernel) rfl
theorem pf_RX7_19 {p : Program} {l : Launch} {e : Env} {R : Room} {s : State} {m : MethodId} {args : Array Value} {below : List Frame} {meth : Method} {c : Code} {H : Heap} {locs : List Loc} {cells slots : Nat} {Q : State → Prop} {cc : ByteArray} {pc nL : Nat} {ls : Array Slot} {rest : List Value} {D : va_G} {cy : Nat → ClassId} {A : Nat → Prop} {ws : va_W} {b : Nat} {fs : List Value} {v : Int32} {ws' : va_W} (C : Cx p s m args c cc nL RX7 D cy A) (hO : Wo D A ws s.heap H locs) (q0 : Nat) (he : ws[q0]? = some (b, .inr (7, fs))) (hlen : 2 < fs.length) (hw : ws.set q0 (b, .inr (7, fs.set 2 (.int v))) = ws') (hdg : decode cc pc = .ok (.putfield 19, 3)) (kk : ∀ (H : Heap) (locs : List Loc), Wo D A ws' s.heap H locs → W p l e R s m args below meth c H locs cells slots Q (F0 m (pc + 3) ls rest)) : W p l e R s m args below meth c H locs cells slots Q (F0 m pc ls (.int v :: .ref b :: rest)) := pF (k := 2) (ty := .int) C hO q0 he rfl inFX7 (by decide) wd_146 rfl tyX7 tyX7_ok nmX7 rfl (by decide +kernel) rfl rfl hlen hw hdg kk
theorem wd_540 : (Cond.methodLink "WebCourt$Tape" (22 : Nat) ⟨"WebCourt$Tape", "advance", "()V"⟩) ∈ gtb := gtb_c2 191 (by decide +kernel) rfl
theorem wd_541 : (Cond.instanceMethod ⟨"WebCourt$Tape", "advance", "()V"⟩) ∈ gtb := gtb_c2 192 (by decide +kernel) rfl
theorem wd_542 : (Cond.selects "WebCourt$Tape" ⟨"WebCourt$Tape", "advance", "()V"⟩ ⟨"WebCourt$Tape", "advance", "()V"⟩) ∈ gtb := gtb_c2 193 (by decide +kernel) rfl
theorem hd_yX7_advance : yX7_advance.cls = RX7 ∧ yX7_advance.cls ≠ "java/lang/invoke/MethodHandle" ∧ yX7_advance.cls ≠ "java/lang/invoke/VarHandle" ∧ (parseMethodDescriptor yX7_advance.desc).map (fun d => d.parameters.length) = some 0 := by decide +kernel
set_option maxHeartbeats 4000000 in
set_option maxRecDepth 100000 in
theorem T_X7_rewind (l : Launch) (D : va_G) (cy : Nat → ClassId) (a : Nat → Nat) (u : St) (hI_1_1 : fI u 1 1 = 0)   : Mv l D cy (cW cy a) yX7_rewind (.code yX7_rewind cX7_rewind 1 none) (rmo 1 20) [.ref (a 1)] u (fun (u' : St) => u' = (sI (sI (sI u 1 2 0) 1 3 0) 1 4 202)) := by
  refine Mv.of (own := RX7) rfl (by decide) (Nat.le_of_ble_eq_true rfl) ?_
  intro p e s m below meth c A Q ls C hret hO hl
  obtain ⟨hx, hb, hml, hown, ht, hK, hA⟩ := id C
  have hl : lv_has ls 1 [(0, .ref (a 1))] := hl
  refine lv_aload_n hx hb dX7_rewind_0 rfl (lv_at hl 0 rfl) ?_
  refine lv_iconst (v := 0) hx hb dX7_rewind_1 (by decide) ?_
  refine pf_RX7_19 C hO 1 cW_1 (Nat.le_of_ble_eq_true rfl) cW_s1_2 dX7_rewind_2 (fun H locs hO => ?_)
  refine lv_aload_n hx hb dX7_rewind_5 rfl (lv_at hl 0 rfl) ?_
  refine cVv (w := cW cy a) (As := []) (rest := []) C hO (T_X7_advance l D cy a _ (by exact hI_1_1) (by exact rfl)) (cwV 0 ht (gV wd_540 wd_541 wd_542 wd_111 wd_543) rfl rfl rfl hd_yX7_advance ⟨Nat.le_of_ble_eq_true rfl, Nat.le_of_ble_eq_true rfl⟩) 1 rfl cW_1 rfl rfl hl.1 (Nat.le_of_ble_eq_true rfl) dX7_rewind_6 rfl ⟨Nat.zero_le _, Nat.zero_le _⟩ (fun u2 H locs hp3 hO => ?_)
  have hu2 := hp3
  rw [hu2] at hO
  refine hret _ _ _ _ _ dX7_rewind_9 ?_ hO
  exact rfl
theorem dX4_clear_0 : decode cX4_clear 0 = .ok (.aload_n 0, 1) := by decide +kernel
theorem dX4_clear_1 : decode cX4_clear 1 = .ok (.iconst 0, 1) := by decide +kernel
theorem dX4_clear_2 : decode cX4_clear 2 = .ok (.putfield 18, 3) := by decide +kernel
theorem dX4_clear_5 : decode cX4_clear 5 = .ok (.aload_n 0, 1) := by decide +kernel
theorem dX4_clear_6 : decode cX4_clear 6 = .ok (.iconst 0, 1) := by decide +kernel
theorem dX4_clear_7 : decode cX4_clear 7 = .ok (.putfield 22, 3) := by decide +kernel
theorem dX4_clear_10 : decode cX4_clear 10 = .ok (.return_, 1) := by decide +kernel
theorem wd_535 : (Cond.code ⟨"WebCourt$Law", "clear", "()V"⟩ prog_6_method_2_code (1 : Nat) (Option.none : Option FieldType)) ∈ gtb := gtb_c2 186 (by decide +kernel) rfl
theorem wd_185 : (Cond.fieldLink "WebCourt$Law" (18 : Nat) "WebCourt$Law" "length" "I") ∈ gtb := gtb_c1 76 (by decide +kernel) rfl
theorem pf_RX4_18 {p : Program} {l : Launch} {e : Env} {R : Room} {s : State} {m : MethodId} {args : Array Value} {below : List Frame} {meth : Method} {c : Code} {H : Heap} {locs : List Loc} {cells slots : Nat} {Q : State → Prop} {cc : ByteArray} {pc nL : Nat} {ls : Array Slot} {rest : List Value} {D : va_G} {cy : Nat → ClassId} {A : Nat → Prop} {ws : va_W} {b : Nat} {fs : List Value} {v : Int32} {ws' : va_W} (C : Cx p s m args c cc nL RX4 D cy A) (hO : Wo D A ws s.heap H locs) (q0 : Nat) (he : ws[q0]? = some (b, .inr (4, fs))) (hlen : 2 < fs.length) (hw : ws.set q0 (b, .inr (4, fs.set 2 (.int v))) = ws') (hdg : decode cc pc = .ok (.putfield 18, 3)) (kk : ∀ (H : Heap) (locs : List Loc), Wo D A ws' s.heap H locs → W p l e R s m args below meth c H locs cells slots Q (F0 m (pc + 3) ls rest)) : W p l e R s m args below meth c H locs cells slots Q (F0 m pc ls (.int v :: .ref b :: rest)) := pF (k := 2) (ty := .int) C hO q0 he rfl inFX4 (by decide) wd_185 rfl tyX4 tyX4_ok nmX4 rfl (by decide +kernel) rfl rfl hlen hw hdg kk
theorem wd_187 : (Cond.fieldLink "WebCourt$Law" (22 : Nat) "WebCourt$Law" "units" "I") ∈ gtb := gtb_c1 78 (by decide +kernel) rfl
theorem pf_RX4_22 {p : Program} {l : Launch} {e : Env} {R : Room} {s : State} {m : MethodId} {args : Array Value} {below : List Frame} {meth : Method} {c : Code} {H : Heap} {locs : List Loc} {cells slots : Nat} {Q : State → Prop} {cc : ByteArray} {pc nL : Nat} {ls : Array Slot} {rest : List Value} {D : va_G} {cy : Nat → ClassId} {A : Nat → Prop} {ws : va_W} {b : Nat} {fs : List Value} {v : Int32} {ws' : va_W} (C : Cx p s m args c cc nL RX4 D cy A) (hO : Wo D A ws s.heap H locs) (q0 : Nat) (he : ws[q0]? = some (b, .inr (4, fs))) (hlen : 4 < fs.length) (hw : ws.set q0 (b, .inr (4, fs.set 4 (.int v))) = ws') (hdg : decode cc pc = .ok (.putfield 22, 3)) (kk : ∀ (H : Heap) (locs : List Loc), Wo D A ws' s.heap H locs → W p l e R s m args below meth c H locs cells slots Q (F0 m (pc + 3) ls rest)) : W p l e R s m args below meth c H locs cells slots Q (F0 m pc ls (.int v :: .ref b :: rest)) := pF (k := 4) (ty := .int) C hO q0 he rfl inFX4 (by decide) wd_187 rfl tyX4 tyX4_ok nmX4 rfl (by decide +kernel) rfl rfl hlen hw hdg kk
set_option maxHeartbeats 4000000 in
set_option maxRecDepth 100000 in
theorem T_X4_clear (l : Launch) (D : va_G) (cy : Nat → ClassId) (a : Nat → Nat) (u : St)    : Mv l D cy (cW cy a) yX4_clear (.code yX4_clear cX4_clear 1 none) (rmo 0 0) [.ref (a 24)] u (fun (u' : St) => u' = (sI (sI u 24 2 0) 24 4 0)) := by
  refine Mv.of (own := RX4) rfl (by decide) (Nat.le_of_ble_eq_true rfl) ?_
  intro p e s m below meth c A Q ls C hret hO hl
  obtain ⟨hx, hb, hml, hown, ht, hK, hA⟩ := id C
  have hl : lv_has ls 1 [(0, .ref (a 24))] := hl
  refine lv_aload_n hx hb dX4_clear_0 rfl (lv_at hl 0 rfl) ?_
  refine lv_iconst (v := 0) hx hb dX4_clear_1 (by decide) ?_
  refine pf_RX4_18 C hO 24 cW_24 (Nat.le_of_ble_eq_true rfl) cW_s24_2 dX4_clear_2 (fun H locs hO => ?_)
  refine lv_aload_n hx hb dX4_clear_5 rfl (lv_at hl 0 rfl) ?_
  refine lv_iconst (v := 0) hx hb dX4_clear_6 (by decide) ?_
  refine pf_RX4_22 C hO 24 cW_24 (Nat.le_of_ble_eq_true rfl) cW_s24_4 dX4_clear_7 (fun H locs hO => ?_)
  refine hret _ _ _ _ _ dX4_clear_10 ?_ hO
  exact rfl
theorem dX9_clear_0 : decode cX9_clear 0 = .ok (.aload_n 0, 1) := by decide +kernel
theorem dX9_clear_1 : decode cX9_clear 1 = .ok (.getfield 40, 3) := by decide +kernel
theorem dX9_clear_4 : decode cX9_clear 4 = .ok (.invokevirtual 44, 3) := by decide +kernel
theorem dX9_clear_7 : decode cX9_clear 7 = .ok (.aload_n 0, 1) := by decide +kernel
theorem dX9_clear_8 : decode cX9_clear 8 = .ok (.iconst 0, 1) := by decide +kernel
theorem dX9_clear_9 : decode cX9_clear 9 = .ok (.putfield 47, 3) := by decide +kernel
theorem dX9_clear_12 : decode cX9_clear 12 = .ok (.aload_n 0, 1) := by decide +kernel
theorem dX9_clear_13 : decode cX9_clear 13 = .ok (.iconst 0, 1) := by decide +kernel
theorem dX9_clear_14 : decode cX9_clear 14 = .ok (.putfield 51, 3) := by decide +kernel
theorem dX9_clear_17 : decode cX9_clear 17 = .ok (.aload_n 0, 1) := by decide +kernel
theorem dX9_clear_18 : decode cX9_clear 18 = .ok (.iconst 0, 1) := by decide +kernel
theorem dX9_clear_19 : decode cX9_clear 19 = .ok (.putfield 54, 3) := by decide +kernel
theorem dX9_clear_22 : decode cX9_clear 22 = .ok (.aload_n 0, 1) := by decide +kernel
theorem dX9_clear_23 : decode cX9_clear 23 = .ok (.iconst 0, 1) := by decide +kernel
theorem dX9_clear_24 : decode cX9_clear 24 = .ok (.putfield 57, 3) := by decide +kernel
theorem dX9_clear_27 : decode cX9_clear 27 = .ok (.aload_n 0, 1) := by decide +kernel
theorem dX9_clear_28 : decode cX9_clear 28 = .ok (.iconst 0, 1) := by decide +kernel
theorem dX9_clear_29 : decode cX9_clear 29 = .ok (.putfield 60, 3) := by decide +kernel
theorem dX9_clear_32 : decode cX9_clear 32 = .ok (.aload_n 0, 1) := by decide +kernel
theorem dX9_clear_33 : decode cX9_clear 33 = .ok (.iconst 0, 1) := by decide +kernel
theorem dX9_clear_34 : decode cX9_clear 34 = .ok (.putfield 63, 3) := by decide +kernel
theorem dX9_clear_37 : decode cX9_clear 37 = .ok (.aload_n 0, 1) := by decide +kernel
theorem dX9_clear_38 : decode cX9_clear 38 = .ok (.iconst 0, 1) := by decide +kernel
theorem dX9_clear_39 : decode cX9_clear 39 = .ok (.putfield 66, 3) := by decide +kernel
theorem dX9_clear_42 : decode cX9_clear 42 = .ok (.aload_n 0, 1) := by decide +kernel
theorem dX9_clear_43 : decode cX9_clear 43 = .ok (.iconst 0, 1) := by decide +kernel
theorem dX9_clear_44 : decode cX9_clear 44 = .ok (.putfield 69, 3) := by decide +kernel
theorem dX9_clear_47 : decode cX9_clear 47 = .ok (.aload_n 0, 1) := by decide +kernel
theorem dX9_clear_48 : decode cX9_clear 48 = .ok (.iconst 0, 1) := by decide +kernel
theorem dX9_clear_49 : decode cX9_clear 49 = .ok (.putfield 72, 3) := by decide +kernel
theorem dX9_clear_52 : decode cX9_clear 52 = .ok (.return_, 1) := by decide +kernel
theorem wd_531 : (Cond.code ⟨"WebCourt$Web", "clear", "()V"⟩ prog_11_method_2_code (1 : Nat) (Option.none : Option FieldType)) ∈ gtb := gtb_c2 182 (by decide +kernel) rfl
theorem wd_247 : (Cond.fieldLink "WebCourt$Web" (40 : Nat) "WebCourt$Web" "law" "LWebCourt$Law;") ∈ gtb := gtb_c1 138 (by decide +kernel) rfl
theorem gf_RX9_40 {p : Program} {l : Launch} {e : Env} {R : Room} {s : State} {m : MethodId} {args : Array Value} {below : List Frame} {meth : Method} {c : Code} {H : Heap} {locs : List Loc} {cells slots : Nat} {Q : State → Prop} {cc : ByteArray} {pc nL : Nat} {ls : Array Slot} {rest : List Value} {D : va_G} {cy : Nat → ClassId} {A : Nat → Prop} {ws : va_W} {b : Nat} {fs : List Value} {v : Value} (C : Cx p s m args c cc nL RX9 D cy A) (hO : Wo D A ws s.heap H locs) (q0 : Nat) (he : ws[q0]? = some (b, .inr (9, fs))) (hv : fs[8]? = some v) (hdg : decode cc pc = .ok (.getfield 40, 3)) (kk : W p l e R s m args below meth c H locs cells slots Q (F0 m (pc + 3) ls (v :: rest))) : W p l e R s m args below meth c H locs cells slots Q (F0 m pc ls (.ref b :: rest)) := gF (k := 8) C hO q0 he rfl inFX9 (by decide) wd_247 rfl hv hdg kk
theorem wd_532 : (Cond.methodLink "WebCourt$Web" (44 : Nat) ⟨"WebCourt$Law", "clear", "()V"⟩) ∈ gtb := gtb_c2 183 (by decide +kernel) rfl
theorem wd_533 : (Cond.instanceMethod ⟨"WebCourt$Law", "clear", "()V"⟩) ∈ gtb := gtb_c2 184 (by decide +kernel) rfl
theorem wd_534 : (Cond.selects "WebCourt$Law" ⟨"WebCourt$Law", "clear", "()V"⟩ ⟨"WebCourt$Law", "clear", "()V"⟩) ∈ gtb := gtb_c2 185 (by decide +kernel) rfl
theorem wd_113 : (Cond.initialized "WebCourt$Law") ∈ gtb := gtb_c1 4 (by decide +kernel) rfl
theorem hd_yX4_clear : yX4_clear.cls = RX4 ∧ yX4_clear.cls ≠ "java/lang/invoke/MethodHandle" ∧ yX4_clear.cls ≠ "java/lang/invoke/VarHandle" ∧ (parseMethodDescriptor yX4_clear.desc).map (fun d => d.parameters.length) = some 0 := by decide +kernel
theorem wd_251 : (Cond.fieldLink "WebCourt$Web" (47 : Nat) "WebCourt$Web" "knots" "I") ∈ gtb := gtb_c1 142 (by decide +kernel) rfl
theorem pf_RX9_47 {p : Program} {l : Launch} {e : Env} {R : Room} {s : State} {m : MethodId} {args : Array Value} {below : List Frame} {meth : Method} {c : Code} {H : Heap} {locs : List Loc} {cells slots : Nat} {Q : State → Prop} {cc : ByteArray} {pc nL : Nat} {ls : Array Slot} {rest : List Value} {D : va_G} {cy : Nat → ClassId} {A : Nat → Prop} {ws : va_W} {b : Nat} {fs : List Value} {v : Int32} {ws' : va_W} (C : Cx p s m args c cc nL RX9 D cy A) (hO : Wo D A ws s.heap H locs) (q0 : Nat) (he : ws[q0]? = some (b, .inr (9, fs))) (hlen : 9 < fs.length) (hw : ws.set q0 (b, .inr (9, fs.set 9 (.int v))) = ws') (hdg : decode cc pc = .ok (.putfield 47, 3)) (kk : ∀ (H : Heap) (locs : List Loc), Wo D A ws' s.heap H locs → W p l e R s m args below meth c H locs cells slots Q (F0 m (pc + 3) ls rest)) : W p l e R s m args below meth c H locs cells slots Q (F0 m pc ls (.int v :: .ref b :: rest)) := pF (k := 9) (ty := .int) C hO q0 he rfl inFX9 (by decide) wd_251 rfl tyX9 tyX9_ok nmX9 rfl (by decide +kernel) rfl rfl hlen hw hdg kk
theorem wd_256 : (Cond.fieldLink "WebCourt$Web" (51 : Nat) "WebCourt$Web" "lines" "I") ∈ gtb := gtb_c1 147 (by decide +kernel) rfl
theorem pf_RX9_51 {p : Program} {l : Launch} {e : Env} {R : Room} {s : State} {m : MethodId} {args : Array Value} {below : List Frame} {meth : Method} {c : Code} {H : Heap} {locs : List Loc} {cells slots : Nat} {Q : State → Prop} {cc : ByteArray} {pc nL : Nat} {ls : Array Slot} {rest : List Value} {D : va_G} {cy : Nat → ClassId} {A : Nat → Prop} {ws : va_W} {b : Nat} {fs : List Value} {v : Int32} {ws' : va_W} (C : Cx p s m args c cc nL RX9 D cy A) (hO : Wo D A ws s.heap H locs) (q0 : Nat) (he : ws[q0]? = some (b, .inr (9, fs))) (hlen : 10 < fs.length) (hw : ws.set q0 (b, .inr (9, fs.set 10 (.int v))) = ws') (hdg : decode cc pc = .ok (.putfield 51, 3)) (kk : ∀ (H : Heap) (locs : List Loc), Wo D A ws' s.heap H locs → W p l e R s m args below meth c H locs cells slots Q (F0 m (pc + 3) ls rest)) : W p l e R s m args below meth c H locs cells slots Q (F0 m pc ls (.int v :: .ref b :: rest)) := pF (k := 10) (ty := .int) C hO q0 he rfl inFX9 (by decide) wd_256 rfl tyX9 tyX9_ok nmX9 rfl (by decide +kernel) rfl rfl hlen hw hdg kk
theorem wd_261 : (Cond.fieldLink "WebCourt$Web" (54 : Nat) "WebCourt$Web" "pleas" "I") ∈ gtb := gtb_c1 152 (by decide +kernel) rfl
theorem pf_RX9_54 {p : Program} {l : Launch} {e : Env} {R : Room} {s : State} {m : MethodId} {args : Array Value} {below : List Frame} {meth : Method} {c : Code} {H : Heap} {locs : List Loc} {cells slots : Nat} {Q : State → Prop} {cc : ByteArray} {pc nL : Nat} {ls : Array Slot} {rest : List Value} {D : va_G} {cy : Nat → ClassId} {A : Nat → Prop} {ws : va_W} {b : Nat} {fs : List Value} {v : Int32} {ws' : va_W} (C : Cx p s m args c cc nL RX9 D cy A) (hO : Wo D A ws s.heap H locs) (q0 : Nat) (he : ws[q0]? = some (b, .inr (9, fs))) (hlen : 11 < fs.length) (hw : ws.set q0 (b, .inr (9, fs.set 11 (.int v))) = ws') (hdg : decode cc pc = .ok (.putfield 54, 3)) (kk : ∀ (H : Heap) (locs : List Loc), Wo D A ws' s.heap H locs → W p l e R s m args below meth c H locs cells slots Q (F0 m (pc + 3) ls rest)) : W p l e R s m args below meth c H locs cells slots Q (F0 m pc ls (.int v :: .ref b :: rest)) := pF (k := 11) (ty := .int) C hO q0 he rfl inFX9 (by decide) wd_261 rfl tyX9 tyX9_ok nmX9 rfl (by decide +kernel) rfl rfl hlen hw hdg kk
theorem wd_268 : (Cond.fieldLink "WebCourt$Web" (57 : Nat) "WebCourt$Web" "cases" "I") ∈ gtb := gtb_c1 159 (by decide +kernel) rfl
theorem pf_RX9_57 {p : Program} {l : Launch} {e : Env} {R : Room} {s : State} {m : MethodId} {args : Array Value} {below : List Frame} {meth : Method} {c : Code} {H : Heap} {locs : List Loc} {cells slots : Nat} {Q : State → Prop} {cc : ByteArray} {pc nL : Nat} {ls : Array Slot} {rest : List Value} {D : va_G} {cy : Nat → ClassId} {A : Nat → Prop} {ws : va_W} {b : Nat} {fs : List Value} {v : Int32} {ws' : va_W} (C : Cx p s m args c cc nL RX9 D cy A) (hO : Wo D A ws s.heap H locs) (q0 : Nat) (he : ws[q0]? = some (b, .inr (9, fs))) (hlen : 12 < fs.length) (hw : ws.set q0 (b, .inr (9, fs.set 12 (.int v))) = ws') (hdg : decode cc pc = .ok (.putfield 57, 3)) (kk : ∀ (H : Heap) (locs : List Loc), Wo D A ws' s.heap H locs → W p l e R s m args below meth c H locs cells slots Q (F0 m (pc + 3) ls rest)) : W p l e R s m args below meth c H locs cells slots Q (F0 m pc ls (.int v :: .ref b :: rest)) := pF (k := 12) (ty := .int) C hO q0 he rfl inFX9 (by decide) wd_268 rfl tyX9 tyX9_ok nmX9 rfl (by decide +kernel) rfl rfl hlen hw hdg kk
theorem wd_274 : (Cond.fieldLink "WebCourt$Web" (60 : Nat) "WebCourt$Web" "sticky" "I") ∈ gtb := gtb_c1 165 (by decide +kernel) rfl
theorem pf_RX9_60 {p : Program} {l : Launch} {e : Env} {R : Room} {s : State} {m : MethodId} {args : Array Value} {below : List Frame} {meth : Method} {c : Code} {H : Heap} {locs : List Loc} {cells slots : Nat} {Q : State → Prop} {cc : ByteArray} {pc nL : Nat} {ls : Array Slot} {rest : List Value} {D : va_G} {cy : Nat → ClassId} {A : Nat → Prop} {ws : va_W} {b : Nat} {fs : List Value} {v : Int32} {ws' : va_W} (C : Cx p s m args c cc nL RX9 D cy A) (hO : Wo D A ws s.heap H locs) (q0 : Nat) (he : ws[q0]? = some (b, .inr (9, fs))) (hlen : 13 < fs.length) (hw : ws.set q0 (b, .inr (9, fs.set 13 (.int v))) = ws') (hdg : decode cc pc = .ok (.putfield 60, 3)) (kk : ∀ (H : Heap) (locs : List Loc), Wo D A ws' s.heap H locs → W p l e R s m args below meth c H locs cells slots Q (F0 m (pc + 3) ls rest)) : W p l e R s m args below meth c H locs cells slots Q (F0 m pc ls (.int v :: .ref b :: rest)) := pF (k := 13) (ty := .int) C hO q0 he rfl inFX9 (by decide) wd_274 rfl tyX9 tyX9_ok nmX9 rfl (by decide +kernel) rfl rfl hlen hw hdg kk
theorem wd_278 : (Cond.fieldLink "WebCourt$Web" (63 : Nat) "WebCourt$Web" "bench" "I") ∈ gtb := gtb_c1 169 (by decide +kernel) rfl
theorem pf_RX9_63 {p : Program} {l : Launch} {e : Env} {R : Room} {s : State} {m : MethodId} {args : Array Value} {below : List Frame} {meth : Method} {c : Code} {H : Heap} {locs : List Loc} {cells slots : Nat} {Q : State → Prop} {cc : ByteArray} {pc nL : Nat} {ls : Array Slot} {rest : List Value} {D : va_G} {cy : Nat → ClassId} {A : Nat → Prop} {ws : va_W} {b : Nat} {fs : List Value} {v : Int32} {ws' : va_W} (C : Cx p s m args c cc nL RX9 D cy A) (hO : Wo D A ws s.heap H locs) (q0 : Nat) (he : ws[q0]? = some (b, .inr (9, fs))) (hlen : 14 < fs.length) (hw : ws.set q0 (b, .inr (9, fs.set 14 (.int v))) = ws') (hdg : decode cc pc = .ok (.putfield 63, 3)) (kk : ∀ (H : Heap) (locs : List Loc), Wo D A ws' s.heap H locs → W p l e R s m args below meth c H locs cells slots Q (F0 m (pc + 3) ls rest)) : W p l e R s m args below meth c H locs cells slots Q (F0 m pc ls (.int v :: .ref b :: rest)) := pF (k := 14) (ty := .int) C hO q0 he rfl inFX9 (by decide) wd_278 rfl tyX9 tyX9_ok nmX9 rfl (by decide +kernel) rfl rfl hlen hw hdg kk
theorem wd_280 : (Cond.fieldLink "WebCourt$Web" (66 : Nat) "WebCourt$Web" "back" "I") ∈ gtb := gtb_c1 171 (by decide +kernel) rfl
theorem pf_RX9_66 {p : Program} {l : Launch} {e : Env} {R : Room} {s : State} {m : MethodId} {args : Array Value} {below : List Frame} {meth : Method} {c : Code} {H : Heap} {locs : List Loc} {cells slots : Nat} {Q : State → Prop} {cc : ByteArray} {pc nL : Nat} {ls : Array Slot} {rest : List Value} {D : va_G} {cy : Nat → ClassId} {A : Nat → Prop} {ws : va_W} {b : Nat} {fs : List Value} {v : Int32} {ws' : va_W} (C : Cx p s m args c cc nL RX9 D cy A) (hO : Wo D A ws s.heap H locs) (q0 : Nat) (he : ws[q0]? = some (b, .inr (9, fs))) (hlen : 15 < fs.length) (hw : ws.set q0 (b, .inr (9, fs.set 15 (.int v))) = ws') (hdg : decode cc pc = .ok (.putfield 66, 3)) (kk : ∀ (H : Heap) (locs : List Loc), Wo D A ws' s.heap H locs → W p l e R s m args below meth c H locs cells slots Q (F0 m (pc + 3) ls rest)) : W p l e R s m args below meth c H locs cells slots Q (F0 m pc ls (.int v :: .ref b :: rest)) := pF (k := 15) (ty := .int) C hO q0 he rfl inFX9 (by decide) wd_280 rfl tyX9 tyX9_ok nmX9 rfl (by decide +kernel) rfl rfl hlen hw hdg kk
theorem wd_284 : (Cond.fieldLink "WebCourt$Web" (69 : Nat) "WebCourt$Web" "draw" "I") ∈ gtb := gtb_c1 175 (by decide +kernel) rfl
theorem pf_RX9_69 {p : Program} {l : Launch} {e : Env} {R : Room} {s : State} {m : MethodId} {args : Array Value} {below : List Frame} {meth : Method} {c : Code} {H : Heap} {locs : List Loc} {cells slots : Nat} {Q : State → Prop} {cc : ByteArray} {pc nL : Nat} {ls : Array Slot} {rest : List Value} {D : va_G} {cy : Nat → ClassId} {A : Nat → Prop} {ws : va_W} {b : Nat} {fs : List Value} {v : Int32} {ws' : va_W} (C : Cx p s m args c cc nL RX9 D cy A) (hO : Wo D A ws s.heap H locs) (q0 : Nat) (he : ws[q0]? = some (b, .inr (9, fs))) (hlen : 16 < fs.length) (hw : ws.set q0 (b, .inr (9, fs.set 16 (.int v))) = ws') (hdg : decode cc pc = .ok (.putfield 69, 3)) (kk : ∀ (H : Heap) (locs : List Loc), Wo D A ws' s.heap H locs → W p l e R s m args below meth c H locs cells slots Q (F0 m (pc + 3) ls rest)) : W p l e R s m args below meth c H locs cells slots Q (F0 m pc ls (.int v :: .ref b :: rest)) := pF (k := 16) (ty := .int) C hO q0 he rfl inFX9 (by decide) wd_284 rfl tyX9 tyX9_ok nmX9 rfl (by decide +kernel) rfl rfl hlen hw hdg kk
theorem wd_287 : (Cond.fieldLink "WebCourt$Web" (72 : Nat) "WebCourt$Web" "toldOnce" "I") ∈ gtb := gtb_c1 178 (by decide +kernel) rfl
theorem pf_RX9_72 {p : Program} {l : Launch} {e : Env} {R : Room} {s : State} {m : MethodId} {args : Array Value} {below : List Frame} {meth : Method} {c : Code} {H : Heap} {locs : List Loc} {cells slots : Nat} {Q : State → Prop} {cc : ByteArray} {pc nL : Nat} {ls : Array Slot} {rest : List Value} {D : va_G} {cy : Nat → ClassId} {A : Nat → Prop} {ws : va_W} {b : Nat} {fs : List Value} {v : Int32} {ws' : va_W} (C : Cx p s m args c cc nL RX9 D cy A) (hO : Wo D A ws s.heap H locs) (q0 : Nat) (he : ws[q0]? = some (b, .inr (9, fs))) (hlen : 17 < fs.length) (hw : ws.set q0 (b, .inr (9, fs.set 17 (.int v))) = ws') (hdg : decode cc pc = .ok (.putfield 72, 3)) (kk : ∀ (H : Heap) (locs : List Loc), Wo D A ws' s.heap H locs → W p l e R s m args below meth c H locs cells slots Q (F0 m (pc + 3) ls rest)) : W p l e R s m args below meth c H locs cells slots Q (F0 m pc ls (.int v :: .ref b :: rest)) := pF (k := 17) (ty := .int) C hO q0 he rfl inFX9 (by decide) wd_287 rfl tyX9 tyX9_ok nmX9 rfl (by decide +kernel) rfl rfl hlen hw hdg kk
set_option maxHeartbeats 4000000 in
set_option maxRecDepth 100000 in
theorem T_X9_clear (l : Launch) (D : va_G) (cy : Nat → ClassId) (a : Nat → Nat) (u : St)    : Mv l D cy (cW cy a) yX9_clear (.code yX9_clear cX9_clear 1 none) (rmo 1 20) [.ref (a 15)] u (fun (u' : St) => u' = (sI (sI (sI (sI (sI (sI (sI (sI (sI (sI (sI u 24 2 0) 24 4 0) 15 9 0) 15 10 0) 15 11 0) 15 12 0) 15 13 0) 15 14 0) 15 15 0) 15 16 0) 15 17 0)) := by
  refine Mv.of (own := RX9) rfl (by decide) (Nat.le_of_ble_eq_true rfl) ?_
  intro p e s m below meth c A Q ls C hret hO hl
  obtain ⟨hx, hb, hml, hown, ht, hK, hA⟩ := id C
  have hl : lv_has ls 1 [(0, .ref (a 15))] := hl
  refine lv_aload_n hx hb dX9_clear_0 rfl (lv_at hl 0 rfl) ?_
  refine gf_RX9_40 (v := .ref (a 24)) C hO 15 cW_15 rfl dX9_clear_1 ?_
  refine cVv (w := cW cy a) (As := []) (rest := []) C hO (T_X4_clear l D cy a _ ) (cwV 0 ht (gV wd_532 wd_533 wd_534 wd_113 wd_535) rfl rfl rfl hd_yX4_clear ⟨Nat.le_of_ble_eq_true rfl, Nat.le_of_ble_eq_true rfl⟩) 24 rfl cW_24 rfl rfl hl.1 (Nat.le_of_ble_eq_true rfl) dX9_clear_4 rfl ⟨Nat.zero_le _, Nat.zero_le _⟩ (fun u2 H locs hp3 hO => ?_)
  have hu2 := hp3
  rw [hu2] at hO
  refine lv_aload_n hx hb dX9_clear_7 rfl (lv_at hl 0 rfl) ?_
  refine lv_iconst (v := 0) hx hb dX9_clear_8 (by decide) ?_
  refine pf_RX9_47 C hO 15 cW_15 (Nat.le_of_ble_eq_true rfl) cW_s15_9 dX9_clear_9 (fun H locs hO => ?_)
  refine lv_aload_n hx hb dX9_clear_12 rfl (lv_at hl 0 rfl) ?_
  refine lv_iconst (v := 0) hx hb dX9_clear_13 (by decide) ?_
  refine pf_RX9_51 C hO 15 cW_15 (Nat.le_of_ble_eq_true rfl) cW_s15_10 dX9_clear_14 (fun H locs hO => ?_)
  refine lv_aload_n hx hb dX9_clear_17 rfl (lv_at hl 0 rfl) ?_
  refine lv_iconst (v := 0) hx hb dX9_clear_18 (by decide) ?_
  refine pf_RX9_54 C hO 15 cW_15 (Nat.le_of_ble_eq_true rfl) cW_s15_11 dX9_clear_19 (fun H locs hO => ?_)
  refine lv_aload_n hx hb dX9_clear_22 rfl (lv_at hl 0 rfl) ?_
  refine lv_iconst (v := 0) hx hb dX9_clear_23 (by decide) ?_
  refine pf_RX9_57 C hO 15 cW_15 (Nat.le_of_ble_eq_true rfl) cW_s15_12 dX9_clear_24 (fun H locs hO => ?_)
  refine lv_aload_n hx hb dX9_clear_27 rfl (lv_at hl 0 rfl) ?_
  refine lv_iconst (v := 0) hx hb dX9_clear_28 (by decide) ?_
  refine pf_RX9_60 C hO 15 cW_15 (Nat.le_of_ble_eq_true rfl) cW_s15_13 dX9_clear_29 (fun H locs hO => ?_)
  refine lv_aload_n hx hb dX9_clear_32 rfl (lv_at hl 0 rfl) ?_
  refine lv_iconst (v := 0) hx hb dX9_clear_33 (by decide) ?_
  refine pf_RX9_63 C hO 15 cW_15 (Nat.le_of_ble_eq_true rfl) cW_s15_14 dX9_clear_34 (fun H locs hO => ?_)
  refine lv_aload_n hx hb dX9_clear_37 rfl (lv_at hl 0 rfl) ?_
  refine lv_iconst (v := 0) hx hb dX9_clear_38 (by decide) ?_
  refine pf_RX9_66 C hO 15 cW_15 (Nat.le_of_ble_eq_true rfl) cW_s15_15 dX9_clear_39 (fun H locs hO => ?_)
  refine lv_aload_n hx hb dX9_clear_42 rfl (lv_at hl 0 rfl) ?_
  refine lv_iconst (v := 0) hx hb dX9_clear_43 (by decide) ?_
  refine pf_RX9_69 C hO 15 cW_15 (Nat.le_of_ble_eq_true rfl) cW_s15_16 dX9_clear_44 (fun H locs hO => ?_)
  refine lv_aload_n hx hb dX9_clear_47 rfl (lv_at hl 0 rfl) ?_
  refine lv_iconst (v := 0) hx hb dX9_clear_48 (by decide) ?_
  refine pf_RX9_72 C hO 15 cW_15 (Nat.le_of_ble_eq_true rfl) cW_s15_17 dX9_clear_49 (fun H locs hO => ?_)
  refine hret _ _ _ _ _ dX9_clear_52 ?_ hO
  exact rfl
theorem dX5_read_0 : decode cX5_read 0 = .ok (.aload_n 0, 1) := by decide +kernel
theorem dX5_read_1 : decode cX5_read 1 = .ok (.aload_n 1, 1) := by decide +kernel
theorem dX5_read_2 : decode cX5_read 2 = .ok (.putfield 15, 3) := by decide +kernel
theorem dX5_read_5 : decode cX5_read 5 = .ok (.aload_n 0, 1) := by decide +kernel
theorem dX5_read_6 : decode cX5_read 6 = .ok (.getfield 15, 3) := by decide +kernel
theorem dX5_read_9 : decode cX5_read 9 = .ok (.invokevirtual 23, 3) := by decide +kernel
theorem dX5_read_12 : decode cX5_read 12 = .ok (.aload_n 0, 1) := by decide +kernel
theorem dX5_read_13 : decode cX5_read 13 = .ok (.iconst 0, 1) := by decide +kernel
theorem dX5_read_14 : decode cX5_read 14 = .ok (.putfield 28, 3) := by decide +kernel
theorem dX5_read_17 : decode cX5_read 17 = .ok (.aload_n 0, 1) := by decide +kernel
theorem dX5_read_18 : decode cX5_read 18 = .ok (.iconst (-1), 1) := by decide +kernel
theorem dX5_read_19 : decode cX5_read 19 = .ok (.putfield 19, 3) := by decide +kernel
theorem dX5_read_22 : decode cX5_read 22 = .ok (.aload_n 0, 1) := by decide +kernel
theorem dX5_read_23 : decode cX5_read 23 = .ok (.getfield 9, 3) := by decide +kernel
theorem dX5_read_26 : decode cX5_read 26 = .ok (.invokevirtual 31, 3) := by decide +kernel
theorem dX5_read_29 : decode cX5_read 29 = .ok (.iconst 1, 1) := by decide +kernel
theorem dX5_read_30 : decode cX5_read 30 = .ok (.istore_n 2, 1) := by decide +kernel
theorem dX5_read_31 : decode cX5_read 31 = .ok (.iconst 0, 1) := by decide +kernel
theorem dX5_read_32 : decode cX5_read 32 = .ok (.istore_n 3, 1) := by decide +kernel
theorem dX5_read_33 : decode cX5_read 33 = .ok (.iload_n 3, 1) := by decide +kernel
theorem dX5_read_34 : decode cX5_read 34 = .ok (.sipush 1600, 3) := by decide +kernel
theorem dX5_read_37 : decode cX5_read 37 = .ok (.if_icmp .gt 48, 3) := by decide +kernel
theorem dX5_read_40 : decode cX5_read 40 = .ok (.iload_n 2, 1) := by decide +kernel
theorem dX5_read_41 : decode cX5_read 41 = .ok (.ifCond .eq 44, 3) := by decide +kernel
theorem dX5_read_44 : decode cX5_read 44 = .ok (.aload_n 0, 1) := by decide +kernel
theorem dX5_read_45 : decode cX5_read 45 = .ok (.getfield 9, 3) := by decide +kernel
theorem dX5_read_48 : decode cX5_read 48 = .ok (.getfield 36, 3) := by decide +kernel
theorem dX5_read_51 : decode cX5_read 51 = .ok (.sipush 202, 3) := by decide +kernel
theorem dX5_read_54 : decode cX5_read 54 = .ok (.if_icmp .eq 31, 3) := by decide +kernel
theorem dX5_read_57 : decode cX5_read 57 = .ok (.aload_n 0, 1) := by decide +kernel
theorem dX5_read_58 : decode cX5_read 58 = .ok (.invokevirtual 39, 3) := by decide +kernel
theorem dX5_read_61 : decode cX5_read 61 = .ok (.ifCond .eq 16, 3) := by decide +kernel
theorem dX5_read_64 : decode cX5_read 64 = .ok (.aload_n 0, 1) := by decide +kernel
theorem dX5_read_65 : decode cX5_read 65 = .ok (.bipush 59, 2) := by decide +kernel
theorem dX5_read_67 : decode cX5_read 67 = .ok (.invokevirtual 43, 3) := by decide +kernel
theorem dX5_read_70 : decode cX5_read 70 = .ok (.ifCond .eq 7, 3) := by decide +kernel
theorem dX5_read_73 : decode cX5_read 73 = .ok (.iconst 1, 1) := by decide +kernel
theorem dX5_read_74 : decode cX5_read 74 = .ok (.goto 4, 3) := by decide +kernel
theorem dX5_read_77 : decode cX5_read 77 = .ok (.iconst 0, 1) := by decide +kernel
theorem dX5_read_78 : decode cX5_read 78 = .ok (.istore_n 2, 1) := by decide +kernel
theorem dX5_read_79 : decode cX5_read 79 = .ok (.iinc 3 1, 3) := by decide +kernel
theorem dX5_read_82 : decode cX5_read 82 = .ok (.goto (-49), 3) := by decide +kernel
theorem dX5_read_85 : decode cX5_read 85 = .ok (.iload_n 2, 1) := by decide +kernel
theorem dX5_read_86 : decode cX5_read 86 = .ok (.ireturn, 1) := by decide +kernel
theorem wd_527 : (Cond.code ⟨"WebCourt$Reader", "read", "(LWebCourt$Web;)Z"⟩ prog_7_method_2_code (4 : Nat) (Option.some FieldType.boolean)) ∈ gtb := gtb_c2 178 (by decide +kernel) rfl
theorem wd_333 : (Cond.fieldLink "WebCourt$Reader" (15 : Nat) "WebCourt$Reader" "web" "LWebCourt$Web;") ∈ gtb := gtb_c1 224 (by decide +kernel) rfl
theorem pf_RX5_15 {p : Program} {l : Launch} {e : Env} {R : Room} {s : State} {m : MethodId} {args : Array Value} {below : List Frame} {meth : Method} {c : Code} {H : Heap} {locs : List Loc} {cells slots : Nat} {Q : State → Prop} {cc : ByteArray} {pc nL : Nat} {ls : Array Slot} {rest : List Value} {D : va_G} {cy : Nat → ClassId} {A : Nat → Prop} {ws : va_W} {b : Nat} {fs : List Value} {v : Nat} {ws' : va_W} (C : Cx p s m args c cc nL RX5 D cy A) (hO : Wo D A ws s.heap H locs) (q0 : Nat) (he : ws[q0]? = some (b, .inr (5, fs))) (hlen : 1 < fs.length) (hw : ws.set q0 (b, .inr (5, fs.set 1 (.ref v))) = ws') (hdg : decode cc pc = .ok (.putfield 15, 3)) (kk : ∀ (H : Heap) (locs : List Loc), Wo D A ws' s.heap H locs → W p l e R s m args below meth c H locs cells slots Q (F0 m (pc + 3) ls rest)) : W p l e R s m args below meth c H locs cells slots Q (F0 m pc ls (.ref v :: .ref b :: rest)) := pF (k := 1) (ty := .object "WebCourt$Web") C hO q0 he rfl inFX5 (by decide) wd_333 rfl tyX5 tyX5_ok nmX5 rfl (by decide +kernel) rfl rfl hlen hw hdg kk
theorem gf_RX5_15 {p : Program} {l : Launch} {e : Env} {R : Room} {s : State} {m : MethodId} {args : Array Value} {below : List Frame} {meth : Method} {c : Code} {H : Heap} {locs : List Loc} {cells slots : Nat} {Q : State → Prop} {cc : ByteArray} {pc nL : Nat} {ls : Array Slot} {rest : List Value} {D : va_G} {cy : Nat → ClassId} {A : Nat → Prop} {ws : va_W} {b : Nat} {fs : List Value} {v : Value} (C : Cx p s m args c cc nL RX5 D cy A) (hO : Wo D A ws s.heap H locs) (q0 : Nat) (he : ws[q0]? = some (b, .inr (5, fs))) (hv : fs[1]? = some v) (hdg : decode cc pc = .ok (.getfield 15, 3)) (kk : W p l e R s m args below meth c H locs cells slots Q (F0 m (pc + 3) ls (v :: rest))) : W p l e R s m args below meth c H locs cells slots Q (F0 m pc ls (.ref b :: rest)) := gF (k := 1) C hO q0 he rfl inFX5 (by decide) wd_333 rfl hv hdg kk
theorem wd_528 : (Cond.methodLink "WebCourt$Reader" (23 : Nat) ⟨"WebCourt$Web", "clear", "()V"⟩) ∈ gtb := gtb_c2 179 (by decide +kernel) rfl
theorem wd_529 : (Cond.instanceMethod ⟨"WebCourt$Web", "clear", "()V"⟩) ∈ gtb := gtb_c2 180 (by decide +kernel) rfl
theorem wd_530 : (Cond.selects "WebCourt$Web" ⟨"WebCourt$Web", "clear", "()V"⟩ ⟨"WebCourt$Web", "clear", "()V"⟩) ∈ gtb := gtb_c2 181 (by decide +kernel) rfl
theorem wd_112 : (Cond.initialized "WebCourt$Web") ∈ gtb := gtb_c1 3 (by decide +kernel) rfl
theorem hd_yX9_clear : yX9_clear.cls = RX9 ∧ yX9_clear.cls ≠ "java/lang/invoke/MethodHandle" ∧ yX9_clear.cls ≠ "java/lang/invoke/VarHandle" ∧ (parseMethodDescriptor yX9_clear.desc).map (fun d => d.parameters.length) = some 0 := by decide +kernel
theorem wd_334 : (Cond.fieldLink "WebCourt$Reader" (28 : Nat) "WebCourt$Reader" "fault" "I") ∈ gtb := gtb_c1 225 (by decide +kernel) rfl
theorem pf_RX5_28 {p : Program} {l : Launch} {e : Env} {R : Room} {s : State} {m : MethodId} {args : Array Value} {below : List Frame} {meth : Method} {c : Code} {H : Heap} {locs : List Loc} {cells slots : Nat} {Q : State → Prop} {cc : ByteArray} {pc nL : Nat} {ls : Array Slot} {rest : List Value} {D : va_G} {cy : Nat → ClassId} {A : Nat → Prop} {ws : va_W} {b : Nat} {fs : List Value} {v : Int32} {ws' : va_W} (C : Cx p s m args c cc nL RX5 D cy A) (hO : Wo D A ws s.heap H locs) (q0 : Nat) (he : ws[q0]? = some (b, .inr (5, fs))) (hlen : 2 < fs.length) (hw : ws.set q0 (b, .inr (5, fs.set 2 (.int v))) = ws') (hdg : decode cc pc = .ok (.putfield 28, 3)) (kk : ∀ (H : Heap) (locs : List Loc), Wo D A ws' s.heap H locs → W p l e R s m args below meth c H locs cells slots Q (F0 m (pc + 3) ls rest)) : W p l e R s m args below meth c H locs cells slots Q (F0 m pc ls (.int v :: .ref b :: rest)) := pF (k := 2) (ty := .int) C hO q0 he rfl inFX5 (by decide) wd_334 rfl tyX5 tyX5_ok nmX5 rfl (by decide +kernel) rfl rfl hlen hw hdg kk
theorem wd_336 : (Cond.fieldLink "WebCourt$Reader" (19 : Nat) "WebCourt$Reader" "place" "I") ∈ gtb := gtb_c1 227 (by decide +kernel) rfl
theorem pf_RX5_19 {p : Program} {l : Launch} {e : Env} {R : Room} {s : State} {m : MethodId} {args : Array Value} {below : List Frame} {meth : Method} {c : Code} {H : Heap} {locs : List Loc} {cells slots : Nat} {Q : State → Prop} {cc : ByteArray} {pc nL : Nat} {ls : Array Slot} {rest : List Value} {D : va_G} {cy : Nat → ClassId} {A : Nat → Prop} {ws : va_W} {b : Nat} {fs : List Value} {v : Int32} {ws' : va_W} (C : Cx p s m args c cc nL RX5 D cy A) (hO : Wo D A ws s.heap H locs) (q0 : Nat) (he : ws[q0]? = some (b, .inr (5, fs))) (hlen : 3 < fs.length) (hw : ws.set q0 (b, .inr (5, fs.set 3 (.int v))) = ws') (hdg : decode cc pc = .ok (.putfield 19, 3)) (kk : ∀ (H : Heap) (locs : List Loc), Wo D A ws' s.heap H locs → W p l e R s m args below meth c H locs cells slots Q (F0 m (pc + 3) ls rest)) : W p l e R s m args below meth c H locs cells slots Q (F0 m pc ls (.int v :: .ref b :: rest)) := pF (k := 3) (ty := .int) C hO q0 he rfl inFX5 (by decide) wd_336 rfl tyX5 tyX5_ok nmX5 rfl (by decide +kernel) rfl rfl hlen hw hdg kk
theorem wd_332 : (Cond.fieldLink "WebCourt$Reader" (9 : Nat) "WebCourt$Reader" "tape" "LWebCourt$Tape;") ∈ gtb := gtb_c1 223 (by decide +kernel) rfl
theorem gf_RX5_9 {p : Program} {l : Launch} {e : Env} {R : Room} {s : State} {m : MethodId} {args : Array Value} {below : List Frame} {meth : Method} {c : Code} {H : Heap} {locs : List Loc} {cells slots : Nat} {Q : State → Prop} {cc : ByteArray} {pc nL : Nat} {ls : Array Slot} {rest : List Value} {D : va_G} {cy : Nat → ClassId} {A : Nat → Prop} {ws : va_W} {b : Nat} {fs : List Value} {v : Value} (C : Cx p s m args c cc nL RX5 D cy A) (hO : Wo D A ws s.heap H locs) (q0 : Nat) (he : ws[q0]? = some (b, .inr (5, fs))) (hv : fs[0]? = some v) (hdg : decode cc pc = .ok (.getfield 9, 3)) (kk : W p l e R s m args below meth c H locs cells slots Q (F0 m (pc + 3) ls (v :: rest))) : W p l e R s m args below meth c H locs cells slots Q (F0 m pc ls (.ref b :: rest)) := gF (k := 0) C hO q0 he rfl inFX5 (by decide) wd_332 rfl hv hdg kk
theorem wd_536 : (Cond.methodLink "WebCourt$Reader" (31 : Nat) ⟨"WebCourt$Tape", "rewind", "()V"⟩) ∈ gtb := gtb_c2 187 (by decide +kernel) rfl
theorem wd_537 : (Cond.instanceMethod ⟨"WebCourt$Tape", "rewind", "()V"⟩) ∈ gtb := gtb_c2 188 (by decide +kernel) rfl
theorem wd_538 : (Cond.selects "WebCourt$Tape" ⟨"WebCourt$Tape", "rewind", "()V"⟩ ⟨"WebCourt$Tape", "rewind", "()V"⟩) ∈ gtb := gtb_c2 189 (by decide +kernel) rfl
theorem hd_yX7_rewind : yX7_rewind.cls = RX7 ∧ yX7_rewind.cls ≠ "java/lang/invoke/MethodHandle" ∧ yX7_rewind.cls ≠ "java/lang/invoke/VarHandle" ∧ (parseMethodDescriptor yX7_rewind.desc).map (fun d => d.parameters.length) = some 0 := by decide +kernel
theorem wd_149 : (Cond.fieldLink "WebCourt$Reader" (36 : Nat) "WebCourt$Tape" "kind" "I") ∈ gtb := gtb_c1 40 (by decide +kernel) rfl
theorem gf_RX5_36 {p : Program} {l : Launch} {e : Env} {R : Room} {s : State} {m : MethodId} {args : Array Value} {below : List Frame} {meth : Method} {c : Code} {H : Heap} {locs : List Loc} {cells slots : Nat} {Q : State → Prop} {cc : ByteArray} {pc nL : Nat} {ls : Array Slot} {rest : List Value} {D : va_G} {cy : Nat → ClassId} {A : Nat → Prop} {ws : va_W} {b : Nat} {fs : List Value} {v : Value} (C : Cx p s m args c cc nL RX5 D cy A) (hO : Wo D A ws s.heap H locs) (q0 : Nat) (he : ws[q0]? = some (b, .inr (7, fs))) (hv : fs[4]? = some v) (hdg : decode cc pc = .ok (.getfield 36, 3)) (kk : W p l e R s m args below meth c H locs cells slots Q (F0 m (pc + 3) ls (v :: rest))) : W p l e R s m args below meth c H locs cells slots Q (F0 m pc ls (.ref b :: rest)) := gF (k := 4) C hO q0 he rfl inFX7 (by decide) wd_149 rfl hv hdg kk
set_option maxHeartbeats 4000000 in
set_option maxRecDepth 100000 in
theorem T_X5_read (l : Launch) (D : va_G) (cy : Nat → ClassId) (a : Nat → Nat) (u : St) (hI_1_1 : fI u 1 1 = 0)   : Mi l D cy (cW cy a) yX5_read (.code yX5_read cX5_read 4 (some .boolean)) (rmo 2 40) [.ref (a 27), .ref (a 15)] u (fun (r : Int32) (u' : St) => r = 1 ∧ u' = (sI (sI (sI (sI (sI (sI (sI (sI (sI (sI (sI (sI (sI (sI (sI (sI (sR u 2 (a 15)) 24 2 0) 24 4 0) 15 9 0) 15 10 0) 15 11 0) 15 12 0) 15 13 0) 15 14 0) 15 15 0) 15 16 0) 15 17 0) 27 2 0) 27 3 (-1)) 1 2 0) 1 3 0) 1 4 202)) := by
  refine Mi.of (own := RX5) rfl (by decide) (Nat.le_of_ble_eq_true rfl) ?_
  intro p e s m below meth c A Q ls C hret hO hl
  obtain ⟨hx, hb, hml, hown, ht, hK, hA⟩ := id C
  have hl : lv_has ls 4 [(0, .ref (a 27)), (1, .ref (a 15))] := hl
  refine lv_aload_n hx hb dX5_read_0 rfl (lv_at hl 0 rfl) ?_
  refine lv_aload_n hx hb dX5_read_1 rfl (lv_at hl 1 rfl) ?_
  refine pf_RX5_15 C hO 27 cW_27 (Nat.le_of_ble_eq_true rfl) cW_s27_1 dX5_read_2 (fun H locs hO => ?_)
  refine lv_aload_n hx hb dX5_read_5 rfl (lv_at hl 0 rfl) ?_
  refine gf_RX5_15 (v := .ref (a 15)) C hO 27 cW_27 rfl dX5_read_6 ?_
  refine cVv (w := cW cy a) (As := []) (rest := []) C hO (T_X9_clear l D cy a _ ) (cwV 0 ht (gV wd_528 wd_529 wd_530 wd_112 wd_531) rfl rfl rfl hd_yX9_clear ⟨Nat.le_of_ble_eq_true rfl, Nat.le_of_ble_eq_true rfl⟩) 15 rfl cW_15 rfl rfl hl.1 (Nat.le_of_ble_eq_true rfl) dX5_read_9 rfl ⟨Nat.zero_le _, Nat.zero_le _⟩ (fun u2 H locs hp3 hO => ?_)
  have hu2 := hp3
  rw [hu2] at hO
  refine lv_aload_n hx hb dX5_read_12 rfl (lv_at hl 0 rfl) ?_
  refine lv_iconst (v := 0) hx hb dX5_read_13 (by decide) ?_
  refine pf_RX5_28 C hO 27 cW_27 (Nat.le_of_ble_eq_true rfl) cW_s27_2 dX5_read_14 (fun H locs hO => ?_)
  refine lv_aload_n hx hb dX5_read_17 rfl (lv_at hl 0 rfl) ?_
  refine lv_iconst (v := (-1)) hx hb dX5_read_18 (by decide) ?_
  refine pf_RX5_19 C hO 27 cW_27 (Nat.le_of_ble_eq_true rfl) cW_s27_3 dX5_read_19 (fun H locs hO => ?_)
  refine lv_aload_n hx hb dX5_read_22 rfl (lv_at hl 0 rfl) ?_
  refine gf_RX5_9 (v := .ref (a 1)) C hO 27 cW_27 rfl dX5_read_23 ?_
  refine cVv (w := cW cy a) (As := []) (rest := []) C hO (T_X7_rewind l D cy a _ (by exact hI_1_1)) (cwV 0 ht (gV wd_536 wd_537 wd_538 wd_111 wd_539) rfl rfl rfl hd_yX7_rewind ⟨Nat.le_of_ble_eq_true rfl, Nat.le_of_ble_eq_true rfl⟩) 1 rfl cW_1 rfl rfl hl.1 (Nat.le_of_ble_eq_true rfl) dX5_read_26 rfl ⟨Nat.zero_le _, Nat.zero_le _⟩ (fun u5 H locs hp6 hO => ?_)
  have hu5 := hp6
  rw [hu5] at hO
  refine lv_iconst (v := 1) hx hb dX5_read_29 (by decide) ?_
  refine lv_istore_n (lv' := [(2, .int 1), (0, .ref (a 27)), (1, .ref (a 15))]) hx hb dX5_read_30 rfl hl (by decide) rfl (fun ls hl => ?_)
  refine lv_iconst (v := 0) hx hb dX5_read_31 (by decide) ?_
  refine lv_istore_n (lv' := [(3, .int 0), (2, .int 1), (0, .ref (a 27)), (1, .ref (a 15))]) hx hb dX5_read_32 rfl hl (by decide) rfl (fun ls hl => ?_)
  refine lv_iload_n hx hb dX5_read_33 rfl (lv_at hl 0 rfl) ?_
  refine lv_sipush (v := 1600) hx hb dX5_read_34 (by decide) ?_
  refine cn_gt (X := 0) (Y := 1600) hx hb dX5_read_37 rfl rfl (by omega) ?_ (tgt := 85) (by decide)
  refine lv_iload_n hx hb dX5_read_40 rfl (lv_at hl 1 rfl) ?_
  refine bn_eq (X := 1) hx hb dX5_read_41 rfl (by omega) ?_ (tgt := 85) (by decide)
  refine lv_aload_n hx hb dX5_read_44 rfl (lv_at hl 2 rfl) ?_
  refine gf_RX5_9 (v := .ref (a 1)) C hO 27 cW_27 rfl dX5_read_45 ?_
  refine gf_RX5_36 (v := .int 202) C hO 1 cW_1 rfl dX5_read_48 ?_
  refine lv_sipush (v := 202) hx hb dX5_read_51 (by decide) ?_
  refine ct_eq (tgt := 85) (X := 202) (Y := 202) hx hb dX5_read_54 (by decide) rfl rfl (by omega) ?_
  refine lv_iload_n hx hb dX5_read_85 rfl (lv_at hl 1 rfl) ?_
  refine hret _ _ _ _ _ _ dX5_read_86 rfl ?_ hO
  exact ⟨rfl, rfl⟩
theorem dX2_open_0 : decode cX2_open 0 = .ok (.aload_n 0, 1) := by decide +kernel
theorem dX2_open_1 : decode cX2_open 1 = .ok (.aload_n 1, 1) := by decide +kernel
theorem dX2_open_2 : decode cX2_open 2 = .ok (.putfield 15, 3) := by decide +kernel
theorem dX2_open_5 : decode cX2_open 5 = .ok (.aload_n 0, 1) := by decide +kernel
theorem dX2_open_6 : decode cX2_open 6 = .ok (.getfield 9, 3) := by decide +kernel
theorem dX2_open_9 : decode cX2_open 9 = .ok (.iconst 0, 1) := by decide +kernel
theorem dX2_open_10 : decode cX2_open 10 = .ok (.aload_n 1, 1) := by decide +kernel
theorem dX2_open_11 : decode cX2_open 11 = .ok (.getfield 19, 3) := by decide +kernel
theorem dX2_open_14 : decode cX2_open 14 = .ok (.ifCond .le 10, 3) := by decide +kernel
theorem dX2_open_17 : decode cX2_open 17 = .ok (.aload_n 1, 1) := by decide +kernel
theorem dX2_open_18 : decode cX2_open 18 = .ok (.getfield 25, 3) := by decide +kernel
theorem dX2_open_21 : decode cX2_open 21 = .ok (.goto 4, 3) := by decide +kernel
theorem dX2_open_24 : decode cX2_open 24 = .ok (.iconst (-1), 1) := by decide +kernel
theorem dX2_open_25 : decode cX2_open 25 = .ok (.iastore, 1) := by decide +kernel
theorem dX2_open_26 : decode cX2_open 26 = .ok (.aload_n 0, 1) := by decide +kernel
theorem dX2_open_27 : decode cX2_open 27 = .ok (.getfield 9, 3) := by decide +kernel
theorem dX2_open_30 : decode cX2_open 30 = .ok (.iconst 1, 1) := by decide +kernel
theorem dX2_open_31 : decode cX2_open 31 = .ok (.iconst 0, 1) := by decide +kernel
theorem dX2_open_32 : decode cX2_open 32 = .ok (.iastore, 1) := by decide +kernel
theorem dX2_open_33 : decode cX2_open 33 = .ok (.aload_n 0, 1) := by decide +kernel
theorem dX2_open_34 : decode cX2_open 34 = .ok (.getfield 9, 3) := by decide +kernel
theorem dX2_open_37 : decode cX2_open 37 = .ok (.iconst 2, 1) := by decide +kernel
theorem dX2_open_38 : decode cX2_open 38 = .ok (.iconst 0, 1) := by decide +kernel
theorem dX2_open_39 : decode cX2_open 39 = .ok (.iastore, 1) := by decide +kernel
theorem dX2_open_40 : decode cX2_open 40 = .ok (.aload_n 0, 1) := by decide +kernel
theorem dX2_open_41 : decode cX2_open 41 = .ok (.getfield 9, 3) := by decide +kernel
theorem dX2_open_44 : decode cX2_open 44 = .ok (.iconst 3, 1) := by decide +kernel
theorem dX2_open_45 : decode cX2_open 45 = .ok (.aload_n 1, 1) := by decide +kernel
theorem dX2_open_46 : decode cX2_open 46 = .ok (.getfield 28, 3) := by decide +kernel
theorem dX2_open_49 : decode cX2_open 49 = .ok (.iastore, 1) := by decide +kernel
theorem dX2_open_50 : decode cX2_open 50 = .ok (.aload_n 0, 1) := by decide +kernel
theorem dX2_open_51 : decode cX2_open 51 = .ok (.getfield 9, 3) := by decide +kernel
theorem dX2_open_54 : decode cX2_open 54 = .ok (.iconst 4, 1) := by decide +kernel
theorem dX2_open_55 : decode cX2_open 55 = .ok (.aload_n 1, 1) := by decide +kernel
theorem dX2_open_56 : decode cX2_open 56 = .ok (.getfield 31, 3) := by decide +kernel
theorem dX2_open_59 : decode cX2_open 59 = .ok (.iastore, 1) := by decide +kernel
theorem dX2_open_60 : decode cX2_open 60 = .ok (.iconst 0, 1) := by decide +kernel
theorem dX2_open_61 : decode cX2_open 61 = .ok (.istore_n 2, 1) := by decide +kernel
theorem dX2_open_62 : decode cX2_open 62 = .ok (.iload_n 2, 1) := by decide +kernel
theorem dX2_open_63 : decode cX2_open 63 = .ok (.bipush 6, 2) := by decide +kernel
theorem dX2_open_65 : decode cX2_open 65 = .ok (.if_icmp .ge 65, 3) := by decide +kernel
theorem dX2_open_68 : decode cX2_open 68 = .ok (.aload_n 0, 1) := by decide +kernel
theorem dX2_open_69 : decode cX2_open 69 = .ok (.getfield 9, 3) := by decide +kernel
theorem dX2_open_72 : decode cX2_open 72 = .ok (.iconst 5, 1) := by decide +kernel
theorem dX2_open_73 : decode cX2_open 73 = .ok (.iload_n 2, 1) := by decide +kernel
theorem dX2_open_74 : decode cX2_open 74 = .ok (.iadd, 1) := by decide +kernel
theorem dX2_open_75 : decode cX2_open 75 = .ok (.iconst 0, 1) := by decide +kernel
theorem dX2_open_76 : decode cX2_open 76 = .ok (.iastore, 1) := by decide +kernel
theorem dX2_open_77 : decode cX2_open 77 = .ok (.aload_n 0, 1) := by decide +kernel
theorem dX2_open_78 : decode cX2_open 78 = .ok (.getfield 9, 3) := by decide +kernel
theorem dX2_open_81 : decode cX2_open 81 = .ok (.bipush 11, 2) := by decide +kernel
theorem dX2_open_83 : decode cX2_open 83 = .ok (.iload_n 2, 1) := by decide +kernel
theorem dX2_open_84 : decode cX2_open 84 = .ok (.iadd, 1) := by decide +kernel
theorem dX2_open_85 : decode cX2_open 85 = .ok (.iload_n 2, 1) := by decide +kernel
theorem dX2_open_86 : decode cX2_open 86 = .ok (.aload_n 1, 1) := by decide +kernel
theorem dX2_open_87 : decode cX2_open 87 = .ok (.getfield 34, 3) := by decide +kernel
theorem dX2_open_90 : decode cX2_open 90 = .ok (.if_icmp .ge 12, 3) := by decide +kernel
theorem dX2_open_93 : decode cX2_open 93 = .ok (.aload_n 1, 1) := by decide +kernel
theorem dX2_open_94 : decode cX2_open 94 = .ok (.getfield 37, 3) := by decide +kernel
theorem dX2_open_97 : decode cX2_open 97 = .ok (.iload_n 2, 1) := by decide +kernel
theorem dX2_open_98 : decode cX2_open 98 = .ok (.iaload, 1) := by decide +kernel
theorem dX2_open_99 : decode cX2_open 99 = .ok (.goto 4, 3) := by decide +kernel
theorem dX2_open_102 : decode cX2_open 102 = .ok (.iconst 0, 1) := by decide +kernel
theorem dX2_open_103 : decode cX2_open 103 = .ok (.iastore, 1) := by decide +kernel
theorem dX2_open_104 : decode cX2_open 104 = .ok (.aload_n 0, 1) := by decide +kernel
theorem dX2_open_105 : decode cX2_open 105 = .ok (.getfield 9, 3) := by decide +kernel
theorem dX2_open_108 : decode cX2_open 108 = .ok (.bipush 17, 2) := by decide +kernel
theorem dX2_open_110 : decode cX2_open 110 = .ok (.iload_n 2, 1) := by decide +kernel
theorem dX2_open_111 : decode cX2_open 111 = .ok (.iadd, 1) := by decide +kernel
theorem dX2_open_112 : decode cX2_open 112 = .ok (.iconst 0, 1) := by decide +kernel
theorem dX2_open_113 : decode cX2_open 113 = .ok (.iastore, 1) := by decide +kernel
theorem dX2_open_114 : decode cX2_open 114 = .ok (.aload_n 0, 1) := by decide +kernel
theorem dX2_open_115 : decode cX2_open 115 = .ok (.getfield 9, 3) := by decide +kernel
theorem dX2_open_118 : decode cX2_open 118 = .ok (.bipush 23, 2) := by decide +kernel
theorem dX2_open_120 : decode cX2_open 120 = .ok (.iload_n 2, 1) := by decide +kernel
theorem dX2_open_121 : decode cX2_open 121 = .ok (.iadd, 1) := by decide +kernel
theorem dX2_open_122 : decode cX2_open 122 = .ok (.iconst 0, 1) := by decide +kernel
theorem dX2_open_123 : decode cX2_open 123 = .ok (.iastore, 1) := by decide +kernel
theorem dX2_open_124 : decode cX2_open 124 = .ok (.iinc 2 1, 3) := by decide +kernel
theorem dX2_open_127 : decode cX2_open 127 = .ok (.goto (-65), 3) := by decide +kernel
theorem dX2_open_130 : decode cX2_open 130 = .ok (.return_, 1) := by decide +kernel
theorem wd_800 : (Cond.code ⟨"WebCourt$Court", "open", "(LWebCourt$Web;)V"⟩ prog_4_method_2_code (3 : Nat) (Option.none : Option FieldType)) ∈ gtb := gtb_c3 211 (by decide +kernel) rfl
theorem pf_RX2_15 {p : Program} {l : Launch} {e : Env} {R : Room} {s : State} {m : MethodId} {args : Array Value} {below : List Frame} {meth : Method} {c : Code} {H : Heap} {locs : List Loc} {cells slots : Nat} {Q : State → Prop} {cc : ByteArray} {pc nL : Nat} {ls : Array Slot} {rest : List Value} {D : va_G} {cy : Nat → ClassId} {A : Nat → Prop} {ws : va_W} {b : Nat} {fs : List Value} {v : Nat} {ws' : va_W} (C : Cx p s m args c cc nL RX2 D cy A) (hO : Wo D A ws s.heap H locs) (q0 : Nat) (he : ws[q0]? = some (b, .inr (2, fs))) (hlen : 1 < fs.length) (hw : ws.set q0 (b, .inr (2, fs.set 1 (.ref v))) = ws') (hdg : decode cc pc = .ok (.putfield 15, 3)) (kk : ∀ (H : Heap) (locs : List Loc), Wo D A ws' s.heap H locs → W p l e R s m args below meth c H locs cells slots Q (F0 m (pc + 3) ls rest)) : W p l e R s m args below meth c H locs cells slots Q (F0 m pc ls (.ref v :: .ref b :: rest)) := pF (k := 1) (ty := .object "WebCourt$Web") C hO q0 he rfl inFX2 (by decide) wd_358 rfl tyX2 tyX2_ok nmX2 rfl (by decide +kernel) rfl rfl hlen hw hdg kk
theorem wd_353 : (Cond.fieldLink "WebCourt$Court" (9 : Nat) "WebCourt$Court" "row" "[I") ∈ gtb := gtb_c2 4 (by decide +kernel) rfl
theorem gf_RX2_9 {p : Program} {l : Launch} {e : Env} {R : Room} {s : State} {m : MethodId} {args : Array Value} {below : List Frame} {meth : Method} {c : Code} {H : Heap} {locs : List Loc} {cells slots : Nat} {Q : State → Prop} {cc : ByteArray} {pc nL : Nat} {ls : Array Slot} {rest : List Value} {D : va_G} {cy : Nat → ClassId} {A : Nat → Prop} {ws : va_W} {b : Nat} {fs : List Value} {v : Value} (C : Cx p s m args c cc nL RX2 D cy A) (hO : Wo D A ws s.heap H locs) (q0 : Nat) (he : ws[q0]? = some (b, .inr (2, fs))) (hv : fs[0]? = some v) (hdg : decode cc pc = .ok (.getfield 9, 3)) (kk : W p l e R s m args below meth c H locs cells slots Q (F0 m (pc + 3) ls (v :: rest))) : W p l e R s m args below meth c H locs cells slots Q (F0 m pc ls (.ref b :: rest)) := gF (k := 0) C hO q0 he rfl inFX2 (by decide) wd_353 rfl hv hdg kk
theorem wd_285 : (Cond.fieldLink "WebCourt$Court" (28 : Nat) "WebCourt$Web" "draw" "I") ∈ gtb := gtb_c1 176 (by decide +kernel) rfl
theorem gf_RX2_28 {p : Program} {l : Launch} {e : Env} {R : Room} {s : State} {m : MethodId} {args : Array Value} {below : List Frame} {meth : Method} {c : Code} {H : Heap} {locs : List Loc} {cells slots : Nat} {Q : State → Prop} {cc : ByteArray} {pc nL : Nat} {ls : Array Slot} {rest : List Value} {D : va_G} {cy : Nat → ClassId} {A : Nat → Prop} {ws : va_W} {b : Nat} {fs : List Value} {v : Value} (C : Cx p s m args c cc nL RX2 D cy A) (hO : Wo D A ws s.heap H locs) (q0 : Nat) (he : ws[q0]? = some (b, .inr (9, fs))) (hv : fs[16]? = some v) (hdg : decode cc pc = .ok (.getfield 28, 3)) (kk : W p l e R s m args below meth c H locs cells slots Q (F0 m (pc + 3) ls (v :: rest))) : W p l e R s m args below meth c H locs cells slots Q (F0 m pc ls (.ref b :: rest)) := gF (k := 16) C hO q0 he rfl inFX9 (by decide) wd_285 rfl hv hdg kk
theorem wd_275 : (Cond.fieldLink "WebCourt$Court" (31 : Nat) "WebCourt$Web" "sticky" "I") ∈ gtb := gtb_c1 166 (by decide +kernel) rfl
theorem gf_RX2_31 {p : Program} {l : Launch} {e : Env} {R : Room} {s : State} {m : MethodId} {args : Array Value} {below : List Frame} {meth : Method} {c : Code} {H : Heap} {locs : List Loc} {cells slots : Nat} {Q : State → Prop} {cc : ByteArray} {pc nL : Nat} {ls : Array Slot} {rest : List Value} {D : va_G} {cy : Nat → ClassId} {A : Nat → Prop} {ws : va_W} {b : Nat} {fs : List Value} {v : Value} (C : Cx p s m args c cc nL RX2 D cy A) (hO : Wo D A ws s.heap H locs) (q0 : Nat) (he : ws[q0]? = some (b, .inr (9, fs))) (hv : fs[13]? = some v) (hdg : decode cc pc = .ok (.getfield 31, 3)) (kk : W p l e R s m args below meth c H locs cells slots Q (F0 m (pc + 3) ls (v :: rest))) : W p l e R s m args below meth c H locs cells slots Q (F0 m pc ls (.ref b :: rest)) := gF (k := 13) C hO q0 he rfl inFX9 (by decide) wd_275 rfl hv hdg kk
set_option maxHeartbeats 4000000 in
set_option maxRecDepth 100000 in
theorem T_X2_open (l : Launch) (D : va_G) (cy : Nat → ClassId) (a : Nat → Nat) (u : St) (hI_15_12 : fI u 15 12 = 0) (hI_15_13 : fI u 15 13 = 0) (hI_15_16 : fI u 15 16 = 0) (hI_15_9 : fI u 15 9 = 0)   : Mv l D cy (cW cy a) yX2_open (.code yX2_open cX2_open 3 none) (rmo 0 0) [.ref (a 28), .ref (a 15)] u (fun (u' : St) => fR u' 0 = a 15 ∧ fI u' 15 12 = 0) := by
  refine Mv.of (own := RX2) rfl (by decide) (Nat.le_of_ble_eq_true rfl) ?_
  intro p e s m below meth c A Q ls C hret hO hl
  obtain ⟨hx, hb, hml, hown, ht, hK, hA⟩ := id C
  have hl : lv_has ls 3 [(0, .ref (a 28)), (1, .ref (a 15))] := hl
  refine lv_aload_n hx hb dX2_open_0 rfl (lv_at hl 0 rfl) ?_
  refine lv_aload_n hx hb dX2_open_1 rfl (lv_at hl 1 rfl) ?_
  refine pf_RX2_15 C hO 28 cW_28 (Nat.le_of_ble_eq_true rfl) cW_s28_1 dX2_open_2 (fun H locs hO => ?_)
  refine lv_aload_n hx hb dX2_open_5 rfl (lv_at hl 0 rfl) ?_
  refine gf_RX2_9 (v := .ref (a 29)) C hO 28 cW_28 rfl dX2_open_6 ?_
  refine lv_iconst (v := 0) hx hb dX2_open_9 (by decide) ?_
  refine lv_aload_n hx hb dX2_open_10 rfl (lv_at hl 1 rfl) ?_
  refine gf_RX2_19 (v := .int 0) C hO 15 cW_15 (congrArg (fun z : Int32 => some (Value.int z)) hI_15_9) dX2_open_11 ?_
  refine bt_le (tgt := 24) (X := 0) hx hb dX2_open_14 (by decide) rfl (by omega) ?_
  refine lv_iconst (v := (-1)) hx hb dX2_open_24 (by decide) ?_
  refine aIs C hO 29 cW_29 (i_in (X := 0) rfl (by omega) (by omega)) cW_s29 dX2_open_25 (fun H locs hO => ?_)
  refine lv_aload_n hx hb dX2_open_26 rfl (lv_at hl 0 rfl) ?_
  refine gf_RX2_9 (v := .ref (a 29)) C hO 28 cW_28 rfl dX2_open_27 ?_
  refine lv_iconst (v := 1) hx hb dX2_open_30 (by decide) ?_
  refine lv_iconst (v := 0) hx hb dX2_open_31 (by decide) ?_
  refine aIs C hO 29 cW_29 (i_in (X := 1) rfl (by omega) (by omega)) cW_s29 dX2_open_32 (fun H locs hO => ?_)
  refine lv_aload_n hx hb dX2_open_33 rfl (lv_at hl 0 rfl) ?_
  refine gf_RX2_9 (v := .ref (a 29)) C hO 28 cW_28 rfl dX2_open_34 ?_
  refine lv_iconst (v := 2) hx hb dX2_open_37 (by decide) ?_
  refine lv_iconst (v := 0) hx hb dX2_open_38 (by decide) ?_
  refine aIs C hO 29 cW_29 (i_in (X := 2) rfl (by omega) (by omega)) cW_s29 dX2_open_39 (fun H locs hO => ?_)
  refine lv_aload_n hx hb dX2_open_40 rfl (lv_at hl 0 rfl) ?_
  refine gf_RX2_9 (v := .ref (a 29)) C hO 28 cW_28 rfl dX2_open_41 ?_
  refine lv_iconst (v := 3) hx hb dX2_open_44 (by decide) ?_
  refine lv_aload_n hx hb dX2_open_45 rfl (lv_at hl 1 rfl) ?_
  refine gf_RX2_28 (v := .int 0) C hO 15 cW_15 (congrArg (fun z : Int32 => some (Value.int z)) hI_15_16) dX2_open_46 ?_
  refine aIs C hO 29 cW_29 (i_in (X := 3) rfl (by omega) (by omega)) cW_s29 dX2_open_49 (fun H locs hO => ?_)
  refine lv_aload_n hx hb dX2_open_50 rfl (lv_at hl 0 rfl) ?_
  refine gf_RX2_9 (v := .ref (a 29)) C hO 28 cW_28 rfl dX2_open_51 ?_
  refine lv_iconst (v := 4) hx hb dX2_open_54 (by decide) ?_
  refine lv_aload_n hx hb dX2_open_55 rfl (lv_at hl 1 rfl) ?_
  refine gf_RX2_31 (v := .int 0) C hO 15 cW_15 (congrArg (fun z : Int32 => some (Value.int z)) hI_15_13) dX2_open_56 ?_
  refine aIs C hO 29 cW_29 (i_in (X := 4) rfl (by omega) (by omega)) cW_s29 dX2_open_59 (fun H locs hO => ?_)
  refine lv_iconst (v := 0) hx hb dX2_open_60 (by decide) ?_
  refine lv_istore_n (lv' := [(2, .int 0), (0, .ref (a 28)), (1, .ref (a 15))]) hx hb dX2_open_61 rfl hl (by decide) rfl (fun ls hl => ?_)
  refine lv_iload_n hx hb dX2_open_62 rfl (lv_at hl 0 rfl) ?_
  refine lv_bipush (v := 6) hx hb dX2_open_63 (by decide) ?_
  refine cn_ge (X := 0) (Y := 6) hx hb dX2_open_65 rfl rfl (by omega) ?_ (tgt := 130) (by decide)
  refine lv_aload_n hx hb dX2_open_68 rfl (lv_at hl 1 rfl) ?_
  refine gf_RX2_9 (v := .ref (a 29)) C hO 28 cW_28 rfl dX2_open_69 ?_
  refine lv_iconst (v := 5) hx hb dX2_open_72 (by decide) ?_
  refine lv_iload_n hx hb dX2_open_73 rfl (lv_at hl 0 rfl) ?_
  refine lv_iadd hx hb dX2_open_74 ?_
  refine tE (y := 5) rfl ?_
  refine lv_iconst (v := 0) hx hb dX2_open_75 (by decide) ?_
  refine aIs C hO 29 cW_29 (i_in (X := 5) rfl (by omega) (by omega)) cW_s29 dX2_open_76 (fun H locs hO => ?_)
  refine lv_aload_n hx hb dX2_open_77 rfl (lv_at hl 1 rfl) ?_
  refine gf_RX2_9 (v := .ref (a 29)) C hO 28 cW_28 rfl dX2_open_78 ?_
  refine lv_bipush (v := 11) hx hb dX2_open_81 (by decide) ?_
  refine lv_iload_n hx hb dX2_open_83 rfl (lv_at hl 0 rfl) ?_
  refine lv_iadd hx hb dX2_open_84 ?_
  refine tE (y := 11) rfl ?_
  refine lv_iload_n hx hb dX2_open_85 rfl (lv_at hl 0 rfl) ?_
  refine lv_aload_n hx hb dX2_open_86 rfl (lv_at hl 2 rfl) ?_
  refine gf_RX2_34 (v := .int 0) C hO 15 cW_15 (congrArg (fun z : Int32 => some (Value.int z)) hI_15_12) dX2_open_87 ?_
  refine ct_ge (tgt := 102) (X := 0) (Y := 0) hx hb dX2_open_90 (by decide) rfl rfl (by omega) ?_
  refine lv_iconst (v := 0) hx hb dX2_open_102 (by decide) ?_
  refine aIs C hO 29 cW_29 (i_in (X := 11) rfl (by omega) (by omega)) cW_s29 dX2_open_103 (fun H locs hO => ?_)
  refine lv_aload_n hx hb dX2_open_104 rfl (lv_at hl 1 rfl) ?_
  refine gf_RX2_9 (v := .ref (a 29)) C hO 28 cW_28 rfl dX2_open_105 ?_
  refine lv_bipush (v := 17) hx hb dX2_open_108 (by decide) ?_
  refine lv_iload_n hx hb dX2_open_110 rfl (lv_at hl 0 rfl) ?_
  refine lv_iadd hx hb dX2_open_111 ?_
  refine tE (y := 17) rfl ?_
  refine lv_iconst (v := 0) hx hb dX2_open_112 (by decide) ?_
  refine aIs C hO 29 cW_29 (i_in (X := 17) rfl (by omega) (by omega)) cW_s29 dX2_open_113 (fun H locs hO => ?_)
  refine lv_aload_n hx hb dX2_open_114 rfl (lv_at hl 1 rfl) ?_
  refine gf_RX2_9 (v := .ref (a 29)) C hO 28 cW_28 rfl dX2_open_115 ?_
  refine lv_bipush (v := 23) hx hb dX2_open_118 (by decide) ?_
  refine lv_iload_n hx hb dX2_open_120 rfl (lv_at hl 0 rfl) ?_
  refine lv_iadd hx hb dX2_open_121 ?_
  refine tE (y := 23) rfl ?_
  refine lv_iconst (v := 0) hx hb dX2_open_122 (by decide) ?_
  refine aIs C hO 29 cW_29 (i_in (X := 23) rfl (by omega) (by omega)) cW_s29 dX2_open_123 (fun H locs hO => ?_)
  refine lv_iinc (v := 1) (lv' := [(2, .int 1), (0, .ref (a 28)), (1, .ref (a 15))]) hx hb dX2_open_124 hl (k := 0) rfl rfl (by decide) rfl (fun ls hl => ?_)
  refine lv_goto (tgt := 62) hx hb dX2_open_127 (by decide) ?_
  refine lv_iload_n hx hb dX2_open_62 rfl (lv_at hl 0 rfl) ?_
  refine lv_bipush (v := 6) hx hb dX2_open_63 (by decide) ?_
  refine cn_ge (X := 1) (Y := 6) hx hb dX2_open_65 rfl rfl (by omega) ?_ (tgt := 130) (by decide)
  refine lv_aload_n hx hb dX2_open_68 rfl (lv_at hl 1 rfl) ?_
  refine gf_RX2_9 (v := .ref (a 29)) C hO 28 cW_28 rfl dX2_open_69 ?_
  refine lv_iconst (v := 5) hx hb dX2_open_72 (by decide) ?_
  refine lv_iload_n hx hb dX2_open_73 rfl (lv_at hl 0 rfl) ?_
  refine lv_iadd hx hb dX2_open_74 ?_
  refine tE (y := 6) rfl ?_
  refine lv_iconst (v := 0) hx hb dX2_open_75 (by decide) ?_
  refine aIs C hO 29 cW_29 (i_in (X := 6) rfl (by omega) (by omega)) cW_s29 dX2_open_76 (fun H locs hO => ?_)
  refine lv_aload_n hx hb dX2_open_77 rfl (lv_at hl 1 rfl) ?_
  refine gf_RX2_9 (v := .ref (a 29)) C hO 28 cW_28 rfl dX2_open_78 ?_
  refine lv_bipush (v := 11) hx hb dX2_open_81 (by decide) ?_
  refine lv_iload_n hx hb dX2_open_83 rfl (lv_at hl 0 rfl) ?_
  refine lv_iadd hx hb dX2_open_84 ?_
  refine tE (y := 12) rfl ?_
  refine lv_iload_n hx hb dX2_open_85 rfl (lv_at hl 0 rfl) ?_
  refine lv_aload_n hx hb dX2_open_86 rfl (lv_at hl 2 rfl) ?_
  refine gf_RX2_34 (v := .int 0) C hO 15 cW_15 (congrArg (fun z : Int32 => some (Value.int z)) hI_15_12) dX2_open_87 ?_
  refine ct_ge (tgt := 102) (X := 1) (Y := 0) hx hb dX2_open_90 (by decide) rfl rfl (by omega) ?_
  refine lv_iconst (v := 0) hx hb dX2_open_102 (by decide) ?_
  refine aIs C hO 29 cW_29 (i_in (X := 12) rfl (by omega) (by omega)) cW_s29 dX2_open_103 (fun H locs hO => ?_)
  refine lv_aload_n hx hb dX2_open_104 rfl (lv_at hl 1 rfl) ?_
  refine gf_RX2_9 (v := .ref (a 29)) C hO 28 cW_28 rfl dX2_open_105 ?_
  refine lv_bipush (v := 17) hx hb dX2_open_108 (by decide) ?_
  refine lv_iload_n hx hb dX2_open_110 rfl (lv_at hl 0 rfl) ?_
  refine lv_iadd hx hb dX2_open_111 ?_
  refine tE (y := 18) rfl ?_
  refine lv_iconst (v := 0) hx hb dX2_open_112 (by decide) ?_
  refine aIs C hO 29 cW_29 (i_in (X := 18) rfl (by omega) (by omega)) cW_s29 dX2_open_113 (fun H locs hO => ?_)
  refine lv_aload_n hx hb dX2_open_114 rfl (lv_at hl 1 rfl) ?_
  refine gf_RX2_9 (v := .ref (a 29)) C hO 28 cW_28 rfl dX2_open_115 ?_
  refine lv_bipush (v := 23) hx hb dX2_open_118 (by decide) ?_
  refine lv_iload_n hx hb dX2_open_120 rfl (lv_at hl 0 rfl) ?_
  refine lv_iadd hx hb dX2_open_121 ?_
  refine tE (y := 24) rfl ?_
  refine lv_iconst (v := 0) hx hb dX2_open_122 (by decide) ?_
  refine aIs C hO 29 cW_29 (i_in (X := 24) rfl (by omega) (by omega)) cW_s29 dX2_open_123 (fun H locs hO => ?_)
  refine lv_iinc (v := 2) (lv' := [(2, .int 2), (0, .ref (a 28)), (1, .ref (a 15))]) hx hb dX2_open_124 hl (k := 0) rfl rfl (by decide) rfl (fun ls hl => ?_)
  refine lv_goto (tgt := 62) hx hb dX2_open_127 (by decide) ?_
  refine lv_iload_n hx hb dX2_open_62 rfl (lv_at hl 0 rfl) ?_
  refine lv_bipush (v := 6) hx hb dX2_open_63 (by decide) ?_
  refine cn_ge (X := 2) (Y := 6) hx hb dX2_open_65 rfl rfl (by omega) ?_ (tgt := 130) (by decide)
  refine lv_aload_n hx hb dX2_open_68 rfl (lv_at hl 1 rfl) ?_
  refine gf_RX2_9 (v := .ref (a 29)) C hO 28 cW_28 rfl dX2_open_69 ?_
  refine lv_iconst (v := 5) hx hb dX2_open_72 (by decide) ?_
  refine lv_iload_n hx hb dX2_open_73 rfl (lv_at hl 0 rfl) ?_
  refine lv_iadd hx hb dX2_open_74 ?_
  refine tE (y := 7) rfl ?_
  refine lv_iconst (v := 0) hx hb dX2_open_75 (by decide) ?_
  refine aIs C hO 29 cW_29 (i_in (X := 7) rfl (by omega) (by omega)) cW_s29 dX2_open_76 (fun H locs hO => ?_)
  refine lv_aload_n hx hb dX2_open_77 rfl (lv_at hl 1 rfl) ?_
  refine gf_RX2_9 (v := .ref (a 29)) C hO 28 cW_28 rfl dX2_open_78 ?_
  refine lv_bipush (v := 11) hx hb dX2_open_81 (by decide) ?_
  refine lv_iload_n hx hb dX2_open_83 rfl (lv_at hl 0 rfl) ?_
  refine lv_iadd hx hb dX2_open_84 ?_
  refine tE (y := 13) rfl ?_
  refine lv_iload_n hx hb dX2_open_85 rfl (lv_at hl 0 rfl) ?_
  refine lv_aload_n hx hb dX2_open_86 rfl (lv_at hl 2 rfl) ?_
  refine gf_RX2_34 (v := .int 0) C hO 15 cW_15 (congrArg (fun z : Int32 => some (Value.int z)) hI_15_12) dX2_open_87 ?_
  refine ct_ge (tgt := 102) (X := 2) (Y := 0) hx hb dX2_open_90 (by decide) rfl rfl (by omega) ?_
  refine lv_iconst (v := 0) hx hb dX2_open_102 (by decide) ?_
  refine aIs C hO 29 cW_29 (i_in (X := 13) rfl (by omega) (by omega)) cW_s29 dX2_open_103 (fun H locs hO => ?_)
  refine lv_aload_n hx hb dX2_open_104 rfl (lv_at hl 1 rfl) ?_
  refine gf_RX2_9 (v := .ref (a 29)) C hO 28 cW_28 rfl dX2_open_105 ?_
  refine lv_bipush (v := 17) hx hb dX2_open_108 (by decide) ?_
  refine lv_iload_n hx hb dX2_open_110 rfl (lv_at hl 0 rfl) ?_
  refine lv_iadd hx hb dX2_open_111 ?_
  refine tE (y := 19) rfl ?_
  refine lv_iconst (v := 0) hx hb dX2_open_112 (by decide) ?_
  refine aIs C hO 29 cW_29 (i_in (X := 19) rfl (by omega) (by omega)) cW_s29 dX2_open_113 (fun H locs hO => ?_)
  refine lv_aload_n hx hb dX2_open_114 rfl (lv_at hl 1 rfl) ?_
  refine gf_RX2_9 (v := .ref (a 29)) C hO 28 cW_28 rfl dX2_open_115 ?_
  refine lv_bipush (v := 23) hx hb dX2_open_118 (by decide) ?_
  refine lv_iload_n hx hb dX2_open_120 rfl (lv_at hl 0 rfl) ?_
  refine lv_iadd hx hb dX2_open_121 ?_
  refine tE (y := 25) rfl ?_
  refine lv_iconst (v := 0) hx hb dX2_open_122 (by decide) ?_
  refine aIs C hO 29 cW_29 (i_in (X := 25) rfl (by omega) (by omega)) cW_s29 dX2_open_123 (fun H locs hO => ?_)
  refine lv_iinc (v := 3) (lv' := [(2, .int 3), (0, .ref (a 28)), (1, .ref (a 15))]) hx hb dX2_open_124 hl (k := 0) rfl rfl (by decide) rfl (fun ls hl => ?_)
  refine lv_goto (tgt := 62) hx hb dX2_open_127 (by decide) ?_
  refine lv_iload_n hx hb dX2_open_62 rfl (lv_at hl 0 rfl) ?_
  refine lv_bipush (v := 6) hx hb dX2_open_63 (by decide) ?_
  refine cn_ge (X := 3) (Y := 6) hx hb dX2_open_65 rfl rfl (by omega) ?_ (tgt := 130) (by decide)
  refine lv_aload_n hx hb dX2_open_68 rfl (lv_at hl 1 rfl) ?_
  refine gf_RX2_9 (v := .ref (a 29)) C hO 28 cW_28 rfl dX2_open_69 ?_
  refine lv_iconst (v := 5) hx hb dX2_open_72 (by decide) ?_
  refine lv_iload_n hx hb dX2_open_73 rfl (lv_at hl 0 rfl) ?_
  refine lv_iadd hx hb dX2_open_74 ?_
  refine tE (y := 8) rfl ?_
  refine lv_iconst (v := 0) hx hb dX2_open_75 (by decide) ?_
  refine aIs C hO 29 cW_29 (i_in (X := 8) rfl (by omega) (by omega)) cW_s29 dX2_open_76 (fun H locs hO => ?_)
  refine lv_aload_n hx hb dX2_open_77 rfl (lv_at hl 1 rfl) ?_
  refine gf_RX2_9 (v := .ref (a 29)) C hO 28 cW_28 rfl dX2_open_78 ?_
  refine lv_bipush (v := 11) hx hb dX2_open_81 (by decide) ?_
  refine lv_iload_n hx hb dX2_open_83 rfl (lv_at hl 0 rfl) ?_
  refine lv_iadd hx hb dX2_open_84 ?_
  refine tE (y := 14) rfl ?_
  refine lv_iload_n hx hb dX2_open_85 rfl (lv_at hl 0 rfl) ?_
  refine lv_aload_n hx hb dX2_open_86 rfl (lv_at hl 2 rfl) ?_
  refine gf_RX2_34 (v := .int 0) C hO 15 cW_15 (congrArg (fun z : Int32 => some (Value.int z)) hI_15_12) dX2_open_87 ?_
  refine ct_ge (tgt := 102) (X := 3) (Y := 0) hx hb dX2_open_90 (by decide) rfl rfl (by omega) ?_
  refine lv_iconst (v := 0) hx hb dX2_open_102 (by decide) ?_
  refine aIs C hO 29 cW_29 (i_in (X := 14) rfl (by omega) (by omega)) cW_s29 dX2_open_103 (fun H locs hO => ?_)
  refine lv_aload_n hx hb dX2_open_104 rfl (lv_at hl 1 rfl) ?_
  refine gf_RX2_9 (v := .ref (a 29)) C hO 28 cW_28 rfl dX2_open_105 ?_
  refine lv_bipush (v := 17) hx hb dX2_open_108 (by decide) ?_
  refine lv_iload_n hx hb dX2_open_110 rfl (lv_at hl 0 rfl) ?_
  refine lv_iadd hx hb dX2_open_111 ?_
  refine tE (y := 20) rfl ?_
  refine lv_iconst (v := 0) hx hb dX2_open_112 (by decide) ?_
  refine aIs C hO 29 cW_29 (i_in (X := 20) rfl (by omega) (by omega)) cW_s29 dX2_open_113 (fun H locs hO => ?_)
  refine lv_aload_n hx hb dX2_open_114 rfl (lv_at hl 1 rfl) ?_
  refine gf_RX2_9 (v := .ref (a 29)) C hO 28 cW_28 rfl dX2_open_115 ?_
  refine lv_bipush (v := 23) hx hb dX2_open_118 (by decide) ?_
  refine lv_iload_n hx hb dX2_open_120 rfl (lv_at hl 0 rfl) ?_
  refine lv_iadd hx hb dX2_open_121 ?_
  refine tE (y := 26) rfl ?_
  refine lv_iconst (v := 0) hx hb dX2_open_122 (by decide) ?_
  refine aIs C hO 29 cW_29 (i_in (X := 26) rfl (by omega) (by omega)) cW_s29 dX2_open_123 (fun H locs hO => ?_)
  refine lv_iinc (v := 4) (lv' := [(2, .int 4), (0, .ref (a 28)), (1, .ref (a 15))]) hx hb dX2_open_124 hl (k := 0) rfl rfl (by decide) rfl (fun ls hl => ?_)
  refine lv_goto (tgt := 62) hx hb dX2_open_127 (by decide) ?_
  refine lv_iload_n hx hb dX2_open_62 rfl (lv_at hl 0 rfl) ?_
  refine lv_bipush (v := 6) hx hb dX2_open_63 (by decide) ?_
  refine cn_ge (X := 4) (Y := 6) hx hb dX2_open_65 rfl rfl (by omega) ?_ (tgt := 130) (by decide)
  refine lv_aload_n hx hb dX2_open_68 rfl (lv_at hl 1 rfl) ?_
  refine gf_RX2_9 (v := .ref (a 29)) C hO 28 cW_28 rfl dX2_open_69 ?_
  refine lv_iconst (v := 5) hx hb dX2_open_72 (by decide) ?_
  refine lv_iload_n hx hb dX2_open_73 rfl (lv_at hl 0 rfl) ?_
  refine lv_iadd hx hb dX2_open_74 ?_
  refine tE (y := 9) rfl ?_
  refine lv_iconst (v := 0) hx hb dX2_open_75 (by decide) ?_
  refine aIs C hO 29 cW_29 (i_in (X := 9) rfl (by omega) (by omega)) cW_s29 dX2_open_76 (fun H locs hO => ?_)
  refine lv_aload_n hx hb dX2_open_77 rfl (lv_at hl 1 rfl) ?_
  refine gf_RX2_9 (v := .ref (a 29)) C hO 28 cW_28 rfl dX2_open_78 ?_
  refine lv_bipush (v := 11) hx hb dX2_open_81 (by decide) ?_
  refine lv_iload_n hx hb dX2_open_83 rfl (lv_at hl 0 rfl) ?_
  refine lv_iadd hx hb dX2_open_84 ?_
  refine tE (y := 15) rfl ?_
  refine lv_iload_n hx hb dX2_open_85 rfl (lv_at hl 0 rfl) ?_
  refine lv_aload_n hx hb dX2_open_86 rfl (lv_at hl 2 rfl) ?_
  refine gf_RX2_34 (v := .int 0) C hO 15 cW_15 (congrArg (fun z : Int32 => some (Value.int z)) hI_15_12) dX2_open_87 ?_
  refine ct_ge (tgt := 102) (X := 4) (Y := 0) hx hb dX2_open_90 (by decide) rfl rfl (by omega) ?_
  refine lv_iconst (v := 0) hx hb dX2_open_102 (by decide) ?_
  refine aIs C hO 29 cW_29 (i_in (X := 15) rfl (by omega) (by omega)) cW_s29 dX2_open_103 (fun H locs hO => ?_)
  refine lv_aload_n hx hb dX2_open_104 rfl (lv_at hl 1 rfl) ?_
  refine gf_RX2_9 (v := .ref (a 29)) C hO 28 cW_28 rfl dX2_open_105 ?_
  refine lv_bipush (v := 17) hx hb dX2_open_108 (by decide) ?_
  refine lv_iload_n hx hb dX2_open_110 rfl (lv_at hl 0 rfl) ?_
  refine lv_iadd hx hb dX2_open_111 ?_
  refine tE (y := 21) rfl ?_
  refine lv_iconst (v := 0) hx hb dX2_open_112 (by decide) ?_
  refine aIs C hO 29 cW_29 (i_in (X := 21) rfl (by omega) (by omega)) cW_s29 dX2_open_113 (fun H locs hO => ?_)
  refine lv_aload_n hx hb dX2_open_114 rfl (lv_at hl 1 rfl) ?_
  refine gf_RX2_9 (v := .ref (a 29)) C hO 28 cW_28 rfl dX2_open_115 ?_
  refine lv_bipush (v := 23) hx hb dX2_open_118 (by decide) ?_
  refine lv_iload_n hx hb dX2_open_120 rfl (lv_at hl 0 rfl) ?_
  refine lv_iadd hx hb dX2_open_121 ?_
  refine tE (y := 27) rfl ?_
  refine lv_iconst (v := 0) hx hb dX2_open_122 (by decide) ?_
  refine aIs C hO 29 cW_29 (i_in (X := 27) rfl (by omega) (by omega)) cW_s29 dX2_open_123 (fun H locs hO => ?_)
  refine lv_iinc (v := 5) (lv' := [(2, .int 5), (0, .ref (a 28)), (1, .ref (a 15))]) hx hb dX2_open_124 hl (k := 0) rfl rfl (by decide) rfl (fun ls hl => ?_)
  refine lv_goto (tgt := 62) hx hb dX2_open_127 (by decide) ?_
  refine lv_iload_n hx hb dX2_open_62 rfl (lv_at hl 0 rfl) ?_
  refine lv_bipush (v := 6) hx hb dX2_open_63 (by decide) ?_
  refine cn_ge (X := 5) (Y := 6) hx hb dX2_open_65 rfl rfl (by omega) ?_ (tgt := 130) (by decide)
  refine lv_aload_n hx hb dX2_open_68 rfl (lv_at hl 1 rfl) ?_
  refine gf_RX2_9 (v := .ref (a 29)) C hO 28 cW_28 rfl dX2_open_69 ?_
  refine lv_iconst (v := 5) hx hb dX2_open_72 (by decide) ?_
  refine lv_iload_n hx hb dX2_open_73 rfl (lv_at hl 0 rfl) ?_
  refine lv_iadd hx hb dX2_open_74 ?_
  refine tE (y := 10) rfl ?_
  refine lv_iconst (v := 0) hx hb dX2_open_75 (by decide) ?_
  refine aIs C hO 29 cW_29 (i_in (X := 10) rfl (by omega) (by omega)) cW_s29 dX2_open_76 (fun H locs hO => ?_)
  refine lv_aload_n hx hb dX2_open_77 rfl (lv_at hl 1 rfl) ?_
  refine gf_RX2_9 (v := .ref (a 29)) C hO 28 cW_28 rfl dX2_open_78 ?_
  refine lv_bipush (v := 11) hx hb dX2_open_81 (by decide) ?_
  refine lv_iload_n hx hb dX2_open_83 rfl (lv_at hl 0 rfl) ?_
  refine lv_iadd hx hb dX2_open_84 ?_
  refine tE (y := 16) rfl ?_
  refine lv_iload_n hx hb dX2_open_85 rfl (lv_at hl 0 rfl) ?_
  refine lv_aload_n hx hb dX2_open_86 rfl (lv_at hl 2 rfl) ?_
  refine gf_RX2_34 (v := .int 0) C hO 15 cW_15 (congrArg (fun z : Int32 => some (Value.int z)) hI_15_12) dX2_open_87 ?_
  refine ct_ge (tgt := 102) (X := 5) (Y := 0) hx hb dX2_open_90 (by decide) rfl rfl (by omega) ?_
  refine lv_iconst (v := 0) hx hb dX2_open_102 (by decide) ?_
  refine aIs C hO 29 cW_29 (i_in (X := 16) rfl (by omega) (by omega)) cW_s29 dX2_open_103 (fun H locs hO => ?_)
  refine lv_aload_n hx hb dX2_open_104 rfl (lv_at hl 1 rfl) ?_
  refine gf_RX2_9 (v := .ref (a 29)) C hO 28 cW_28 rfl dX2_open_105 ?_
  refine lv_bipush (v := 17) hx hb dX2_open_108 (by decide) ?_
  refine lv_iload_n hx hb dX2_open_110 rfl (lv_at hl 0 rfl) ?_
  refine lv_iadd hx hb dX2_open_111 ?_
  refine tE (y := 22) rfl ?_
  refine lv_iconst (v := 0) hx hb dX2_open_112 (by decide) ?_
  refine aIs C hO 29 cW_29 (i_in (X := 22) rfl (by omega) (by omega)) cW_s29 dX2_open_113 (fun H locs hO => ?_)
  refine lv_aload_n hx hb dX2_open_114 rfl (lv_at hl 1 rfl) ?_
  refine gf_RX2_9 (v := .ref (a 29)) C hO 28 cW_28 rfl dX2_open_115 ?_
  refine lv_bipush (v := 23) hx hb dX2_open_118 (by decide) ?_
  refine lv_iload_n hx hb dX2_open_120 rfl (lv_at hl 0 rfl) ?_
  refine lv_iadd hx hb dX2_open_121 ?_
  refine tE (y := 28) rfl ?_
  refine lv_iconst (v := 0) hx hb dX2_open_122 (by decide) ?_
  refine aIs C hO 29 cW_29 (i_in (X := 28) rfl (by omega) (by omega)) cW_s29 dX2_open_123 (fun H locs hO => ?_)
  refine lv_iinc (v := 6) (lv' := [(2, .int 6), (0, .ref (a 28)), (1, .ref (a 15))]) hx hb dX2_open_124 hl (k := 0) rfl rfl (by decide) rfl (fun ls hl => ?_)
  refine lv_goto (tgt := 62) hx hb dX2_open_127 (by decide) ?_
  refine lv_iload_n hx hb dX2_open_62 rfl (lv_at hl 0 rfl) ?_
  refine lv_bipush (v := 6) hx hb dX2_open_63 (by decide) ?_
  refine ct_ge (tgt := 130) (X := 6) (Y := 6) hx hb dX2_open_65 (by decide) rfl rfl (by omega) ?_
  refine hret _ _ _ _ _ dX2_open_130 ?_ hO
  exact ⟨rfl, hI_15_12⟩
theorem dX0_clear_0 : decode cX0_clear 0 = .ok (.aload_n 0, 1) := by decide +kernel
theorem dX0_clear_1 : decode cX0_clear 1 = .ok (.iconst 0, 1) := by decide +kernel
theorem dX0_clear_2 : decode cX0_clear 2 = .ok (.putfield 16, 3) := by decide +kernel
theorem dX0_clear_5 : decode cX0_clear 5 = .ok (.aload_n 0, 1) := by decide +kernel
theorem dX0_clear_6 : decode cX0_clear 6 = .ok (.iconst 0, 1) := by decide +kernel
theorem dX0_clear_7 : decode cX0_clear 7 = .ok (.putfield 20, 3) := by decide +kernel
theorem dX0_clear_10 : decode cX0_clear 10 = .ok (.return_, 1) := by decide +kernel
theorem wd_804 : (Cond.code ⟨"WebCourt$Acts", "clear", "()V"⟩ prog_2_method_2_code (1 : Nat) (Option.none : Option FieldType)) ∈ gtb := gtb_c3 215 (by decide +kernel) rfl
theorem pf_RX0_16 {p : Program} {l : Launch} {e : Env} {R : Room} {s : State} {m : MethodId} {args : Array Value} {below : List Frame} {meth : Method} {c : Code} {H : Heap} {locs : List Loc} {cells slots : Nat} {Q : State → Prop} {cc : ByteArray} {pc nL : Nat} {ls : Array Slot} {rest : List Value} {D : va_G} {cy : Nat → ClassId} {A : Nat → Prop} {ws : va_W} {b : Nat} {fs : List Value} {v : Int32} {ws' : va_W} (C : Cx p s m args c cc nL RX0 D cy A) (hO : Wo D A ws s.heap H locs) (q0 : Nat) (he : ws[q0]? = some (b, .inr (0, fs))) (hlen : 2 < fs.length) (hw : ws.set q0 (b, .inr (0, fs.set 2 (.int v))) = ws') (hdg : decode cc pc = .ok (.putfield 16, 3)) (kk : ∀ (H : Heap) (locs : List Loc), Wo D A ws' s.heap H locs → W p l e R s m args below meth c H locs cells slots Q (F0 m (pc + 3) ls rest)) : W p l e R s m args below meth c H locs cells slots Q (F0 m pc ls (.int v :: .ref b :: rest)) := pF (k := 2) (ty := .int) C hO q0 he rfl inFX0 (by decide) wd_378 rfl tyX0 tyX0_ok nmX0 rfl (by decide +kernel) rfl rfl hlen hw hdg kk
theorem pf_RX0_20 {p : Program} {l : Launch} {e : Env} {R : Room} {s : State} {m : MethodId} {args : Array Value} {below : List Frame} {meth : Method} {c : Code} {H : Heap} {locs : List Loc} {cells slots : Nat} {Q : State → Prop} {cc : ByteArray} {pc nL : Nat} {ls : Array Slot} {rest : List Value} {D : va_G} {cy : Nat → ClassId} {A : Nat → Prop} {ws : va_W} {b : Nat} {fs : List Value} {v : Int32} {ws' : va_W} (C : Cx p s m args c cc nL RX0 D cy A) (hO : Wo D A ws s.heap H locs) (q0 : Nat) (he : ws[q0]? = some (b, .inr (0, fs))) (hlen : 3 < fs.length) (hw : ws.set q0 (b, .inr (0, fs.set 3 (.int v))) = ws') (hdg : decode cc pc = .ok (.putfield 20, 3)) (kk : ∀ (H : Heap) (locs : List Loc), Wo D A ws' s.heap H locs → W p l e R s m args below meth c H locs cells slots Q (F0 m (pc + 3) ls rest)) : W p l e R s m args below meth c H locs cells slots Q (F0 m pc ls (.int v :: .ref b :: rest)) := pF (k := 3) (ty := .int) C hO q0 he rfl inFX0 (by decide) wd_380 rfl tyX0 tyX0_ok nmX0 rfl (by decide +kernel) rfl rfl hlen hw hdg kk
set_option maxHeartbeats 4000000 in
set_option maxRecDepth 100000 in
theorem T_X0_clear (l : Launch) (D : va_G) (cy : Nat → ClassId) (a : Nat → Nat) (u : St)    : Mv l D cy (cW cy a) yX0_clear (.code yX0_clear cX0_clear 1 none) (rmo 0 0) [.ref (a 30)] u (fun (u' : St) => u' = (sI (sI u 30 2 0) 30 3 0)) := by
  refine Mv.of (own := RX0) rfl (by decide) (Nat.le_of_ble_eq_true rfl) ?_
  intro p e s m below meth c A Q ls C hret hO hl
  obtain ⟨hx, hb, hml, hown, ht, hK, hA⟩ := id C
  have hl : lv_has ls 1 [(0, .ref (a 30))] := hl
  refine lv_aload_n hx hb dX0_clear_0 rfl (lv_at hl 0 rfl) ?_
  refine lv_iconst (v := 0) hx hb dX0_clear_1 (by decide) ?_
  refine pf_RX0_16 C hO 30 cW_30 (Nat.le_of_ble_eq_true rfl) cW_s30_2 dX0_clear_2 (fun H locs hO => ?_)
  refine lv_aload_n hx hb dX0_clear_5 rfl (lv_at hl 0 rfl) ?_
  refine lv_iconst (v := 0) hx hb dX0_clear_6 (by decide) ?_
  refine pf_RX0_20 C hO 30 cW_30 (Nat.le_of_ble_eq_true rfl) cW_s30_3 dX0_clear_7 (fun H locs hO => ?_)
  refine hret _ _ _ _ _ dX0_clear_10 ?_ hO
  exact rfl
theorem dX3_clear_0 : decode cX3_clear 0 = .ok (.aload_n 0, 1) := by decide +kernel
theorem dX3_clear_1 : decode cX3_clear 1 = .ok (.iconst 0, 1) := by decide +kernel
theorem dX3_clear_2 : decode cX3_clear 2 = .ok (.putfield 28, 3) := by decide +kernel
theorem dX3_clear_5 : decode cX3_clear 5 = .ok (.return_, 1) := by decide +kernel
theorem wd_808 : (Cond.code ⟨"WebCourt$Hearsay", "clear", "()V"⟩ prog_5_method_2_code (1 : Nat) (Option.none : Option FieldType)) ∈ gtb := gtb_c3 219 (by decide +kernel) rfl
theorem pf_RX3_28 {p : Program} {l : Launch} {e : Env} {R : Room} {s : State} {m : MethodId} {args : Array Value} {below : List Frame} {meth : Method} {c : Code} {H : Heap} {locs : List Loc} {cells slots : Nat} {Q : State → Prop} {cc : ByteArray} {pc nL : Nat} {ls : Array Slot} {rest : List Value} {D : va_G} {cy : Nat → ClassId} {A : Nat → Prop} {ws : va_W} {b : Nat} {fs : List Value} {v : Int32} {ws' : va_W} (C : Cx p s m args c cc nL RX3 D cy A) (hO : Wo D A ws s.heap H locs) (q0 : Nat) (he : ws[q0]? = some (b, .inr (3, fs))) (hlen : 5 < fs.length) (hw : ws.set q0 (b, .inr (3, fs.set 5 (.int v))) = ws') (hdg : decode cc pc = .ok (.putfield 28, 3)) (kk : ∀ (H : Heap) (locs : List Loc), Wo D A ws' s.heap H locs → W p l e R s m args below meth c H locs cells slots Q (F0 m (pc + 3) ls rest)) : W p l e R s m args below meth c H locs cells slots Q (F0 m pc ls (.int v :: .ref b :: rest)) := pF (k := 5) (ty := .int) C hO q0 he rfl inFX3 (by decide) wd_447 rfl tyX3 tyX3_ok nmX3 rfl (by decide +kernel) rfl rfl hlen hw hdg kk
set_option maxHeartbeats 4000000 in
set_option maxRecDepth 100000 in
theorem T_X3_clear (l : Launch) (D : va_G) (cy : Nat → ClassId) (a : Nat → Nat) (u : St)    : Mv l D cy (cW cy a) yX3_clear (.code yX3_clear cX3_clear 1 none) (rmo 0 0) [.ref (a 39)] u (fun (u' : St) => u' = (sI u 39 5 0)) := by
  refine Mv.of (own := RX3) rfl (by decide) (Nat.le_of_ble_eq_true rfl) ?_
  intro p e s m below meth c A Q ls C hret hO hl
  obtain ⟨hx, hb, hml, hown, ht, hK, hA⟩ := id C
  have hl : lv_has ls 1 [(0, .ref (a 39))] := hl
  refine lv_aload_n hx hb dX3_clear_0 rfl (lv_at hl 0 rfl) ?_
  refine lv_iconst (v := 0) hx hb dX3_clear_1 (by decide) ?_
  refine pf_RX3_28 C hO 39 cW_39 (Nat.le_of_ble_eq_true rfl) cW_s39_5 dX3_clear_2 (fun H locs hO => ?_)
  refine hret _ _ _ _ _ dX3_clear_5 ?_ hO
  exact rfl
theorem dX10_web_0 : decode cX10_web 0 = .ok (.aload_n 0, 1) := by decide +kernel
theorem dX10_web_1 : decode cX10_web 1 = .ok (.getfield 28, 3) := by decide +kernel
theorem dX10_web_4 : decode cX10_web 4 = .ok (.aload_n 0, 1) := by decide +kernel
theorem dX10_web_5 : decode cX10_web 5 = .ok (.getfield 19, 3) := by decide +kernel
theorem dX10_web_8 : decode cX10_web 8 = .ok (.invokevirtual 97, 3) := by decide +kernel
theorem dX10_web_11 : decode cX10_web 11 = .ok (.ifCond .ne 5, 3) := by decide +kernel
theorem dX10_web_14 : decode cX10_web 14 = .ok (.iconst (-1), 1) := by decide +kernel
theorem dX10_web_15 : decode cX10_web 15 = .ok (.ireturn, 1) := by decide +kernel
theorem dX10_web_16 : decode cX10_web 16 = .ok (.aload_n 0, 1) := by decide +kernel
theorem dX10_web_17 : decode cX10_web 17 = .ok (.getfield 37, 3) := by decide +kernel
theorem dX10_web_20 : decode cX10_web 20 = .ok (.getfield 101, 3) := by decide +kernel
theorem dX10_web_23 : decode cX10_web 23 = .ok (.astore_n 1, 1) := by decide +kernel
theorem dX10_web_24 : decode cX10_web 24 = .ok (.aload_n 0, 1) := by decide +kernel
theorem dX10_web_25 : decode cX10_web 25 = .ok (.getfield 37, 3) := by decide +kernel
theorem dX10_web_28 : decode cX10_web 28 = .ok (.aload_n 0, 1) := by decide +kernel
theorem dX10_web_29 : decode cX10_web 29 = .ok (.getfield 19, 3) := by decide +kernel
theorem dX10_web_32 : decode cX10_web 32 = .ok (.invokevirtual 104, 3) := by decide +kernel
theorem dX10_web_35 : decode cX10_web 35 = .ok (.aload_n 0, 1) := by decide +kernel
theorem dX10_web_36 : decode cX10_web 36 = .ok (.aload_n 1, 1) := by decide +kernel
theorem dX10_web_37 : decode cX10_web 37 = .ok (.putfield 19, 3) := by decide +kernel
theorem dX10_web_40 : decode cX10_web 40 = .ok (.aload_n 0, 1) := by decide +kernel
theorem dX10_web_41 : decode cX10_web 41 = .ok (.getfield 12, 3) := by decide +kernel
theorem dX10_web_44 : decode cX10_web 44 = .ok (.iconst 0, 1) := by decide +kernel
theorem dX10_web_45 : decode cX10_web 45 = .ok (.putfield 89, 3) := by decide +kernel
theorem dX10_web_48 : decode cX10_web 48 = .ok (.aload_n 0, 1) := by decide +kernel
theorem dX10_web_49 : decode cX10_web 49 = .ok (.getfield 44, 3) := by decide +kernel
theorem dX10_web_52 : decode cX10_web 52 = .ok (.invokevirtual 107, 3) := by decide +kernel
theorem dX10_web_55 : decode cX10_web 55 = .ok (.aload_n 0, 1) := by decide +kernel
theorem dX10_web_56 : decode cX10_web 56 = .ok (.getfield 76, 3) := by decide +kernel
theorem dX10_web_59 : decode cX10_web 59 = .ok (.invokevirtual 110, 3) := by decide +kernel
theorem dX10_web_62 : decode cX10_web 62 = .ok (.aload_n 0, 1) := by decide +kernel
theorem dX10_web_63 : decode cX10_web 63 = .ok (.iconst 0, 1) := by decide +kernel
theorem dX10_web_64 : decode cX10_web 64 = .ok (.putfield 111, 3) := by decide +kernel
theorem dX10_web_67 : decode cX10_web 67 = .ok (.aload_n 0, 1) := by decide +kernel
theorem dX10_web_68 : decode cX10_web 68 = .ok (.iconst 0, 1) := by decide +kernel
theorem dX10_web_69 : decode cX10_web 69 = .ok (.putfield 114, 3) := by decide +kernel
theorem dX10_web_72 : decode cX10_web 72 = .ok (.aload_n 0, 1) := by decide +kernel
theorem dX10_web_73 : decode cX10_web 73 = .ok (.getfield 37, 3) := by decide +kernel
theorem dX10_web_76 : decode cX10_web 76 = .ok (.getfield 101, 3) := by decide +kernel
theorem dX10_web_79 : decode cX10_web 79 = .ok (.getfield 117, 3) := by decide +kernel
theorem dX10_web_82 : decode cX10_web 82 = .ok (.ireturn, 1) := by decide +kernel
theorem wd_523 : (Cond.code ⟨"WebCourt", "web", "()I"⟩ prog_1_method_4_code (2 : Nat) (Option.some FieldType.int)) ∈ gtb := gtb_c2 174 (by decide +kernel) rfl
theorem wd_480 : (Cond.fieldLink "WebCourt" (19 : Nat) "WebCourt" "draft" "LWebCourt$Web;") ∈ gtb := gtb_c2 131 (by decide +kernel) rfl
theorem gf_RX10_19 {p : Program} {l : Launch} {e : Env} {R : Room} {s : State} {m : MethodId} {args : Array Value} {below : List Frame} {meth : Method} {c : Code} {H : Heap} {locs : List Loc} {cells slots : Nat} {Q : State → Prop} {cc : ByteArray} {pc nL : Nat} {ls : Array Slot} {rest : List Value} {D : va_G} {cy : Nat → ClassId} {A : Nat → Prop} {ws : va_W} {b : Nat} {fs : List Value} {v : Value} (C : Cx p s m args c cc nL RX10 D cy A) (hO : Wo D A ws s.heap H locs) (q0 : Nat) (he : ws[q0]? = some (b, .inr (10, fs))) (hv : fs[12]? = some v) (hdg : decode cc pc = .ok (.getfield 19, 3)) (kk : W p l e R s m args below meth c H locs cells slots Q (F0 m (pc + 3) ls (v :: rest))) : W p l e R s m args below meth c H locs cells slots Q (F0 m pc ls (.ref b :: rest)) := gF (k := 12) C hO q0 he rfl inFX10 (by decide) wd_480 rfl hv hdg kk
theorem wd_524 : (Cond.methodLink "WebCourt" (97 : Nat) ⟨"WebCourt$Reader", "read", "(LWebCourt$Web;)Z"⟩) ∈ gtb := gtb_c2 175 (by decide +kernel) rfl
theorem wd_525 : (Cond.instanceMethod ⟨"WebCourt$Reader", "read", "(LWebCourt$Web;)Z"⟩) ∈ gtb := gtb_c2 176 (by decide +kernel) rfl
theorem wd_526 : (Cond.selects "WebCourt$Reader" ⟨"WebCourt$Reader", "read", "(LWebCourt$Web;)Z"⟩ ⟨"WebCourt$Reader", "read", "(LWebCourt$Web;)Z"⟩) ∈ gtb := gtb_c2 177 (by decide +kernel) rfl
theorem wd_114 : (Cond.initialized "WebCourt$Reader") ∈ gtb := gtb_c1 5 (by decide +kernel) rfl
theorem hd_yX5_read : yX5_read.cls = RX5 ∧ yX5_read.cls ≠ "java/lang/invoke/MethodHandle" ∧ yX5_read.cls ≠ "java/lang/invoke/VarHandle" ∧ (parseMethodDescriptor yX5_read.desc).map (fun d => d.parameters.length) = some 1 := by decide +kernel
theorem wd_797 : (Cond.methodLink "WebCourt" (104 : Nat) ⟨"WebCourt$Court", "open", "(LWebCourt$Web;)V"⟩) ∈ gtb := gtb_c3 208 (by decide +kernel) rfl
theorem wd_798 : (Cond.instanceMethod ⟨"WebCourt$Court", "open", "(LWebCourt$Web;)V"⟩) ∈ gtb := gtb_c3 209 (by decide +kernel) rfl
theorem wd_799 : (Cond.selects "WebCourt$Court" ⟨"WebCourt$Court", "open", "(LWebCourt$Web;)V"⟩ ⟨"WebCourt$Court", "open", "(LWebCourt$Web;)V"⟩) ∈ gtb := gtb_c3 210 (by decide +kernel) rfl
theorem hd_yX2_open : yX2_open.cls = RX2 ∧ yX2_open.cls ≠ "java/lang/invoke/MethodHandle" ∧ yX2_open.cls ≠ "java/lang/invoke/VarHandle" ∧ (parseMethodDescriptor yX2_open.desc).map (fun d => d.parameters.length) = some 1 := by decide +kernel
theorem pf_RX10_19 {p : Program} {l : Launch} {e : Env} {R : Room} {s : State} {m : MethodId} {args : Array Value} {below : List Frame} {meth : Method} {c : Code} {H : Heap} {locs : List Loc} {cells slots : Nat} {Q : State → Prop} {cc : ByteArray} {pc nL : Nat} {ls : Array Slot} {rest : List Value} {D : va_G} {cy : Nat → ClassId} {A : Nat → Prop} {ws : va_W} {b : Nat} {fs : List Value} {v : Nat} {ws' : va_W} (C : Cx p s m args c cc nL RX10 D cy A) (hO : Wo D A ws s.heap H locs) (q0 : Nat) (he : ws[q0]? = some (b, .inr (10, fs))) (hlen : 12 < fs.length) (hw : ws.set q0 (b, .inr (10, fs.set 12 (.ref v))) = ws') (hdg : decode cc pc = .ok (.putfield 19, 3)) (kk : ∀ (H : Heap) (locs : List Loc), Wo D A ws' s.heap H locs → W p l e R s m args below meth c H locs cells slots Q (F0 m (pc + 3) ls rest)) : W p l e R s m args below meth c H locs cells slots Q (F0 m pc ls (.ref v :: .ref b :: rest)) := pF (k := 12) (ty := .object "WebCourt$Web") C hO q0 he rfl inFX10 (by decide) wd_480 rfl tyX10 tyX10_ok nmX10 rfl (by decide +kernel) rfl rfl hlen hw hdg kk
theorem wd_801 : (Cond.methodLink "WebCourt" (107 : Nat) ⟨"WebCourt$Acts", "clear", "()V"⟩) ∈ gtb := gtb_c3 212 (by decide +kernel) rfl
theorem wd_802 : (Cond.instanceMethod ⟨"WebCourt$Acts", "clear", "()V"⟩) ∈ gtb := gtb_c3 213 (by decide +kernel) rfl
theorem wd_803 : (Cond.selects "WebCourt$Acts" ⟨"WebCourt$Acts", "clear", "()V"⟩ ⟨"WebCourt$Acts", "clear", "()V"⟩) ∈ gtb := gtb_c3 214 (by decide +kernel) rfl
theorem hd_yX0_clear : yX0_clear.cls = RX0 ∧ yX0_clear.cls ≠ "java/lang/invoke/MethodHandle" ∧ yX0_clear.cls ≠ "java/lang/invoke/VarHandle" ∧ (parseMethodDescriptor yX0_clear.desc).map (fun d => d.parameters.length) = some 0 := by decide +kernel
theorem wd_805 : (Cond.methodLink "WebCourt" (110 : Nat) ⟨"WebCourt$Hearsay", "clear", "()V"⟩) ∈ gtb := gtb_c3 216 (by decide +kernel) rfl
theorem wd_806 : (Cond.instanceMethod ⟨"WebCourt$Hearsay", "clear", "()V"⟩) ∈ gtb := gtb_c3 217 (by decide +kernel) rfl
theorem wd_807 : (Cond.selects "WebCourt$Hearsay" ⟨"WebCourt$Hearsay", "clear", "()V"⟩ ⟨"WebCourt$Hearsay", "clear", "()V"⟩) ∈ gtb := gtb_c3 218 (by decide +kernel) rfl
theorem hd_yX3_clear : yX3_clear.cls = RX3 ∧ yX3_clear.cls ≠ "java/lang/invoke/MethodHandle" ∧ yX3_clear.cls ≠ "java/lang/invoke/VarHandle" ∧ (parseMethodDescriptor yX3_clear.desc).map (fun d => d.parameters.length) = some 0 := by decide +kernel
set_option maxHeartbeats 4000000 in
set_option maxRecDepth 100000 in
theorem T_X10_web (l : Launch) (D : va_G) (cy : Nat → ClassId) (a : Nat → Nat) (u : St) (hI_1_1 : fI u 1 1 = 0) (hR_0 : fR u 0 = a 3) (hR_1 : fR u 1 = a 15)   : Mi l D cy (cW cy a) yX10_web (.code yX10_web cX10_web 2 (some .int)) (rmo 3 63) [.ref (a 0)] u (fun (r : Int32) (u' : St) => r = 0) := by
  refine Mi.of (own := RX10) rfl (by decide) (Nat.le_of_ble_eq_true rfl) ?_
  intro p e s m below meth c A Q ls C hret hO hl
  obtain ⟨hx, hb, hml, hown, ht, hK, hA⟩ := id C
  have hl : lv_has ls 2 [(0, .ref (a 0))] := hl
  refine lv_aload_n hx hb dX10_web_0 rfl (lv_at hl 0 rfl) ?_
  refine gf_RX10_28 (v := .ref (a 27)) C hO 0 cW_0 rfl dX10_web_1 ?_
  refine lv_aload_n hx hb dX10_web_4 rfl (lv_at hl 0 rfl) ?_
  refine gf_RX10_19 (v := .ref (a 15)) C hO 0 cW_0 (congrArg (fun z : Nat => some (Value.ref z)) hR_1) dX10_web_5 ?_
  refine cVi (w := cW cy a) (As := [.ref (a 15)]) (rest := []) C hO (T_X5_read l D cy a _ (by exact hI_1_1)) (cwV 1 ht (gV wd_524 wd_525 wd_526 wd_114 wd_527) rfl rfl rfl hd_yX5_read ⟨Nat.le_of_ble_eq_true rfl, Nat.le_of_ble_eq_true rfl⟩) 27 rfl cW_27 rfl rfl hl.1 (Nat.le_of_ble_eq_true rfl) dX10_web_8 rfl ⟨Nat.zero_le _, Nat.zero_le _⟩ (fun r1 u2 H locs hp3 hO => ?_)
  obtain ⟨hr1, hu2⟩ := hp3
  subst hr1
  rw [hu2] at hO
  refine bt_ne (tgt := 16) (X := 1) hx hb dX10_web_11 (by decide) rfl (by omega) ?_
  refine lv_aload_n hx hb dX10_web_16 rfl (lv_at hl 0 rfl) ?_
  refine gf_RX10_37 (v := .ref (a 28)) C hO 0 cW_0 rfl dX10_web_17 ?_
  refine gf_RX10_101 (v := .ref (a 3)) C hO 28 cW_28 (congrArg (fun z : Nat => some (Value.ref z)) hR_0) dX10_web_20 ?_
  refine lv_astore_n (lv' := [(1, .ref (a 3)), (0, .ref (a 0))]) hx hb dX10_web_23 rfl hl (by decide) rfl (fun ls hl => ?_)
  refine lv_aload_n hx hb dX10_web_24 rfl (lv_at hl 1 rfl) ?_
  refine gf_RX10_37 (v := .ref (a 28)) C hO 0 cW_0 rfl dX10_web_25 ?_
  refine lv_aload_n hx hb dX10_web_28 rfl (lv_at hl 1 rfl) ?_
  refine gf_RX10_19 (v := .ref (a 15)) C hO 0 cW_0 (congrArg (fun z : Nat => some (Value.ref z)) hR_1) dX10_web_29 ?_
  refine cVv (w := cW cy a) (As := [.ref (a 15)]) (rest := []) C hO (T_X2_open l D cy a _ (by exact rfl) (by exact rfl) (by exact rfl) (by exact rfl)) (cwV 1 ht (gV wd_797 wd_798 wd_799 wd_115 wd_800) rfl rfl rfl hd_yX2_open ⟨Nat.le_of_ble_eq_true rfl, Nat.le_of_ble_eq_true rfl⟩) 28 rfl cW_28 rfl rfl hl.1 (Nat.le_of_ble_eq_true rfl) dX10_web_32 rfl ⟨Nat.zero_le _, Nat.zero_le _⟩ (fun u5 H locs hp6 hO => ?_)
  obtain ⟨hR_0_u5, hI_15_12_u5⟩ := hp6
  refine lv_aload_n hx hb dX10_web_35 rfl (lv_at hl 1 rfl) ?_
  refine lv_aload_n hx hb dX10_web_36 rfl (lv_at hl 0 rfl) ?_
  refine pf_RX10_19 C hO 0 cW_0 (Nat.le_of_ble_eq_true rfl) cW_s0_12 dX10_web_37 (fun H locs hO => ?_)
  refine lv_aload_n hx hb dX10_web_40 rfl (lv_at hl 1 rfl) ?_
  refine gf_RX10_12 (v := .ref (a 1)) C hO 0 cW_0 rfl dX10_web_41 ?_
  refine lv_iconst (v := 0) hx hb dX10_web_44 (by decide) ?_
  refine pf_RX10_89 C hO 1 cW_1 (Nat.le_of_ble_eq_true rfl) cW_s1_1 dX10_web_45 (fun H locs hO => ?_)
  refine lv_aload_n hx hb dX10_web_48 rfl (lv_at hl 1 rfl) ?_
  refine gf_RX10_44 (v := .ref (a 30)) C hO 0 cW_0 rfl dX10_web_49 ?_
  refine cVv (w := cW cy a) (As := []) (rest := []) C hO (T_X0_clear l D cy a _ ) (cwV 0 ht (gV wd_801 wd_802 wd_803 wd_116 wd_804) rfl rfl rfl hd_yX0_clear ⟨Nat.le_of_ble_eq_true rfl, Nat.le_of_ble_eq_true rfl⟩) 30 rfl cW_30 rfl rfl hl.1 (Nat.le_of_ble_eq_true rfl) dX10_web_52 rfl ⟨Nat.zero_le _, Nat.zero_le _⟩ (fun u8 H locs hp9 hO => ?_)
  have hu8 := hp9
  rw [hu8] at hO
  refine lv_aload_n hx hb dX10_web_55 rfl (lv_at hl 1 rfl) ?_
  refine gf_RX10_76 (v := .ref (a 39)) C hO 0 cW_0 rfl dX10_web_56 ?_
  refine cVv (w := cW cy a) (As := []) (rest := []) C hO (T_X3_clear l D cy a _ ) (cwV 0 ht (gV wd_805 wd_806 wd_807 wd_120 wd_808) rfl rfl rfl hd_yX3_clear ⟨Nat.le_of_ble_eq_true rfl, Nat.le_of_ble_eq_true rfl⟩) 39 rfl cW_39 rfl rfl hl.1 (Nat.le_of_ble_eq_true rfl) dX10_web_59 rfl ⟨Nat.zero_le _, Nat.zero_le _⟩ (fun u11 H locs hp12 hO => ?_)
  have hu11 := hp12
  rw [hu11] at hO
  refine lv_aload_n hx hb dX10_web_62 rfl (lv_at hl 1 rfl) ?_
  refine lv_iconst (v := 0) hx hb dX10_web_63 (by decide) ?_
  refine pf_RX10_111 C hO 0 cW_0 (Nat.le_of_ble_eq_true rfl) cW_s0_10 dX10_web_64 (fun H locs hO => ?_)
  refine lv_aload_n hx hb dX10_web_67 rfl (lv_at hl 1 rfl) ?_
  refine lv_iconst (v := 0) hx hb dX10_web_68 (by decide) ?_
  refine pf_RX10_114 C hO 0 cW_0 (Nat.le_of_ble_eq_true rfl) cW_s0_11 dX10_web_69 (fun H locs hO => ?_)
  refine lv_aload_n hx hb dX10_web_72 rfl (lv_at hl 1 rfl) ?_
  refine gf_RX10_37 (v := .ref (a 28)) C hO 0 cW_0 rfl dX10_web_73 ?_
  refine gf_RX10_101 (v := .ref (a 15)) C hO 28 cW_28 (congrArg (fun z : Nat => some (Value.ref z)) hR_0_u5) dX10_web_76 ?_
  refine gf_RX10_117 (v := .int 0) C hO 15 cW_15 (congrArg (fun z : Int32 => some (Value.int z)) hI_15_12_u5) dX10_web_79 ?_
  refine hret _ _ _ _ _ _ dX10_web_82 rfl ?_ hO
  exact rfl
end
